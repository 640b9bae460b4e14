theorem dX12_init_0 : decode cX12_init 0 = .ok (.aload_n 0, 1) := by decide +kernel
theorem dX12_init_1 : decode cX12_init 1 = .ok (.invokespecial 1, 3) := by decide +kernel
theorem dX12_init_4 : decode cX12_init 4 = .ok (.aload_n 0, 1) := by decide +kernel
theorem dX12_init_5 : decode cX12_init 5 = .ok (.sipush 215, 3) := by decide +kernel
theorem dX12_init_8 : decode cX12_init 8 = .ok (.newarray .int, 2) := by decide +kernel
theorem dX12_init_10 : decode cX12_init 10 = .ok (.putfield 7, 3) := by decide +kernel
theorem dX12_init_13 : decode cX12_init 13 = .ok (.aload_n 0, 1) := by decide +kernel
theorem dX12_init_14 : decode cX12_init 14 = .ok (.sipush 215, 3) := by decide +kernel
theorem dX12_init_17 : decode cX12_init 17 = .ok (.newarray .int, 2) := by decide +kernel
theorem dX12_init_19 : decode cX12_init 19 = .ok (.putfield 13, 3) := by decide +kernel
theorem dX12_init_22 : decode cX12_init 22 = .ok (.aload_n 0, 1) := by decide +kernel
theorem dX12_init_23 : decode cX12_init 23 = .ok (.sipush 2720, 3) := by decide +kernel
theorem dX12_init_26 : decode cX12_init 26 = .ok (.newarray .int, 2) := by decide +kernel
theorem dX12_init_28 : decode cX12_init 28 = .ok (.putfield 16, 3) := by decide +kernel
theorem dX12_init_31 : decode cX12_init 31 = .ok (.aload_n 0, 1) := by decide +kernel
theorem dX12_init_32 : decode cX12_init 32 = .ok (.sipush 300, 3) := by decide +kernel
theorem dX12_init_35 : decode cX12_init 35 = .ok (.newarray .int, 2) := by decide +kernel
theorem dX12_init_37 : decode cX12_init 37 = .ok (.putfield 19, 3) := by decide +kernel
theorem dX12_init_40 : decode cX12_init 40 = .ok (.aload_n 0, 1) := by decide +kernel
theorem dX12_init_41 : decode cX12_init 41 = .ok (.iconst (-1), 1) := by decide +kernel
theorem dX12_init_42 : decode cX12_init 42 = .ok (.putfield 22, 3) := by decide +kernel
theorem dX12_init_45 : decode cX12_init 45 = .ok (.aload_n 0, 1) := by decide +kernel
theorem dX12_init_46 : decode cX12_init 46 = .ok (.iconst (-1), 1) := by decide +kernel
theorem dX12_init_47 : decode cX12_init 47 = .ok (.putfield 26, 3) := by decide +kernel
theorem dX12_init_50 : decode cX12_init 50 = .ok (.aload_n 0, 1) := by decide +kernel
theorem dX12_init_51 : decode cX12_init 51 = .ok (.sipush 160, 3) := by decide +kernel
theorem dX12_init_54 : decode cX12_init 54 = .ok (.newarray .int, 2) := by decide +kernel
theorem dX12_init_56 : decode cX12_init 56 = .ok (.putfield 29, 3) := by decide +kernel
theorem dX12_init_59 : decode cX12_init 59 = .ok (.aload_n 0, 1) := by decide +kernel
theorem dX12_init_60 : decode cX12_init 60 = .ok (.bipush 6, 2) := by decide +kernel
theorem dX12_init_62 : decode cX12_init 62 = .ok (.newarray .int, 2) := by decide +kernel
theorem dX12_init_64 : decode cX12_init 64 = .ok (.putfield 32, 3) := by decide +kernel
theorem dX12_init_67 : decode cX12_init 67 = .ok (.aload_n 0, 1) := by decide +kernel
theorem dX12_init_68 : decode cX12_init 68 = .ok (.sipush 330, 3) := by decide +kernel
theorem dX12_init_71 : decode cX12_init 71 = .ok (.newarray .long, 2) := by decide +kernel
theorem dX12_init_73 : decode cX12_init 73 = .ok (.putfield 35, 3) := by decide +kernel
theorem dX12_init_76 : decode cX12_init 76 = .ok (.aload_n 0, 1) := by decide +kernel
theorem dX12_init_77 : decode cX12_init 77 = .ok (.sipush 330, 3) := by decide +kernel
theorem dX12_init_80 : decode cX12_init 80 = .ok (.newarray .boolean, 2) := by decide +kernel
theorem dX12_init_82 : decode cX12_init 82 = .ok (.putfield 39, 3) := by decide +kernel
theorem dX12_init_85 : decode cX12_init 85 = .ok (.aload_n 0, 1) := by decide +kernel
theorem dX12_init_86 : decode cX12_init 86 = .ok (.sipush 14400, 3) := by decide +kernel
theorem dX12_init_89 : decode cX12_init 89 = .ok (.newarray .int, 2) := by decide +kernel
theorem dX12_init_91 : decode cX12_init 91 = .ok (.putfield 43, 3) := by decide +kernel
theorem dX12_init_94 : decode cX12_init 94 = .ok (.aload_n 0, 1) := by decide +kernel
theorem dX12_init_95 : decode cX12_init 95 = .ok (.sipush 2304, 3) := by decide +kernel
theorem dX12_init_98 : decode cX12_init 98 = .ok (.newarray .long, 2) := by decide +kernel
theorem dX12_init_100 : decode cX12_init 100 = .ok (.putfield 46, 3) := by decide +kernel
theorem dX12_init_103 : decode cX12_init 103 = .ok (.aload_n 0, 1) := by decide +kernel
theorem dX12_init_104 : decode cX12_init 104 = .ok (.sipush 2304, 3) := by decide +kernel
theorem dX12_init_107 : decode cX12_init 107 = .ok (.newarray .long, 2) := by decide +kernel
theorem dX12_init_109 : decode cX12_init 109 = .ok (.putfield 49, 3) := by decide +kernel
theorem dX12_init_112 : decode cX12_init 112 = .ok (.aload_n 0, 1) := by decide +kernel
theorem dX12_init_113 : decode cX12_init 113 = .ok (.sipush 20736, 3) := by decide +kernel
theorem dX12_init_116 : decode cX12_init 116 = .ok (.newarray .boolean, 2) := by decide +kernel
theorem dX12_init_118 : decode cX12_init 118 = .ok (.putfield 52, 3) := by decide +kernel
theorem dX12_init_121 : decode cX12_init 121 = .ok (.aload_n 0, 1) := by decide +kernel
theorem dX12_init_122 : decode cX12_init 122 = .ok (.sipush 256, 3) := by decide +kernel
theorem dX12_init_125 : decode cX12_init 125 = .ok (.newarray .boolean, 2) := by decide +kernel
theorem dX12_init_127 : decode cX12_init 127 = .ok (.putfield 55, 3) := by decide +kernel
theorem dX12_init_130 : decode cX12_init 130 = .ok (.aload_n 0, 1) := by decide +kernel
theorem dX12_init_131 : decode cX12_init 131 = .ok (.sipush 256, 3) := by decide +kernel
theorem dX12_init_134 : decode cX12_init 134 = .ok (.newarray .int, 2) := by decide +kernel
theorem dX12_init_136 : decode cX12_init 136 = .ok (.putfield 58, 3) := by decide +kernel
theorem dX12_init_139 : decode cX12_init 139 = .ok (.aload_n 0, 1) := by decide +kernel
theorem dX12_init_140 : decode cX12_init 140 = .ok (.bipush 16, 2) := by decide +kernel
theorem dX12_init_142 : decode cX12_init 142 = .ok (.newarray .int, 2) := by decide +kernel
theorem dX12_init_144 : decode cX12_init 144 = .ok (.putfield 61, 3) := by decide +kernel
theorem dX12_init_147 : decode cX12_init 147 = .ok (.aload_n 0, 1) := by decide +kernel
theorem dX12_init_148 : decode cX12_init 148 = .ok (.ldc 64, 2) := by decide +kernel
theorem dX12_init_150 : decode cX12_init 150 = .ok (.newarray .boolean, 2) := by decide +kernel
theorem dX12_init_152 : decode cX12_init 152 = .ok (.putfield 65, 3) := by decide +kernel
theorem dX12_init_155 : decode cX12_init 155 = .ok (.aload_n 0, 1) := by decide +kernel
theorem dX12_init_156 : decode cX12_init 156 = .ok (.sipush 2304, 3) := by decide +kernel
theorem dX12_init_159 : decode cX12_init 159 = .ok (.newarray .int, 2) := by decide +kernel
theorem dX12_init_161 : decode cX12_init 161 = .ok (.putfield 68, 3) := by decide +kernel
theorem dX12_init_164 : decode cX12_init 164 = .ok (.aload_n 0, 1) := by decide +kernel
theorem dX12_init_165 : decode cX12_init 165 = .ok (.sipush 2304, 3) := by decide +kernel
theorem dX12_init_168 : decode cX12_init 168 = .ok (.newarray .int, 2) := by decide +kernel
theorem dX12_init_170 : decode cX12_init 170 = .ok (.putfield 71, 3) := by decide +kernel
theorem dX12_init_173 : decode cX12_init 173 = .ok (.aload_n 0, 1) := by decide +kernel
theorem dX12_init_174 : decode cX12_init 174 = .ok (.iload_n 1, 1) := by decide +kernel
theorem dX12_init_175 : decode cX12_init 175 = .ok (.iconst 2, 1) := by decide +kernel
theorem dX12_init_176 : decode cX12_init 176 = .ok (.if_icmp .ge 7, 3) := by decide +kernel
theorem dX12_init_179 : decode cX12_init 179 = .ok (.iconst 2, 1) := by decide +kernel
theorem dX12_init_180 : decode cX12_init 180 = .ok (.goto 13, 3) := by decide +kernel
theorem dX12_init_183 : decode cX12_init 183 = .ok (.iload_n 1, 1) := by decide +kernel
theorem dX12_init_184 : decode cX12_init 184 = .ok (.iconst 5, 1) := by decide +kernel
theorem dX12_init_185 : decode cX12_init 185 = .ok (.if_icmp .le 7, 3) := by decide +kernel
theorem dX12_init_188 : decode cX12_init 188 = .ok (.iconst 5, 1) := by decide +kernel
theorem dX12_init_189 : decode cX12_init 189 = .ok (.goto 4, 3) := by decide +kernel
theorem dX12_init_192 : decode cX12_init 192 = .ok (.iload_n 1, 1) := by decide +kernel
theorem dX12_init_193 : decode cX12_init 193 = .ok (.putfield 74, 3) := by decide +kernel
theorem dX12_init_196 : decode cX12_init 196 = .ok (.iload_n 2, 1) := by decide +kernel
theorem dX12_init_197 : decode cX12_init 197 = .ok (.iconst 2, 1) := by decide +kernel
theorem dX12_init_198 : decode cX12_init 198 = .ok (.if_icmp .ge 7, 3) := by decide +kernel
theorem dX12_init_201 : decode cX12_init 201 = .ok (.iconst 2, 1) := by decide +kernel
theorem dX12_init_202 : decode cX12_init 202 = .ok (.goto 15, 3) := by decide +kernel
theorem dX12_init_205 : decode cX12_init 205 = .ok (.iload_n 2, 1) := by decide +kernel
theorem dX12_init_206 : decode cX12_init 206 = .ok (.bipush 8, 2) := by decide +kernel
theorem dX12_init_208 : decode cX12_init 208 = .ok (.if_icmp .le 8, 3) := by decide +kernel
theorem dX12_init_211 : decode cX12_init 211 = .ok (.bipush 8, 2) := by decide +kernel
theorem dX12_init_213 : decode cX12_init 213 = .ok (.goto 4, 3) := by decide +kernel
theorem dX12_init_216 : decode cX12_init 216 = .ok (.iload_n 2, 1) := by decide +kernel
theorem dX12_init_217 : decode cX12_init 217 = .ok (.istore_n 3, 1) := by decide +kernel
theorem dX12_init_218 : decode cX12_init 218 = .ok (.aload_n 0, 1) := by decide +kernel
theorem dX12_init_219 : decode cX12_init 219 = .ok (.getfield 74, 3) := by decide +kernel
theorem dX12_init_222 : decode cX12_init 222 = .ok (.iload_n 3, 1) := by decide +kernel
theorem dX12_init_223 : decode cX12_init 223 = .ok (.invokestatic 77, 3) := by decide +kernel
theorem dX12_init_226 : decode cX12_init 226 = .ok (.sipush 256, 3) := by decide +kernel
theorem dX12_init_229 : decode cX12_init 229 = .ok (.if_icmp .le 9, 3) := by decide +kernel
theorem dX12_init_232 : decode cX12_init 232 = .ok (.iinc 3 (-1), 3) := by decide +kernel
theorem dX12_init_235 : decode cX12_init 235 = .ok (.goto (-17), 3) := by decide +kernel
theorem dX12_init_238 : decode cX12_init 238 = .ok (.aload_n 0, 1) := by decide +kernel
theorem dX12_init_239 : decode cX12_init 239 = .ok (.iload_n 3, 1) := by decide +kernel
theorem dX12_init_240 : decode cX12_init 240 = .ok (.putfield 81, 3) := by decide +kernel
theorem dX12_init_243 : decode cX12_init 243 = .ok (.aload_n 0, 1) := by decide +kernel
theorem dX12_init_244 : decode cX12_init 244 = .ok (.aload_n 0, 1) := by decide +kernel
theorem dX12_init_245 : decode cX12_init 245 = .ok (.getfield 74, 3) := by decide +kernel
theorem dX12_init_248 : decode cX12_init 248 = .ok (.iload_n 3, 1) := by decide +kernel
theorem dX12_init_249 : decode cX12_init 249 = .ok (.invokestatic 77, 3) := by decide +kernel
theorem dX12_init_252 : decode cX12_init 252 = .ok (.putfield 84, 3) := by decide +kernel
theorem dX12_init_255 : decode cX12_init 255 = .ok (.aload_n 0, 1) := by decide +kernel
theorem dX12_init_256 : decode cX12_init 256 = .ok (.getfield 7, 3) := by decide +kernel
theorem dX12_init_259 : decode cX12_init 259 = .ok (.iconst 1, 1) := by decide +kernel
theorem dX12_init_260 : decode cX12_init 260 = .ok (.iconst (-1), 1) := by decide +kernel
theorem dX12_init_261 : decode cX12_init 261 = .ok (.iastore, 1) := by decide +kernel
theorem dX12_init_262 : decode cX12_init 262 = .ok (.aload_n 0, 1) := by decide +kernel
theorem dX12_init_263 : decode cX12_init 263 = .ok (.getfield 7, 3) := by decide +kernel
theorem dX12_init_266 : decode cX12_init 266 = .ok (.aload_n 0, 1) := by decide +kernel
theorem dX12_init_267 : decode cX12_init 267 = .ok (.getfield 13, 3) := by decide +kernel
theorem dX12_init_270 : decode cX12_init 270 = .ok (.invokestatic 87, 3) := by decide +kernel
theorem dX12_init_273 : decode cX12_init 273 = .ok (.return_, 1) := by decide +kernel
theorem dX12_copy_0 : decode cX12_copy 0 = .ok (.iconst 0, 1) := by decide +kernel
theorem dX12_copy_1 : decode cX12_copy 1 = .ok (.istore_n 2, 1) := by decide +kernel
theorem dX12_copy_2 : decode cX12_copy 2 = .ok (.iload_n 2, 1) := by decide +kernel
theorem dX12_copy_3 : decode cX12_copy 3 = .ok (.sipush 215, 3) := by decide +kernel
theorem dX12_copy_6 : decode cX12_copy 6 = .ok (.if_icmp .ge 15, 3) := by decide +kernel
theorem dX12_copy_9 : decode cX12_copy 9 = .ok (.aload_n 1, 1) := by decide +kernel
theorem dX12_copy_10 : decode cX12_copy 10 = .ok (.iload_n 2, 1) := by decide +kernel
theorem dX12_copy_11 : decode cX12_copy 11 = .ok (.aload_n 0, 1) := by decide +kernel
theorem dX12_copy_12 : decode cX12_copy 12 = .ok (.iload_n 2, 1) := by decide +kernel
theorem dX12_copy_13 : decode cX12_copy 13 = .ok (.iaload, 1) := by decide +kernel
theorem dX12_copy_14 : decode cX12_copy 14 = .ok (.iastore, 1) := by decide +kernel
theorem dX12_copy_15 : decode cX12_copy 15 = .ok (.iinc 2 1, 3) := by decide +kernel
theorem dX12_copy_18 : decode cX12_copy 18 = .ok (.goto (-16), 3) := by decide +kernel
theorem dX12_copy_21 : decode cX12_copy 21 = .ok (.return_, 1) := by decide +kernel
theorem dX12_powerOf_0 : decode cX12_powerOf 0 = .ok (.iconst 1, 1) := by decide +kernel
theorem dX12_powerOf_1 : decode cX12_powerOf 1 = .ok (.istore_n 2, 1) := by decide +kernel
theorem dX12_powerOf_2 : decode cX12_powerOf 2 = .ok (.iconst 0, 1) := by decide +kernel
theorem dX12_powerOf_3 : decode cX12_powerOf 3 = .ok (.istore_n 3, 1) := by decide +kernel
theorem dX12_powerOf_4 : decode cX12_powerOf 4 = .ok (.iload_n 3, 1) := by decide +kernel
theorem dX12_powerOf_5 : decode cX12_powerOf 5 = .ok (.iload_n 1, 1) := by decide +kernel
theorem dX12_powerOf_6 : decode cX12_powerOf 6 = .ok (.if_icmp .ge 13, 3) := by decide +kernel
theorem dX12_powerOf_9 : decode cX12_powerOf 9 = .ok (.iload_n 2, 1) := by decide +kernel
theorem dX12_powerOf_10 : decode cX12_powerOf 10 = .ok (.iload_n 0, 1) := by decide +kernel
theorem dX12_powerOf_11 : decode cX12_powerOf 11 = .ok (.imul, 1) := by decide +kernel
theorem dX12_powerOf_12 : decode cX12_powerOf 12 = .ok (.istore_n 2, 1) := by decide +kernel
theorem dX12_powerOf_13 : decode cX12_powerOf 13 = .ok (.iinc 3 1, 3) := by decide +kernel
theorem dX12_powerOf_16 : decode cX12_powerOf 16 = .ok (.goto (-12), 3) := by decide +kernel
theorem dX12_powerOf_19 : decode cX12_powerOf 19 = .ok (.iload_n 2, 1) := by decide +kernel
theorem dX12_powerOf_20 : decode cX12_powerOf 20 = .ok (.ireturn, 1) := by decide +kernel
theorem dX12_isIn_0 : decode cX12_isIn 0 = .ok (.iload_n 0, 1) := by decide +kernel
theorem dX12_isIn_1 : decode cX12_isIn 1 = .ok (.iload_n 1, 1) := by decide +kernel
theorem dX12_isIn_2 : decode cX12_isIn 2 = .ok (.if_icmp .lt 12, 3) := by decide +kernel
theorem dX12_isIn_5 : decode cX12_isIn 5 = .ok (.iload_n 0, 1) := by decide +kernel
theorem dX12_isIn_6 : decode cX12_isIn 6 = .ok (.iload_n 2, 1) := by decide +kernel
theorem dX12_isIn_7 : decode cX12_isIn 7 = .ok (.if_icmp .gt 7, 3) := by decide +kernel
theorem dX12_isIn_10 : decode cX12_isIn 10 = .ok (.iconst 1, 1) := by decide +kernel
theorem dX12_isIn_11 : decode cX12_isIn 11 = .ok (.goto 4, 3) := by decide +kernel
theorem dX12_isIn_14 : decode cX12_isIn 14 = .ok (.iconst 0, 1) := by decide +kernel
theorem dX12_isIn_15 : decode cX12_isIn 15 = .ok (.ireturn, 1) := by decide +kernel
theorem dX12_held_0 : decode cX12_held 0 = .ok (.lload_n 0, 1) := by decide +kernel
theorem dX12_held_1 : decode cX12_held 1 = .ok (.iload_n 2, 1) := by decide +kernel
theorem dX12_held_2 : decode cX12_held 2 = .ok (.i2l, 1) := by decide +kernel
theorem dX12_held_3 : decode cX12_held 3 = .ok (.lcmp, 1) := by decide +kernel
theorem dX12_held_4 : decode cX12_held 4 = .ok (.ifCond .ge 7, 3) := by decide +kernel
theorem dX12_held_7 : decode cX12_held 7 = .ok (.iload_n 2, 1) := by decide +kernel
theorem dX12_held_8 : decode cX12_held 8 = .ok (.goto 16, 3) := by decide +kernel
theorem dX12_held_11 : decode cX12_held 11 = .ok (.lload_n 0, 1) := by decide +kernel
theorem dX12_held_12 : decode cX12_held 12 = .ok (.iload_n 3, 1) := by decide +kernel
theorem dX12_held_13 : decode cX12_held 13 = .ok (.i2l, 1) := by decide +kernel
theorem dX12_held_14 : decode cX12_held 14 = .ok (.lcmp, 1) := by decide +kernel
theorem dX12_held_15 : decode cX12_held 15 = .ok (.ifCond .le 7, 3) := by decide +kernel
theorem dX12_held_18 : decode cX12_held 18 = .ok (.iload_n 3, 1) := by decide +kernel
theorem dX12_held_19 : decode cX12_held 19 = .ok (.goto 5, 3) := by decide +kernel
theorem dX12_held_22 : decode cX12_held 22 = .ok (.lload_n 0, 1) := by decide +kernel
theorem dX12_held_23 : decode cX12_held 23 = .ok (.l2i, 1) := by decide +kernel
theorem dX12_held_24 : decode cX12_held 24 = .ok (.ireturn, 1) := by decide +kernel
theorem dX12_isWord0_0 : decode cX12_isWord0 0 = .ok (.iload_n 1, 1) := by decide +kernel
theorem dX12_isWord0_1 : decode cX12_isWord0 1 = .ok (.iconst 0, 1) := by decide +kernel
theorem dX12_isWord0_2 : decode cX12_isWord0 2 = .ok (.aload_n 0, 1) := by decide +kernel
theorem dX12_isWord0_3 : decode cX12_isWord0 3 = .ok (.getfield 84, 3) := by decide +kernel
theorem dX12_isWord0_6 : decode cX12_isWord0 6 = .ok (.iconst 1, 1) := by decide +kernel
theorem dX12_isWord0_7 : decode cX12_isWord0 7 = .ok (.isub, 1) := by decide +kernel
theorem dX12_isWord0_8 : decode cX12_isWord0 8 = .ok (.invokestatic 91, 3) := by decide +kernel
theorem dX12_isWord0_11 : decode cX12_isWord0 11 = .ok (.ireturn, 1) := by decide +kernel
theorem dX12_letterAt_0 : decode cX12_letterAt 0 = .ok (.iload_n 1, 1) := by decide +kernel
theorem dX12_letterAt_1 : decode cX12_letterAt 1 = .ok (.aload_n 0, 1) := by decide +kernel
theorem dX12_letterAt_2 : decode cX12_letterAt 2 = .ok (.getfield 74, 3) := by decide +kernel
theorem dX12_letterAt_5 : decode cX12_letterAt 5 = .ok (.aload_n 0, 1) := by decide +kernel
theorem dX12_letterAt_6 : decode cX12_letterAt 6 = .ok (.getfield 81, 3) := by decide +kernel
theorem dX12_letterAt_9 : decode cX12_letterAt 9 = .ok (.iconst 1, 1) := by decide +kernel
theorem dX12_letterAt_10 : decode cX12_letterAt 10 = .ok (.isub, 1) := by decide +kernel
theorem dX12_letterAt_11 : decode cX12_letterAt 11 = .ok (.iload_n 2, 1) := by decide +kernel
theorem dX12_letterAt_12 : decode cX12_letterAt 12 = .ok (.isub, 1) := by decide +kernel
theorem dX12_letterAt_13 : decode cX12_letterAt 13 = .ok (.invokestatic 77, 3) := by decide +kernel
theorem dX12_letterAt_16 : decode cX12_letterAt 16 = .ok (.idiv, 1) := by decide +kernel
theorem dX12_letterAt_17 : decode cX12_letterAt 17 = .ok (.aload_n 0, 1) := by decide +kernel
theorem dX12_letterAt_18 : decode cX12_letterAt 18 = .ok (.getfield 74, 3) := by decide +kernel
theorem dX12_letterAt_21 : decode cX12_letterAt 21 = .ok (.irem, 1) := by decide +kernel
theorem dX12_letterAt_22 : decode cX12_letterAt 22 = .ok (.ireturn, 1) := by decide +kernel
theorem dX12_changed_0 : decode cX12_changed 0 = .ok (.iload_n 1, 1) := by decide +kernel
theorem dX12_changed_1 : decode cX12_changed 1 = .ok (.iload_n 3, 1) := by decide +kernel
theorem dX12_changed_2 : decode cX12_changed 2 = .ok (.aload_n 0, 1) := by decide +kernel
theorem dX12_changed_3 : decode cX12_changed 3 = .ok (.iload_n 1, 1) := by decide +kernel
theorem dX12_changed_4 : decode cX12_changed 4 = .ok (.iload_n 2, 1) := by decide +kernel
theorem dX12_changed_5 : decode cX12_changed 5 = .ok (.invokevirtual 95, 3) := by decide +kernel
theorem dX12_changed_8 : decode cX12_changed 8 = .ok (.isub, 1) := by decide +kernel
theorem dX12_changed_9 : decode cX12_changed 9 = .ok (.aload_n 0, 1) := by decide +kernel
theorem dX12_changed_10 : decode cX12_changed 10 = .ok (.getfield 74, 3) := by decide +kernel
theorem dX12_changed_13 : decode cX12_changed 13 = .ok (.aload_n 0, 1) := by decide +kernel
theorem dX12_changed_14 : decode cX12_changed 14 = .ok (.getfield 81, 3) := by decide +kernel
theorem dX12_changed_17 : decode cX12_changed 17 = .ok (.iconst 1, 1) := by decide +kernel
theorem dX12_changed_18 : decode cX12_changed 18 = .ok (.isub, 1) := by decide +kernel
theorem dX12_changed_19 : decode cX12_changed 19 = .ok (.iload_n 2, 1) := by decide +kernel
theorem dX12_changed_20 : decode cX12_changed 20 = .ok (.isub, 1) := by decide +kernel
theorem dX12_changed_21 : decode cX12_changed 21 = .ok (.invokestatic 77, 3) := by decide +kernel
theorem dX12_changed_24 : decode cX12_changed 24 = .ok (.imul, 1) := by decide +kernel
theorem dX12_changed_25 : decode cX12_changed 25 = .ok (.iadd, 1) := by decide +kernel
theorem dX12_changed_26 : decode cX12_changed 26 = .ok (.ireturn, 1) := by decide +kernel
theorem dX12_wordOf_0 : decode cX12_wordOf 0 = .ok (.aload_n 0, 1) := by decide +kernel
theorem dX12_wordOf_1 : decode cX12_wordOf 1 = .ok (.getfield 7, 3) := by decide +kernel
theorem dX12_wordOf_4 : decode cX12_wordOf 4 = .ok (.bipush 10, 2) := by decide +kernel
theorem dX12_wordOf_6 : decode cX12_wordOf 6 = .ok (.iconst 2, 1) := by decide +kernel
theorem dX12_wordOf_7 : decode cX12_wordOf 7 = .ok (.iload_n 1, 1) := by decide +kernel
theorem dX12_wordOf_8 : decode cX12_wordOf 8 = .ok (.imul, 1) := by decide +kernel
theorem dX12_wordOf_9 : decode cX12_wordOf 9 = .ok (.iadd, 1) := by decide +kernel
theorem dX12_wordOf_10 : decode cX12_wordOf 10 = .ok (.iaload, 1) := by decide +kernel
theorem dX12_wordOf_11 : decode cX12_wordOf 11 = .ok (.ireturn, 1) := by decide +kernel
theorem dX12_placeIn_0 : decode cX12_placeIn 0 = .ok (.iconst 0, 1) := by decide +kernel
theorem dX12_placeIn_1 : decode cX12_placeIn 1 = .ok (.istore_n 2, 1) := by decide +kernel
theorem dX12_placeIn_2 : decode cX12_placeIn 2 = .ok (.iload_n 2, 1) := by decide +kernel
theorem dX12_placeIn_3 : decode cX12_placeIn 3 = .ok (.aload_n 0, 1) := by decide +kernel
theorem dX12_placeIn_4 : decode cX12_placeIn 4 = .ok (.getfield 7, 3) := by decide +kernel
theorem dX12_placeIn_7 : decode cX12_placeIn 7 = .ok (.iconst 2, 1) := by decide +kernel
theorem dX12_placeIn_8 : decode cX12_placeIn 8 = .ok (.iaload, 1) := by decide +kernel
theorem dX12_placeIn_9 : decode cX12_placeIn 9 = .ok (.if_icmp .ge 20, 3) := by decide +kernel
theorem dX12_placeIn_12 : decode cX12_placeIn 12 = .ok (.aload_n 0, 1) := by decide +kernel
theorem dX12_placeIn_13 : decode cX12_placeIn 13 = .ok (.iload_n 2, 1) := by decide +kernel
theorem dX12_placeIn_14 : decode cX12_placeIn 14 = .ok (.invokevirtual 98, 3) := by decide +kernel
theorem dX12_placeIn_17 : decode cX12_placeIn 17 = .ok (.iload_n 1, 1) := by decide +kernel
theorem dX12_placeIn_18 : decode cX12_placeIn 18 = .ok (.if_icmp .ne 5, 3) := by decide +kernel
theorem dX12_placeIn_21 : decode cX12_placeIn 21 = .ok (.iload_n 2, 1) := by decide +kernel
theorem dX12_placeIn_22 : decode cX12_placeIn 22 = .ok (.ireturn, 1) := by decide +kernel
theorem dX12_placeIn_23 : decode cX12_placeIn 23 = .ok (.iinc 2 1, 3) := by decide +kernel
theorem dX12_placeIn_26 : decode cX12_placeIn 26 = .ok (.goto (-24), 3) := by decide +kernel
theorem dX12_placeIn_29 : decode cX12_placeIn 29 = .ok (.iconst (-1), 1) := by decide +kernel
theorem dX12_placeIn_30 : decode cX12_placeIn 30 = .ok (.ireturn, 1) := by decide +kernel
theorem dX12_put_0 : decode cX12_put 0 = .ok (.aload_n 0, 1) := by decide +kernel
theorem dX12_put_1 : decode cX12_put 1 = .ok (.iload_n 1, 1) := by decide +kernel
theorem dX12_put_2 : decode cX12_put 2 = .ok (.invokevirtual 102, 3) := by decide +kernel
theorem dX12_put_5 : decode cX12_put 5 = .ok (.ifCond .eq 32, 3) := by decide +kernel
theorem dX12_put_8 : decode cX12_put 8 = .ok (.iload_n 2, 1) := by decide +kernel
theorem dX12_put_9 : decode cX12_put 9 = .ok (.iconst 1, 1) := by decide +kernel
theorem dX12_put_10 : decode cX12_put 10 = .ok (.bipush 9, 2) := by decide +kernel
theorem dX12_put_12 : decode cX12_put 12 = .ok (.invokestatic 91, 3) := by decide +kernel
theorem dX12_put_15 : decode cX12_put 15 = .ok (.ifCond .eq 22, 3) := by decide +kernel
theorem dX12_put_18 : decode cX12_put 18 = .ok (.aload_n 0, 1) := by decide +kernel
theorem dX12_put_19 : decode cX12_put 19 = .ok (.iload_n 1, 1) := by decide +kernel
theorem dX12_put_20 : decode cX12_put 20 = .ok (.invokevirtual 106, 3) := by decide +kernel
theorem dX12_put_23 : decode cX12_put 23 = .ok (.ifCond .ge 14, 3) := by decide +kernel
theorem dX12_put_26 : decode cX12_put 26 = .ok (.aload_n 0, 1) := by decide +kernel
theorem dX12_put_27 : decode cX12_put 27 = .ok (.getfield 7, 3) := by decide +kernel
theorem dX12_put_30 : decode cX12_put 30 = .ok (.iconst 2, 1) := by decide +kernel
theorem dX12_put_31 : decode cX12_put 31 = .ok (.iaload, 1) := by decide +kernel
theorem dX12_put_32 : decode cX12_put 32 = .ok (.bipush 40, 2) := by decide +kernel
theorem dX12_put_34 : decode cX12_put 34 = .ok (.if_icmp .ne 5, 3) := by decide +kernel
theorem dX12_put_37 : decode cX12_put 37 = .ok (.iconst (-1), 1) := by decide +kernel
theorem dX12_put_38 : decode cX12_put 38 = .ok (.ireturn, 1) := by decide +kernel
theorem dX12_put_39 : decode cX12_put 39 = .ok (.aload_n 0, 1) := by decide +kernel
theorem dX12_put_40 : decode cX12_put 40 = .ok (.getfield 7, 3) := by decide +kernel
theorem dX12_put_43 : decode cX12_put 43 = .ok (.bipush 10, 2) := by decide +kernel
theorem dX12_put_45 : decode cX12_put 45 = .ok (.iconst 2, 1) := by decide +kernel
theorem dX12_put_46 : decode cX12_put 46 = .ok (.aload_n 0, 1) := by decide +kernel
theorem dX12_put_47 : decode cX12_put 47 = .ok (.getfield 7, 3) := by decide +kernel
theorem dX12_put_50 : decode cX12_put 50 = .ok (.iconst 2, 1) := by decide +kernel
theorem dX12_put_51 : decode cX12_put 51 = .ok (.iaload, 1) := by decide +kernel
theorem dX12_put_52 : decode cX12_put 52 = .ok (.imul, 1) := by decide +kernel
theorem dX12_put_53 : decode cX12_put 53 = .ok (.iadd, 1) := by decide +kernel
theorem dX12_put_54 : decode cX12_put 54 = .ok (.iload_n 1, 1) := by decide +kernel
theorem dX12_put_55 : decode cX12_put 55 = .ok (.iastore, 1) := by decide +kernel
theorem dX12_put_56 : decode cX12_put 56 = .ok (.aload_n 0, 1) := by decide +kernel
theorem dX12_put_57 : decode cX12_put 57 = .ok (.getfield 7, 3) := by decide +kernel
theorem dX12_put_60 : decode cX12_put 60 = .ok (.bipush 10, 2) := by decide +kernel
theorem dX12_put_62 : decode cX12_put 62 = .ok (.iconst 2, 1) := by decide +kernel
theorem dX12_put_63 : decode cX12_put 63 = .ok (.aload_n 0, 1) := by decide +kernel
theorem dX12_put_64 : decode cX12_put 64 = .ok (.getfield 7, 3) := by decide +kernel
theorem dX12_put_67 : decode cX12_put 67 = .ok (.iconst 2, 1) := by decide +kernel
theorem dX12_put_68 : decode cX12_put 68 = .ok (.iaload, 1) := by decide +kernel
theorem dX12_put_69 : decode cX12_put 69 = .ok (.imul, 1) := by decide +kernel
theorem dX12_put_70 : decode cX12_put 70 = .ok (.iadd, 1) := by decide +kernel
theorem dX12_put_71 : decode cX12_put 71 = .ok (.iconst 1, 1) := by decide +kernel
theorem dX12_put_72 : decode cX12_put 72 = .ok (.iadd, 1) := by decide +kernel
theorem dX12_put_73 : decode cX12_put 73 = .ok (.iload_n 2, 1) := by decide +kernel
theorem dX12_put_74 : decode cX12_put 74 = .ok (.iastore, 1) := by decide +kernel
theorem dX12_put_75 : decode cX12_put 75 = .ok (.aload_n 0, 1) := by decide +kernel
theorem dX12_put_76 : decode cX12_put 76 = .ok (.getfield 7, 3) := by decide +kernel
theorem dX12_put_79 : decode cX12_put 79 = .ok (.iconst 2, 1) := by decide +kernel
theorem dX12_put_80 : decode cX12_put 80 = .ok (.dup2, 1) := by decide +kernel
theorem dX12_put_81 : decode cX12_put 81 = .ok (.iaload, 1) := by decide +kernel
theorem dX12_put_82 : decode cX12_put 82 = .ok (.iconst 1, 1) := by decide +kernel
theorem dX12_put_83 : decode cX12_put 83 = .ok (.iadd, 1) := by decide +kernel
theorem dX12_put_84 : decode cX12_put 84 = .ok (.iastore, 1) := by decide +kernel
theorem dX12_put_85 : decode cX12_put 85 = .ok (.aload_n 0, 1) := by decide +kernel
theorem dX12_put_86 : decode cX12_put 86 = .ok (.getfield 7, 3) := by decide +kernel
theorem dX12_put_89 : decode cX12_put 89 = .ok (.iconst 2, 1) := by decide +kernel
theorem dX12_put_90 : decode cX12_put 90 = .ok (.iaload, 1) := by decide +kernel
theorem dX12_put_91 : decode cX12_put 91 = .ok (.ireturn, 1) := by decide +kernel
theorem dX12_take_0 : decode cX12_take 0 = .ok (.aload_n 0, 1) := by decide +kernel
theorem dX12_take_1 : decode cX12_take 1 = .ok (.iload_n 1, 1) := by decide +kernel
theorem dX12_take_2 : decode cX12_take 2 = .ok (.invokevirtual 106, 3) := by decide +kernel
theorem dX12_take_5 : decode cX12_take 5 = .ok (.istore_n 2, 1) := by decide +kernel
theorem dX12_take_6 : decode cX12_take 6 = .ok (.iload_n 2, 1) := by decide +kernel
theorem dX12_take_7 : decode cX12_take 7 = .ok (.ifCond .ge 5, 3) := by decide +kernel
theorem dX12_take_10 : decode cX12_take 10 = .ok (.iconst (-1), 1) := by decide +kernel
theorem dX12_take_11 : decode cX12_take 11 = .ok (.ireturn, 1) := by decide +kernel
theorem dX12_take_12 : decode cX12_take 12 = .ok (.aload_n 0, 1) := by decide +kernel
theorem dX12_take_13 : decode cX12_take 13 = .ok (.getfield 7, 3) := by decide +kernel
theorem dX12_take_16 : decode cX12_take 16 = .ok (.iconst 2, 1) := by decide +kernel
theorem dX12_take_17 : decode cX12_take 17 = .ok (.dup2, 1) := by decide +kernel
theorem dX12_take_18 : decode cX12_take 18 = .ok (.iaload, 1) := by decide +kernel
theorem dX12_take_19 : decode cX12_take 19 = .ok (.iconst 1, 1) := by decide +kernel
theorem dX12_take_20 : decode cX12_take 20 = .ok (.isub, 1) := by decide +kernel
theorem dX12_take_21 : decode cX12_take 21 = .ok (.iastore, 1) := by decide +kernel
theorem dX12_take_22 : decode cX12_take 22 = .ok (.iload_n 2, 1) := by decide +kernel
theorem dX12_take_23 : decode cX12_take 23 = .ok (.aload_n 0, 1) := by decide +kernel
theorem dX12_take_24 : decode cX12_take 24 = .ok (.getfield 7, 3) := by decide +kernel
theorem dX12_take_27 : decode cX12_take 27 = .ok (.iconst 2, 1) := by decide +kernel
theorem dX12_take_28 : decode cX12_take 28 = .ok (.iaload, 1) := by decide +kernel
theorem dX12_take_29 : decode cX12_take 29 = .ok (.if_icmp .ge 59, 3) := by decide +kernel
theorem dX12_take_32 : decode cX12_take 32 = .ok (.aload_n 0, 1) := by decide +kernel
theorem dX12_take_33 : decode cX12_take 33 = .ok (.getfield 7, 3) := by decide +kernel
theorem dX12_take_36 : decode cX12_take 36 = .ok (.bipush 10, 2) := by decide +kernel
theorem dX12_take_38 : decode cX12_take 38 = .ok (.iconst 2, 1) := by decide +kernel
theorem dX12_take_39 : decode cX12_take 39 = .ok (.iload_n 2, 1) := by decide +kernel
theorem dX12_take_40 : decode cX12_take 40 = .ok (.imul, 1) := by decide +kernel
theorem dX12_take_41 : decode cX12_take 41 = .ok (.iadd, 1) := by decide +kernel
theorem dX12_take_42 : decode cX12_take 42 = .ok (.aload_n 0, 1) := by decide +kernel
theorem dX12_take_43 : decode cX12_take 43 = .ok (.getfield 7, 3) := by decide +kernel
theorem dX12_take_46 : decode cX12_take 46 = .ok (.bipush 10, 2) := by decide +kernel
theorem dX12_take_48 : decode cX12_take 48 = .ok (.iconst 2, 1) := by decide +kernel
theorem dX12_take_49 : decode cX12_take 49 = .ok (.iload_n 2, 1) := by decide +kernel
theorem dX12_take_50 : decode cX12_take 50 = .ok (.imul, 1) := by decide +kernel
theorem dX12_take_51 : decode cX12_take 51 = .ok (.iadd, 1) := by decide +kernel
theorem dX12_take_52 : decode cX12_take 52 = .ok (.iconst 2, 1) := by decide +kernel
theorem dX12_take_53 : decode cX12_take 53 = .ok (.iadd, 1) := by decide +kernel
theorem dX12_take_54 : decode cX12_take 54 = .ok (.iaload, 1) := by decide +kernel
theorem dX12_take_55 : decode cX12_take 55 = .ok (.iastore, 1) := by decide +kernel
theorem dX12_take_56 : decode cX12_take 56 = .ok (.aload_n 0, 1) := by decide +kernel
theorem dX12_take_57 : decode cX12_take 57 = .ok (.getfield 7, 3) := by decide +kernel
theorem dX12_take_60 : decode cX12_take 60 = .ok (.bipush 10, 2) := by decide +kernel
theorem dX12_take_62 : decode cX12_take 62 = .ok (.iconst 2, 1) := by decide +kernel
theorem dX12_take_63 : decode cX12_take 63 = .ok (.iload_n 2, 1) := by decide +kernel
theorem dX12_take_64 : decode cX12_take 64 = .ok (.imul, 1) := by decide +kernel
theorem dX12_take_65 : decode cX12_take 65 = .ok (.iadd, 1) := by decide +kernel
theorem dX12_take_66 : decode cX12_take 66 = .ok (.iconst 1, 1) := by decide +kernel
theorem dX12_take_67 : decode cX12_take 67 = .ok (.iadd, 1) := by decide +kernel
theorem dX12_take_68 : decode cX12_take 68 = .ok (.aload_n 0, 1) := by decide +kernel
theorem dX12_take_69 : decode cX12_take 69 = .ok (.getfield 7, 3) := by decide +kernel
theorem dX12_take_72 : decode cX12_take 72 = .ok (.bipush 10, 2) := by decide +kernel
theorem dX12_take_74 : decode cX12_take 74 = .ok (.iconst 2, 1) := by decide +kernel
theorem dX12_take_75 : decode cX12_take 75 = .ok (.iload_n 2, 1) := by decide +kernel
theorem dX12_take_76 : decode cX12_take 76 = .ok (.imul, 1) := by decide +kernel
theorem dX12_take_77 : decode cX12_take 77 = .ok (.iadd, 1) := by decide +kernel
theorem dX12_take_78 : decode cX12_take 78 = .ok (.iconst 3, 1) := by decide +kernel
theorem dX12_take_79 : decode cX12_take 79 = .ok (.iadd, 1) := by decide +kernel
theorem dX12_take_80 : decode cX12_take 80 = .ok (.iaload, 1) := by decide +kernel
theorem dX12_take_81 : decode cX12_take 81 = .ok (.iastore, 1) := by decide +kernel
theorem dX12_take_82 : decode cX12_take 82 = .ok (.iinc 2 1, 3) := by decide +kernel
theorem dX12_take_85 : decode cX12_take 85 = .ok (.goto (-63), 3) := by decide +kernel
theorem dX12_take_88 : decode cX12_take 88 = .ok (.aload_n 0, 1) := by decide +kernel
theorem dX12_take_89 : decode cX12_take 89 = .ok (.getfield 7, 3) := by decide +kernel
theorem dX12_take_92 : decode cX12_take 92 = .ok (.iconst 2, 1) := by decide +kernel
theorem dX12_take_93 : decode cX12_take 93 = .ok (.iaload, 1) := by decide +kernel
theorem dX12_take_94 : decode cX12_take 94 = .ok (.ireturn, 1) := by decide +kernel
theorem dX12_book_0 : decode cX12_book 0 = .ok (.iload_n 1, 1) := by decide +kernel
theorem dX12_book_1 : decode cX12_book 1 = .ok (.iconst (-1), 1) := by decide +kernel
theorem dX12_book_2 : decode cX12_book 2 = .ok (.if_icmp .ne 12, 3) := by decide +kernel
theorem dX12_book_5 : decode cX12_book 5 = .ok (.aload_n 0, 1) := by decide +kernel
theorem dX12_book_6 : decode cX12_book 6 = .ok (.getfield 7, 3) := by decide +kernel
theorem dX12_book_9 : decode cX12_book 9 = .ok (.iconst 2, 1) := by decide +kernel
theorem dX12_book_10 : decode cX12_book 10 = .ok (.iaload, 1) := by decide +kernel
theorem dX12_book_11 : decode cX12_book 11 = .ok (.goto 28, 3) := by decide +kernel
theorem dX12_book_14 : decode cX12_book 14 = .ok (.iload_n 1, 1) := by decide +kernel
theorem dX12_book_15 : decode cX12_book 15 = .ok (.iconst 0, 1) := by decide +kernel
theorem dX12_book_16 : decode cX12_book 16 = .ok (.aload_n 0, 1) := by decide +kernel
theorem dX12_book_17 : decode cX12_book 17 = .ok (.getfield 7, 3) := by decide +kernel
theorem dX12_book_20 : decode cX12_book 20 = .ok (.iconst 2, 1) := by decide +kernel
theorem dX12_book_21 : decode cX12_book 21 = .ok (.iaload, 1) := by decide +kernel
theorem dX12_book_22 : decode cX12_book 22 = .ok (.iconst 1, 1) := by decide +kernel
theorem dX12_book_23 : decode cX12_book 23 = .ok (.isub, 1) := by decide +kernel
theorem dX12_book_24 : decode cX12_book 24 = .ok (.invokestatic 91, 3) := by decide +kernel
theorem dX12_book_27 : decode cX12_book 27 = .ok (.ifCond .eq 11, 3) := by decide +kernel
theorem dX12_book_30 : decode cX12_book 30 = .ok (.aload_n 0, 1) := by decide +kernel
theorem dX12_book_31 : decode cX12_book 31 = .ok (.iload_n 1, 1) := by decide +kernel
theorem dX12_book_32 : decode cX12_book 32 = .ok (.invokevirtual 98, 3) := by decide +kernel
theorem dX12_book_35 : decode cX12_book 35 = .ok (.goto 4, 3) := by decide +kernel
theorem dX12_book_38 : decode cX12_book 38 = .ok (.iconst (-1), 1) := by decide +kernel
theorem dX12_book_39 : decode cX12_book 39 = .ok (.ireturn, 1) := by decide +kernel
theorem dX12_four_0 : decode cX12_four 0 = .ok (.bipush 24, 2) := by decide +kernel
theorem dX12_four_2 : decode cX12_four 2 = .ok (.istore_n 2, 1) := by decide +kernel
theorem dX12_four_3 : decode cX12_four 3 = .ok (.iload_n 2, 1) := by decide +kernel
theorem dX12_four_4 : decode cX12_four 4 = .ok (.ifCond .lt 35, 3) := by decide +kernel
theorem dX12_four_7 : decode cX12_four 7 = .ok (.aload_n 0, 1) := by decide +kernel
theorem dX12_four_8 : decode cX12_four 8 = .ok (.getfield 19, 3) := by decide +kernel
theorem dX12_four_11 : decode cX12_four 11 = .ok (.aload_n 0, 1) := by decide +kernel
theorem dX12_four_12 : decode cX12_four 12 = .ok (.getfield 109, 3) := by decide +kernel
theorem dX12_four_15 : decode cX12_four 15 = .ok (.iload_n 1, 1) := by decide +kernel
theorem dX12_four_16 : decode cX12_four 16 = .ok (.iload_n 2, 1) := by decide +kernel
theorem dX12_four_17 : decode cX12_four 17 = .ok (.ishr, 1) := by decide +kernel
theorem dX12_four_18 : decode cX12_four 18 = .ok (.sipush 255, 3) := by decide +kernel
theorem dX12_four_21 : decode cX12_four 21 = .ok (.iand, 1) := by decide +kernel
theorem dX12_four_22 : decode cX12_four 22 = .ok (.iastore, 1) := by decide +kernel
theorem dX12_four_23 : decode cX12_four 23 = .ok (.aload_n 0, 1) := by decide +kernel
theorem dX12_four_24 : decode cX12_four 24 = .ok (.dup, 1) := by decide +kernel
theorem dX12_four_25 : decode cX12_four 25 = .ok (.getfield 109, 3) := by decide +kernel
theorem dX12_four_28 : decode cX12_four 28 = .ok (.iconst 1, 1) := by decide +kernel
theorem dX12_four_29 : decode cX12_four 29 = .ok (.iadd, 1) := by decide +kernel
theorem dX12_four_30 : decode cX12_four 30 = .ok (.putfield 109, 3) := by decide +kernel
theorem dX12_four_33 : decode cX12_four 33 = .ok (.iinc 2 (-8), 3) := by decide +kernel
theorem dX12_four_36 : decode cX12_four 36 = .ok (.goto (-33), 3) := by decide +kernel
theorem dX12_four_39 : decode cX12_four 39 = .ok (.return_, 1) := by decide +kernel
theorem dX12_feed_0 : decode cX12_feed 0 = .ok (.aload_n 0, 1) := by decide +kernel
theorem dX12_feed_1 : decode cX12_feed 1 = .ok (.getfield 109, 3) := by decide +kernel
theorem dX12_feed_4 : decode cX12_feed 4 = .ok (.bipush 20, 2) := by decide +kernel
theorem dX12_feed_6 : decode cX12_feed 6 = .ok (.iadd, 1) := by decide +kernel
theorem dX12_feed_7 : decode cX12_feed 7 = .ok (.sipush 300, 3) := by decide +kernel
theorem dX12_feed_10 : decode cX12_feed 10 = .ok (.if_icmp .le 5, 3) := by decide +kernel
theorem dX12_feed_13 : decode cX12_feed 13 = .ok (.iconst (-1), 1) := by decide +kernel
theorem dX12_feed_14 : decode cX12_feed 14 = .ok (.ireturn, 1) := by decide +kernel
theorem dX12_feed_15 : decode cX12_feed 15 = .ok (.aload_n 0, 1) := by decide +kernel
theorem dX12_feed_16 : decode cX12_feed 16 = .ok (.iload_n 1, 1) := by decide +kernel
theorem dX12_feed_17 : decode cX12_feed 17 = .ok (.invokevirtual 112, 3) := by decide +kernel
theorem dX12_feed_20 : decode cX12_feed 20 = .ok (.aload_n 0, 1) := by decide +kernel
theorem dX12_feed_21 : decode cX12_feed 21 = .ok (.iload_n 2, 1) := by decide +kernel
theorem dX12_feed_22 : decode cX12_feed 22 = .ok (.invokevirtual 112, 3) := by decide +kernel
theorem dX12_feed_25 : decode cX12_feed 25 = .ok (.aload_n 0, 1) := by decide +kernel
theorem dX12_feed_26 : decode cX12_feed 26 = .ok (.iload_n 3, 1) := by decide +kernel
theorem dX12_feed_27 : decode cX12_feed 27 = .ok (.invokevirtual 112, 3) := by decide +kernel
theorem dX12_feed_30 : decode cX12_feed 30 = .ok (.aload_n 0, 1) := by decide +kernel
theorem dX12_feed_31 : decode cX12_feed 31 = .ok (.iload 4, 2) := by decide +kernel
theorem dX12_feed_33 : decode cX12_feed 33 = .ok (.invokevirtual 112, 3) := by decide +kernel
theorem dX12_feed_36 : decode cX12_feed 36 = .ok (.aload_n 0, 1) := by decide +kernel
theorem dX12_feed_37 : decode cX12_feed 37 = .ok (.iload 5, 2) := by decide +kernel
theorem dX12_feed_39 : decode cX12_feed 39 = .ok (.invokevirtual 112, 3) := by decide +kernel
theorem dX12_feed_42 : decode cX12_feed 42 = .ok (.aload_n 0, 1) := by decide +kernel
theorem dX12_feed_43 : decode cX12_feed 43 = .ok (.getfield 109, 3) := by decide +kernel
theorem dX12_feed_46 : decode cX12_feed 46 = .ok (.ireturn, 1) := by decide +kernel
theorem dX12_end_0 : decode cX12_end 0 = .ok (.iload_n 1, 1) := by decide +kernel
theorem dX12_end_1 : decode cX12_end 1 = .ok (.iconst 0, 1) := by decide +kernel
theorem dX12_end_2 : decode cX12_end 2 = .ok (.aload_n 0, 1) := by decide +kernel
theorem dX12_end_3 : decode cX12_end 3 = .ok (.getfield 109, 3) := by decide +kernel
theorem dX12_end_6 : decode cX12_end 6 = .ok (.invokestatic 91, 3) := by decide +kernel
theorem dX12_end_9 : decode cX12_end 9 = .ok (.ifCond .ne 5, 3) := by decide +kernel
theorem dX12_end_12 : decode cX12_end 12 = .ok (.iconst (-1), 1) := by decide +kernel
theorem dX12_end_13 : decode cX12_end 13 = .ok (.ireturn, 1) := by decide +kernel
theorem dX12_end_14 : decode cX12_end 14 = .ok (.aload_n 0, 1) := by decide +kernel
theorem dX12_end_15 : decode cX12_end 15 = .ok (.iload_n 1, 1) := by decide +kernel
theorem dX12_end_16 : decode cX12_end 16 = .ok (.putfield 109, 3) := by decide +kernel
theorem dX12_end_19 : decode cX12_end 19 = .ok (.iload_n 1, 1) := by decide +kernel
theorem dX12_end_20 : decode cX12_end 20 = .ok (.ireturn, 1) := by decide +kernel
theorem dX12_byteAt_0 : decode cX12_byteAt 0 = .ok (.iload_n 1, 1) := by decide +kernel
theorem dX12_byteAt_1 : decode cX12_byteAt 1 = .ok (.aload_n 0, 1) := by decide +kernel
theorem dX12_byteAt_2 : decode cX12_byteAt 2 = .ok (.getfield 109, 3) := by decide +kernel
theorem dX12_byteAt_5 : decode cX12_byteAt 5 = .ok (.if_icmp .ge 12, 3) := by decide +kernel
theorem dX12_byteAt_8 : decode cX12_byteAt 8 = .ok (.aload_n 0, 1) := by decide +kernel
theorem dX12_byteAt_9 : decode cX12_byteAt 9 = .ok (.getfield 19, 3) := by decide +kernel
theorem dX12_byteAt_12 : decode cX12_byteAt 12 = .ok (.iload_n 1, 1) := by decide +kernel
theorem dX12_byteAt_13 : decode cX12_byteAt 13 = .ok (.iaload, 1) := by decide +kernel
theorem dX12_byteAt_14 : decode cX12_byteAt 14 = .ok (.goto 4, 3) := by decide +kernel
theorem dX12_byteAt_17 : decode cX12_byteAt 17 = .ok (.iconst (-1), 1) := by decide +kernel
theorem dX12_byteAt_18 : decode cX12_byteAt 18 = .ok (.ireturn, 1) := by decide +kernel
theorem dX12_isLetter_0 : decode cX12_isLetter 0 = .ok (.iload_n 0, 1) := by decide +kernel
theorem dX12_isLetter_1 : decode cX12_isLetter 1 = .ok (.bipush 97, 2) := by decide +kernel
theorem dX12_isLetter_3 : decode cX12_isLetter 3 = .ok (.bipush 122, 2) := by decide +kernel
theorem dX12_isLetter_5 : decode cX12_isLetter 5 = .ok (.invokestatic 91, 3) := by decide +kernel
theorem dX12_isLetter_8 : decode cX12_isLetter 8 = .ok (.ifCond .ne 14, 3) := by decide +kernel
theorem dX12_isLetter_11 : decode cX12_isLetter 11 = .ok (.iload_n 0, 1) := by decide +kernel
theorem dX12_isLetter_12 : decode cX12_isLetter 12 = .ok (.bipush 65, 2) := by decide +kernel
theorem dX12_isLetter_14 : decode cX12_isLetter 14 = .ok (.bipush 90, 2) := by decide +kernel
theorem dX12_isLetter_16 : decode cX12_isLetter 16 = .ok (.invokestatic 91, 3) := by decide +kernel
theorem dX12_isLetter_19 : decode cX12_isLetter 19 = .ok (.ifCond .eq 7, 3) := by decide +kernel
theorem dX12_isLetter_22 : decode cX12_isLetter 22 = .ok (.iconst 1, 1) := by decide +kernel
theorem dX12_isLetter_23 : decode cX12_isLetter 23 = .ok (.goto 4, 3) := by decide +kernel
theorem dX12_isLetter_26 : decode cX12_isLetter 26 = .ok (.iconst 0, 1) := by decide +kernel
theorem dX12_isLetter_27 : decode cX12_isLetter 27 = .ok (.ireturn, 1) := by decide +kernel
theorem dX12_isDigit_0 : decode cX12_isDigit 0 = .ok (.iload_n 0, 1) := by decide +kernel
theorem dX12_isDigit_1 : decode cX12_isDigit 1 = .ok (.bipush 48, 2) := by decide +kernel
theorem dX12_isDigit_3 : decode cX12_isDigit 3 = .ok (.bipush 57, 2) := by decide +kernel
theorem dX12_isDigit_5 : decode cX12_isDigit 5 = .ok (.invokestatic 91, 3) := by decide +kernel
theorem dX12_isDigit_8 : decode cX12_isDigit 8 = .ok (.ireturn, 1) := by decide +kernel
theorem dX12_nextToken_0 : decode cX12_nextToken 0 = .ok (.aload_n 0, 1) := by decide +kernel
theorem dX12_nextToken_1 : decode cX12_nextToken 1 = .ok (.aload_n 0, 1) := by decide +kernel
theorem dX12_nextToken_2 : decode cX12_nextToken 2 = .ok (.getfield 116, 3) := by decide +kernel
theorem dX12_nextToken_5 : decode cX12_nextToken 5 = .ok (.invokevirtual 119, 3) := by decide +kernel
theorem dX12_nextToken_8 : decode cX12_nextToken 8 = .ok (.bipush 32, 2) := by decide +kernel
theorem dX12_nextToken_10 : decode cX12_nextToken 10 = .ok (.if_icmp .eq 16, 3) := by decide +kernel
theorem dX12_nextToken_13 : decode cX12_nextToken 13 = .ok (.aload_n 0, 1) := by decide +kernel
theorem dX12_nextToken_14 : decode cX12_nextToken 14 = .ok (.aload_n 0, 1) := by decide +kernel
theorem dX12_nextToken_15 : decode cX12_nextToken 15 = .ok (.getfield 116, 3) := by decide +kernel
theorem dX12_nextToken_18 : decode cX12_nextToken 18 = .ok (.invokevirtual 119, 3) := by decide +kernel
theorem dX12_nextToken_21 : decode cX12_nextToken 21 = .ok (.bipush 10, 2) := by decide +kernel
theorem dX12_nextToken_23 : decode cX12_nextToken 23 = .ok (.if_icmp .ne 16, 3) := by decide +kernel
theorem dX12_nextToken_26 : decode cX12_nextToken 26 = .ok (.aload_n 0, 1) := by decide +kernel
theorem dX12_nextToken_27 : decode cX12_nextToken 27 = .ok (.dup, 1) := by decide +kernel
theorem dX12_nextToken_28 : decode cX12_nextToken 28 = .ok (.getfield 116, 3) := by decide +kernel
theorem dX12_nextToken_31 : decode cX12_nextToken 31 = .ok (.iconst 1, 1) := by decide +kernel
theorem dX12_nextToken_32 : decode cX12_nextToken 32 = .ok (.iadd, 1) := by decide +kernel
theorem dX12_nextToken_33 : decode cX12_nextToken 33 = .ok (.putfield 116, 3) := by decide +kernel
theorem dX12_nextToken_36 : decode cX12_nextToken 36 = .ok (.goto (-36), 3) := by decide +kernel
theorem dX12_nextToken_39 : decode cX12_nextToken 39 = .ok (.aload_n 0, 1) := by decide +kernel
theorem dX12_nextToken_40 : decode cX12_nextToken 40 = .ok (.aload_n 0, 1) := by decide +kernel
theorem dX12_nextToken_41 : decode cX12_nextToken 41 = .ok (.getfield 116, 3) := by decide +kernel
theorem dX12_nextToken_44 : decode cX12_nextToken 44 = .ok (.putfield 122, 3) := by decide +kernel
theorem dX12_nextToken_47 : decode cX12_nextToken 47 = .ok (.aload_n 0, 1) := by decide +kernel
theorem dX12_nextToken_48 : decode cX12_nextToken 48 = .ok (.aload_n 0, 1) := by decide +kernel
theorem dX12_nextToken_49 : decode cX12_nextToken 49 = .ok (.getfield 116, 3) := by decide +kernel
theorem dX12_nextToken_52 : decode cX12_nextToken 52 = .ok (.invokevirtual 119, 3) := by decide +kernel
theorem dX12_nextToken_55 : decode cX12_nextToken 55 = .ok (.istore_n 1, 1) := by decide +kernel
theorem dX12_nextToken_56 : decode cX12_nextToken 56 = .ok (.iload_n 1, 1) := by decide +kernel
theorem dX12_nextToken_57 : decode cX12_nextToken 57 = .ok (.ifCond .ge 11, 3) := by decide +kernel
theorem dX12_nextToken_60 : decode cX12_nextToken 60 = .ok (.aload_n 0, 1) := by decide +kernel
theorem dX12_nextToken_61 : decode cX12_nextToken 61 = .ok (.iconst 0, 1) := by decide +kernel
theorem dX12_nextToken_62 : decode cX12_nextToken 62 = .ok (.putfield 125, 3) := by decide +kernel
theorem dX12_nextToken_65 : decode cX12_nextToken 65 = .ok (.goto 325, 3) := by decide +kernel
theorem dX12_nextToken_68 : decode cX12_nextToken 68 = .ok (.iload_n 1, 1) := by decide +kernel
theorem dX12_nextToken_69 : decode cX12_nextToken 69 = .ok (.invokestatic 128, 3) := by decide +kernel
theorem dX12_nextToken_72 : decode cX12_nextToken 72 = .ok (.ifCond .eq 72, 3) := by decide +kernel
theorem dX12_nextToken_75 : decode cX12_nextToken 75 = .ok (.aload_n 0, 1) := by decide +kernel
theorem dX12_nextToken_76 : decode cX12_nextToken 76 = .ok (.iconst 1, 1) := by decide +kernel
theorem dX12_nextToken_77 : decode cX12_nextToken 77 = .ok (.putfield 125, 3) := by decide +kernel
theorem dX12_nextToken_80 : decode cX12_nextToken 80 = .ok (.aload_n 0, 1) := by decide +kernel
theorem dX12_nextToken_81 : decode cX12_nextToken 81 = .ok (.iconst 0, 1) := by decide +kernel
theorem dX12_nextToken_82 : decode cX12_nextToken 82 = .ok (.putfield 131, 3) := by decide +kernel
theorem dX12_nextToken_85 : decode cX12_nextToken 85 = .ok (.aload_n 0, 1) := by decide +kernel
theorem dX12_nextToken_86 : decode cX12_nextToken 86 = .ok (.aload_n 0, 1) := by decide +kernel
theorem dX12_nextToken_87 : decode cX12_nextToken 87 = .ok (.getfield 116, 3) := by decide +kernel
theorem dX12_nextToken_90 : decode cX12_nextToken 90 = .ok (.invokevirtual 119, 3) := by decide +kernel
theorem dX12_nextToken_93 : decode cX12_nextToken 93 = .ok (.invokestatic 128, 3) := by decide +kernel
theorem dX12_nextToken_96 : decode cX12_nextToken 96 = .ok (.ifCond .eq 294, 3) := by decide +kernel
theorem dX12_nextToken_99 : decode cX12_nextToken 99 = .ok (.aload_n 0, 1) := by decide +kernel
theorem dX12_nextToken_100 : decode cX12_nextToken 100 = .ok (.getfield 131, 3) := by decide +kernel
theorem dX12_nextToken_103 : decode cX12_nextToken 103 = .ok (.ldc 134, 2) := by decide +kernel
theorem dX12_nextToken_105 : decode cX12_nextToken 105 = .ok (.if_icmp .ge 26, 3) := by decide +kernel
theorem dX12_nextToken_108 : decode cX12_nextToken 108 = .ok (.aload_n 0, 1) := by decide +kernel
theorem dX12_nextToken_109 : decode cX12_nextToken 109 = .ok (.bipush 10, 2) := by decide +kernel
theorem dX12_nextToken_111 : decode cX12_nextToken 111 = .ok (.aload_n 0, 1) := by decide +kernel
theorem dX12_nextToken_112 : decode cX12_nextToken 112 = .ok (.getfield 131, 3) := by decide +kernel
theorem dX12_nextToken_115 : decode cX12_nextToken 115 = .ok (.imul, 1) := by decide +kernel
theorem dX12_nextToken_116 : decode cX12_nextToken 116 = .ok (.aload_n 0, 1) := by decide +kernel
theorem dX12_nextToken_117 : decode cX12_nextToken 117 = .ok (.aload_n 0, 1) := by decide +kernel
theorem dX12_nextToken_118 : decode cX12_nextToken 118 = .ok (.getfield 116, 3) := by decide +kernel
theorem dX12_nextToken_121 : decode cX12_nextToken 121 = .ok (.invokevirtual 119, 3) := by decide +kernel
theorem dX12_nextToken_124 : decode cX12_nextToken 124 = .ok (.iadd, 1) := by decide +kernel
theorem dX12_nextToken_125 : decode cX12_nextToken 125 = .ok (.bipush 48, 2) := by decide +kernel
theorem dX12_nextToken_127 : decode cX12_nextToken 127 = .ok (.isub, 1) := by decide +kernel
theorem dX12_nextToken_128 : decode cX12_nextToken 128 = .ok (.putfield 131, 3) := by decide +kernel
theorem dX12_nextToken_131 : decode cX12_nextToken 131 = .ok (.aload_n 0, 1) := by decide +kernel
theorem dX12_nextToken_132 : decode cX12_nextToken 132 = .ok (.dup, 1) := by decide +kernel
theorem dX12_nextToken_133 : decode cX12_nextToken 133 = .ok (.getfield 116, 3) := by decide +kernel
theorem dX12_nextToken_136 : decode cX12_nextToken 136 = .ok (.iconst 1, 1) := by decide +kernel
theorem dX12_nextToken_137 : decode cX12_nextToken 137 = .ok (.iadd, 1) := by decide +kernel
theorem dX12_nextToken_138 : decode cX12_nextToken 138 = .ok (.putfield 116, 3) := by decide +kernel
theorem dX12_nextToken_141 : decode cX12_nextToken 141 = .ok (.goto (-56), 3) := by decide +kernel
theorem dX12_nextToken_144 : decode cX12_nextToken 144 = .ok (.iload_n 1, 1) := by decide +kernel
theorem dX12_nextToken_145 : decode cX12_nextToken 145 = .ok (.invokestatic 135, 3) := by decide +kernel
theorem dX12_nextToken_148 : decode cX12_nextToken 148 = .ok (.ifCond .eq 97, 3) := by decide +kernel
theorem dX12_nextToken_151 : decode cX12_nextToken 151 = .ok (.aload_n 0, 1) := by decide +kernel
theorem dX12_nextToken_152 : decode cX12_nextToken 152 = .ok (.iconst 2, 1) := by decide +kernel
theorem dX12_nextToken_153 : decode cX12_nextToken 153 = .ok (.putfield 125, 3) := by decide +kernel
theorem dX12_nextToken_156 : decode cX12_nextToken 156 = .ok (.aload_n 0, 1) := by decide +kernel
theorem dX12_nextToken_157 : decode cX12_nextToken 157 = .ok (.lconst 0, 1) := by decide +kernel
theorem dX12_nextToken_158 : decode cX12_nextToken 158 = .ok (.putfield 138, 3) := by decide +kernel
theorem dX12_nextToken_161 : decode cX12_nextToken 161 = .ok (.aload_n 0, 1) := by decide +kernel
theorem dX12_nextToken_162 : decode cX12_nextToken 162 = .ok (.aload_n 0, 1) := by decide +kernel
theorem dX12_nextToken_163 : decode cX12_nextToken 163 = .ok (.getfield 116, 3) := by decide +kernel
theorem dX12_nextToken_166 : decode cX12_nextToken 166 = .ok (.invokevirtual 119, 3) := by decide +kernel
theorem dX12_nextToken_169 : decode cX12_nextToken 169 = .ok (.invokestatic 135, 3) := by decide +kernel
theorem dX12_nextToken_172 : decode cX12_nextToken 172 = .ok (.ifCond .eq 51, 3) := by decide +kernel
theorem dX12_nextToken_175 : decode cX12_nextToken 175 = .ok (.aload_n 0, 1) := by decide +kernel
theorem dX12_nextToken_176 : decode cX12_nextToken 176 = .ok (.getfield 116, 3) := by decide +kernel
theorem dX12_nextToken_179 : decode cX12_nextToken 179 = .ok (.aload_n 0, 1) := by decide +kernel
theorem dX12_nextToken_180 : decode cX12_nextToken 180 = .ok (.getfield 122, 3) := by decide +kernel
theorem dX12_nextToken_183 : decode cX12_nextToken 183 = .ok (.isub, 1) := by decide +kernel
theorem dX12_nextToken_184 : decode cX12_nextToken 184 = .ok (.bipush 7, 2) := by decide +kernel
theorem dX12_nextToken_186 : decode cX12_nextToken 186 = .ok (.if_icmp .ge 24, 3) := by decide +kernel
theorem dX12_nextToken_189 : decode cX12_nextToken 189 = .ok (.aload_n 0, 1) := by decide +kernel
theorem dX12_nextToken_190 : decode cX12_nextToken 190 = .ok (.aload_n 0, 1) := by decide +kernel
theorem dX12_nextToken_191 : decode cX12_nextToken 191 = .ok (.getfield 138, 3) := by decide +kernel
theorem dX12_nextToken_194 : decode cX12_nextToken 194 = .ok (.bipush 8, 2) := by decide +kernel
theorem dX12_nextToken_196 : decode cX12_nextToken 196 = .ok (.lshl, 1) := by decide +kernel
theorem dX12_nextToken_197 : decode cX12_nextToken 197 = .ok (.aload_n 0, 1) := by decide +kernel
theorem dX12_nextToken_198 : decode cX12_nextToken 198 = .ok (.aload_n 0, 1) := by decide +kernel
theorem dX12_nextToken_199 : decode cX12_nextToken 199 = .ok (.getfield 116, 3) := by decide +kernel
theorem dX12_nextToken_202 : decode cX12_nextToken 202 = .ok (.invokevirtual 119, 3) := by decide +kernel
theorem dX12_nextToken_205 : decode cX12_nextToken 205 = .ok (.i2l, 1) := by decide +kernel
theorem dX12_nextToken_206 : decode cX12_nextToken 206 = .ok (.lor, 1) := by decide +kernel
theorem dX12_nextToken_207 : decode cX12_nextToken 207 = .ok (.putfield 138, 3) := by decide +kernel
theorem dX12_nextToken_210 : decode cX12_nextToken 210 = .ok (.aload_n 0, 1) := by decide +kernel
theorem dX12_nextToken_211 : decode cX12_nextToken 211 = .ok (.dup, 1) := by decide +kernel
theorem dX12_nextToken_212 : decode cX12_nextToken 212 = .ok (.getfield 116, 3) := by decide +kernel
theorem dX12_nextToken_215 : decode cX12_nextToken 215 = .ok (.iconst 1, 1) := by decide +kernel
theorem dX12_nextToken_216 : decode cX12_nextToken 216 = .ok (.iadd, 1) := by decide +kernel
theorem dX12_nextToken_217 : decode cX12_nextToken 217 = .ok (.putfield 116, 3) := by decide +kernel
theorem dX12_nextToken_220 : decode cX12_nextToken 220 = .ok (.goto (-59), 3) := by decide +kernel
theorem dX12_nextToken_223 : decode cX12_nextToken 223 = .ok (.aload_n 0, 1) := by decide +kernel
theorem dX12_nextToken_224 : decode cX12_nextToken 224 = .ok (.getfield 116, 3) := by decide +kernel
theorem dX12_nextToken_227 : decode cX12_nextToken 227 = .ok (.aload_n 0, 1) := by decide +kernel
theorem dX12_nextToken_228 : decode cX12_nextToken 228 = .ok (.getfield 122, 3) := by decide +kernel
theorem dX12_nextToken_231 : decode cX12_nextToken 231 = .ok (.isub, 1) := by decide +kernel
theorem dX12_nextToken_232 : decode cX12_nextToken 232 = .ok (.bipush 7, 2) := by decide +kernel
theorem dX12_nextToken_234 : decode cX12_nextToken 234 = .ok (.if_icmp .le 156, 3) := by decide +kernel
theorem dX12_nextToken_237 : decode cX12_nextToken 237 = .ok (.aload_n 0, 1) := by decide +kernel
theorem dX12_nextToken_238 : decode cX12_nextToken 238 = .ok (.lconst 0, 1) := by decide +kernel
theorem dX12_nextToken_239 : decode cX12_nextToken 239 = .ok (.putfield 138, 3) := by decide +kernel
theorem dX12_nextToken_242 : decode cX12_nextToken 242 = .ok (.goto 148, 3) := by decide +kernel
theorem dX12_nextToken_245 : decode cX12_nextToken 245 = .ok (.aload_n 0, 1) := by decide +kernel
theorem dX12_nextToken_246 : decode cX12_nextToken 246 = .ok (.dup, 1) := by decide +kernel
theorem dX12_nextToken_247 : decode cX12_nextToken 247 = .ok (.getfield 116, 3) := by decide +kernel
theorem dX12_nextToken_250 : decode cX12_nextToken 250 = .ok (.iconst 1, 1) := by decide +kernel
theorem dX12_nextToken_251 : decode cX12_nextToken 251 = .ok (.iadd, 1) := by decide +kernel
theorem dX12_nextToken_252 : decode cX12_nextToken 252 = .ok (.putfield 116, 3) := by decide +kernel
theorem dX12_nextToken_255 : decode cX12_nextToken 255 = .ok (.iload_n 1, 1) := by decide +kernel
theorem dX12_nextToken_256 : decode cX12_nextToken 256 = .ok (.bipush 60, 2) := by decide +kernel
theorem dX12_nextToken_258 : decode cX12_nextToken 258 = .ok (.if_icmp .eq 63, 3) := by decide +kernel
theorem dX12_nextToken_261 : decode cX12_nextToken 261 = .ok (.iload_n 1, 1) := by decide +kernel
theorem dX12_nextToken_262 : decode cX12_nextToken 262 = .ok (.bipush 62, 2) := by decide +kernel
theorem dX12_nextToken_264 : decode cX12_nextToken 264 = .ok (.if_icmp .eq 57, 3) := by decide +kernel
theorem dX12_nextToken_267 : decode cX12_nextToken 267 = .ok (.iload_n 1, 1) := by decide +kernel
theorem dX12_nextToken_268 : decode cX12_nextToken 268 = .ok (.bipush 61, 2) := by decide +kernel
theorem dX12_nextToken_270 : decode cX12_nextToken 270 = .ok (.if_icmp .eq 51, 3) := by decide +kernel
theorem dX12_nextToken_273 : decode cX12_nextToken 273 = .ok (.iload_n 1, 1) := by decide +kernel
theorem dX12_nextToken_274 : decode cX12_nextToken 274 = .ok (.bipush 35, 2) := by decide +kernel
theorem dX12_nextToken_276 : decode cX12_nextToken 276 = .ok (.if_icmp .eq 45, 3) := by decide +kernel
theorem dX12_nextToken_279 : decode cX12_nextToken 279 = .ok (.iload_n 1, 1) := by decide +kernel
theorem dX12_nextToken_280 : decode cX12_nextToken 280 = .ok (.bipush 43, 2) := by decide +kernel
theorem dX12_nextToken_282 : decode cX12_nextToken 282 = .ok (.if_icmp .eq 39, 3) := by decide +kernel
theorem dX12_nextToken_285 : decode cX12_nextToken 285 = .ok (.iload_n 1, 1) := by decide +kernel
theorem dX12_nextToken_286 : decode cX12_nextToken 286 = .ok (.bipush 45, 2) := by decide +kernel
theorem dX12_nextToken_288 : decode cX12_nextToken 288 = .ok (.if_icmp .eq 33, 3) := by decide +kernel
theorem dX12_nextToken_291 : decode cX12_nextToken 291 = .ok (.iload_n 1, 1) := by decide +kernel
theorem dX12_nextToken_292 : decode cX12_nextToken 292 = .ok (.bipush 42, 2) := by decide +kernel
theorem dX12_nextToken_294 : decode cX12_nextToken 294 = .ok (.if_icmp .eq 27, 3) := by decide +kernel
theorem dX12_nextToken_297 : decode cX12_nextToken 297 = .ok (.iload_n 1, 1) := by decide +kernel
theorem dX12_nextToken_298 : decode cX12_nextToken 298 = .ok (.bipush 47, 2) := by decide +kernel
theorem dX12_nextToken_300 : decode cX12_nextToken 300 = .ok (.if_icmp .eq 21, 3) := by decide +kernel
theorem dX12_nextToken_303 : decode cX12_nextToken 303 = .ok (.iload_n 1, 1) := by decide +kernel
theorem dX12_nextToken_304 : decode cX12_nextToken 304 = .ok (.bipush 40, 2) := by decide +kernel
theorem dX12_nextToken_306 : decode cX12_nextToken 306 = .ok (.if_icmp .eq 15, 3) := by decide +kernel
theorem dX12_nextToken_309 : decode cX12_nextToken 309 = .ok (.iload_n 1, 1) := by decide +kernel
theorem dX12_nextToken_310 : decode cX12_nextToken 310 = .ok (.bipush 41, 2) := by decide +kernel
theorem dX12_nextToken_312 : decode cX12_nextToken 312 = .ok (.if_icmp .eq 9, 3) := by decide +kernel
theorem dX12_nextToken_315 : decode cX12_nextToken 315 = .ok (.iload_n 1, 1) := by decide +kernel
theorem dX12_nextToken_316 : decode cX12_nextToken 316 = .ok (.bipush 59, 2) := by decide +kernel
theorem dX12_nextToken_318 : decode cX12_nextToken 318 = .ok (.if_icmp .ne 7, 3) := by decide +kernel
theorem dX12_nextToken_321 : decode cX12_nextToken 321 = .ok (.iconst 1, 1) := by decide +kernel
theorem dX12_nextToken_322 : decode cX12_nextToken 322 = .ok (.goto 4, 3) := by decide +kernel
theorem dX12_nextToken_325 : decode cX12_nextToken 325 = .ok (.iconst 0, 1) := by decide +kernel
theorem dX12_nextToken_326 : decode cX12_nextToken 326 = .ok (.istore_n 2, 1) := by decide +kernel
theorem dX12_nextToken_327 : decode cX12_nextToken 327 = .ok (.aload_n 0, 1) := by decide +kernel
theorem dX12_nextToken_328 : decode cX12_nextToken 328 = .ok (.iload_n 2, 1) := by decide +kernel
theorem dX12_nextToken_329 : decode cX12_nextToken 329 = .ok (.ifCond .eq 7, 3) := by decide +kernel
theorem dX12_nextToken_332 : decode cX12_nextToken 332 = .ok (.iload_n 1, 1) := by decide +kernel
theorem dX12_nextToken_333 : decode cX12_nextToken 333 = .ok (.goto 4, 3) := by decide +kernel
theorem dX12_nextToken_336 : decode cX12_nextToken 336 = .ok (.iconst 3, 1) := by decide +kernel
theorem dX12_nextToken_337 : decode cX12_nextToken 337 = .ok (.putfield 125, 3) := by decide +kernel
theorem dX12_nextToken_340 : decode cX12_nextToken 340 = .ok (.iload_n 1, 1) := by decide +kernel
theorem dX12_nextToken_341 : decode cX12_nextToken 341 = .ok (.bipush 60, 2) := by decide +kernel
theorem dX12_nextToken_343 : decode cX12_nextToken 343 = .ok (.if_icmp .eq 9, 3) := by decide +kernel
theorem dX12_nextToken_346 : decode cX12_nextToken 346 = .ok (.iload_n 1, 1) := by decide +kernel
theorem dX12_nextToken_347 : decode cX12_nextToken 347 = .ok (.bipush 62, 2) := by decide +kernel
theorem dX12_nextToken_349 : decode cX12_nextToken 349 = .ok (.if_icmp .ne 41, 3) := by decide +kernel
theorem dX12_nextToken_352 : decode cX12_nextToken 352 = .ok (.aload_n 0, 1) := by decide +kernel
theorem dX12_nextToken_353 : decode cX12_nextToken 353 = .ok (.aload_n 0, 1) := by decide +kernel
theorem dX12_nextToken_354 : decode cX12_nextToken 354 = .ok (.getfield 116, 3) := by decide +kernel
theorem dX12_nextToken_357 : decode cX12_nextToken 357 = .ok (.invokevirtual 119, 3) := by decide +kernel
theorem dX12_nextToken_360 : decode cX12_nextToken 360 = .ok (.bipush 61, 2) := by decide +kernel
theorem dX12_nextToken_362 : decode cX12_nextToken 362 = .ok (.if_icmp .ne 28, 3) := by decide +kernel
theorem dX12_nextToken_365 : decode cX12_nextToken 365 = .ok (.aload_n 0, 1) := by decide +kernel
theorem dX12_nextToken_366 : decode cX12_nextToken 366 = .ok (.dup, 1) := by decide +kernel
theorem dX12_nextToken_367 : decode cX12_nextToken 367 = .ok (.getfield 116, 3) := by decide +kernel
theorem dX12_nextToken_370 : decode cX12_nextToken 370 = .ok (.iconst 1, 1) := by decide +kernel
theorem dX12_nextToken_371 : decode cX12_nextToken 371 = .ok (.iadd, 1) := by decide +kernel
theorem dX12_nextToken_372 : decode cX12_nextToken 372 = .ok (.putfield 116, 3) := by decide +kernel
theorem dX12_nextToken_375 : decode cX12_nextToken 375 = .ok (.aload_n 0, 1) := by decide +kernel
theorem dX12_nextToken_376 : decode cX12_nextToken 376 = .ok (.iload_n 1, 1) := by decide +kernel
theorem dX12_nextToken_377 : decode cX12_nextToken 377 = .ok (.bipush 60, 2) := by decide +kernel
theorem dX12_nextToken_379 : decode cX12_nextToken 379 = .ok (.if_icmp .ne 7, 3) := by decide +kernel
theorem dX12_nextToken_382 : decode cX12_nextToken 382 = .ok (.iconst 4, 1) := by decide +kernel
theorem dX12_nextToken_383 : decode cX12_nextToken 383 = .ok (.goto 4, 3) := by decide +kernel
theorem dX12_nextToken_386 : decode cX12_nextToken 386 = .ok (.iconst 5, 1) := by decide +kernel
theorem dX12_nextToken_387 : decode cX12_nextToken 387 = .ok (.putfield 125, 3) := by decide +kernel
theorem dX12_nextToken_390 : decode cX12_nextToken 390 = .ok (.return_, 1) := by decide +kernel
theorem dX12_w3_0 : decode cX12_w3 0 = .ok (.iload_n 0, 1) := by decide +kernel
theorem dX12_w3_1 : decode cX12_w3 1 = .ok (.i2l, 1) := by decide +kernel
theorem dX12_w3_2 : decode cX12_w3 2 = .ok (.bipush 8, 2) := by decide +kernel
theorem dX12_w3_4 : decode cX12_w3 4 = .ok (.lshl, 1) := by decide +kernel
theorem dX12_w3_5 : decode cX12_w3 5 = .ok (.iload_n 1, 1) := by decide +kernel
theorem dX12_w3_6 : decode cX12_w3 6 = .ok (.i2l, 1) := by decide +kernel
theorem dX12_w3_7 : decode cX12_w3 7 = .ok (.lor, 1) := by decide +kernel
theorem dX12_w3_8 : decode cX12_w3 8 = .ok (.bipush 8, 2) := by decide +kernel
theorem dX12_w3_10 : decode cX12_w3 10 = .ok (.lshl, 1) := by decide +kernel
theorem dX12_w3_11 : decode cX12_w3 11 = .ok (.iload_n 2, 1) := by decide +kernel
theorem dX12_w3_12 : decode cX12_w3 12 = .ok (.i2l, 1) := by decide +kernel
theorem dX12_w3_13 : decode cX12_w3 13 = .ok (.lor, 1) := by decide +kernel
theorem dX12_w3_14 : decode cX12_w3 14 = .ok (.lreturn, 1) := by decide +kernel
theorem dX12_w5_0 : decode cX12_w5 0 = .ok (.iload_n 0, 1) := by decide +kernel
theorem dX12_w5_1 : decode cX12_w5 1 = .ok (.iload_n 1, 1) := by decide +kernel
theorem dX12_w5_2 : decode cX12_w5 2 = .ok (.iload_n 2, 1) := by decide +kernel
theorem dX12_w5_3 : decode cX12_w5 3 = .ok (.invokestatic 142, 3) := by decide +kernel
theorem dX12_w5_6 : decode cX12_w5 6 = .ok (.bipush 8, 2) := by decide +kernel
theorem dX12_w5_8 : decode cX12_w5 8 = .ok (.lshl, 1) := by decide +kernel
theorem dX12_w5_9 : decode cX12_w5 9 = .ok (.iload_n 3, 1) := by decide +kernel
theorem dX12_w5_10 : decode cX12_w5 10 = .ok (.i2l, 1) := by decide +kernel
theorem dX12_w5_11 : decode cX12_w5 11 = .ok (.lor, 1) := by decide +kernel
theorem dX12_w5_12 : decode cX12_w5 12 = .ok (.bipush 8, 2) := by decide +kernel
theorem dX12_w5_14 : decode cX12_w5 14 = .ok (.lshl, 1) := by decide +kernel
theorem dX12_w5_15 : decode cX12_w5 15 = .ok (.iload 4, 2) := by decide +kernel
theorem dX12_w5_17 : decode cX12_w5 17 = .ok (.i2l, 1) := by decide +kernel
theorem dX12_w5_18 : decode cX12_w5 18 = .ok (.lor, 1) := by decide +kernel
theorem dX12_w5_19 : decode cX12_w5 19 = .ok (.lreturn, 1) := by decide +kernel
theorem dX12_w4_0 : decode cX12_w4 0 = .ok (.iload_n 0, 1) := by decide +kernel
theorem dX12_w4_1 : decode cX12_w4 1 = .ok (.iload_n 1, 1) := by decide +kernel
theorem dX12_w4_2 : decode cX12_w4 2 = .ok (.iload_n 2, 1) := by decide +kernel
theorem dX12_w4_3 : decode cX12_w4 3 = .ok (.invokestatic 142, 3) := by decide +kernel
theorem dX12_w4_6 : decode cX12_w4 6 = .ok (.bipush 8, 2) := by decide +kernel
theorem dX12_w4_8 : decode cX12_w4 8 = .ok (.lshl, 1) := by decide +kernel
theorem dX12_w4_9 : decode cX12_w4 9 = .ok (.iload_n 3, 1) := by decide +kernel
theorem dX12_w4_10 : decode cX12_w4 10 = .ok (.i2l, 1) := by decide +kernel
theorem dX12_w4_11 : decode cX12_w4 11 = .ok (.lor, 1) := by decide +kernel
theorem dX12_w4_12 : decode cX12_w4 12 = .ok (.lreturn, 1) := by decide +kernel
theorem dX12_w6_0 : decode cX12_w6 0 = .ok (.iload_n 0, 1) := by decide +kernel
theorem dX12_w6_1 : decode cX12_w6 1 = .ok (.iload_n 1, 1) := by decide +kernel
theorem dX12_w6_2 : decode cX12_w6 2 = .ok (.iload_n 2, 1) := by decide +kernel
theorem dX12_w6_3 : decode cX12_w6 3 = .ok (.iload_n 3, 1) := by decide +kernel
theorem dX12_w6_4 : decode cX12_w6 4 = .ok (.iload 4, 2) := by decide +kernel
theorem dX12_w6_6 : decode cX12_w6 6 = .ok (.invokestatic 146, 3) := by decide +kernel
theorem dX12_w6_9 : decode cX12_w6 9 = .ok (.bipush 8, 2) := by decide +kernel
theorem dX12_w6_11 : decode cX12_w6 11 = .ok (.lshl, 1) := by decide +kernel
theorem dX12_w6_12 : decode cX12_w6 12 = .ok (.iload 5, 2) := by decide +kernel
theorem dX12_w6_14 : decode cX12_w6 14 = .ok (.i2l, 1) := by decide +kernel
theorem dX12_w6_15 : decode cX12_w6 15 = .ok (.lor, 1) := by decide +kernel
theorem dX12_w6_16 : decode cX12_w6 16 = .ok (.lreturn, 1) := by decide +kernel
theorem dX12_isWord_0 : decode cX12_isWord 0 = .ok (.aload_n 0, 1) := by decide +kernel
theorem dX12_isWord_1 : decode cX12_isWord 1 = .ok (.getfield 125, 3) := by decide +kernel
theorem dX12_isWord_4 : decode cX12_isWord 4 = .ok (.iconst 2, 1) := by decide +kernel
theorem dX12_isWord_5 : decode cX12_isWord 5 = .ok (.if_icmp .ne 16, 3) := by decide +kernel
theorem dX12_isWord_8 : decode cX12_isWord 8 = .ok (.aload_n 0, 1) := by decide +kernel
theorem dX12_isWord_9 : decode cX12_isWord 9 = .ok (.getfield 138, 3) := by decide +kernel
theorem dX12_isWord_12 : decode cX12_isWord 12 = .ok (.lload_n 1, 1) := by decide +kernel
theorem dX12_isWord_13 : decode cX12_isWord 13 = .ok (.lcmp, 1) := by decide +kernel
theorem dX12_isWord_14 : decode cX12_isWord 14 = .ok (.ifCond .ne 7, 3) := by decide +kernel
theorem dX12_isWord_17 : decode cX12_isWord 17 = .ok (.iconst 1, 1) := by decide +kernel
theorem dX12_isWord_18 : decode cX12_isWord 18 = .ok (.goto 4, 3) := by decide +kernel
theorem dX12_isWord_21 : decode cX12_isWord 21 = .ok (.iconst 0, 1) := by decide +kernel
theorem dX12_isWord_22 : decode cX12_isWord 22 = .ok (.ireturn, 1) := by decide +kernel
theorem dX12_emit_0 : decode cX12_emit 0 = .ok (.aload_n 0, 1) := by decide +kernel
theorem dX12_emit_1 : decode cX12_emit 1 = .ok (.getfield 16, 3) := by decide +kernel
theorem dX12_emit_4 : decode cX12_emit 4 = .ok (.aload_n 0, 1) := by decide +kernel
theorem dX12_emit_5 : decode cX12_emit 5 = .ok (.getfield 150, 3) := by decide +kernel
theorem dX12_emit_8 : decode cX12_emit 8 = .ok (.bipush 75, 2) := by decide +kernel
theorem dX12_emit_10 : decode cX12_emit 10 = .ok (.iadd, 1) := by decide +kernel
theorem dX12_emit_11 : decode cX12_emit 11 = .ok (.iconst 2, 1) := by decide +kernel
theorem dX12_emit_12 : decode cX12_emit 12 = .ok (.aload_n 0, 1) := by decide +kernel
theorem dX12_emit_13 : decode cX12_emit 13 = .ok (.getfield 153, 3) := by decide +kernel
theorem dX12_emit_16 : decode cX12_emit 16 = .ok (.imul, 1) := by decide +kernel
theorem dX12_emit_17 : decode cX12_emit 17 = .ok (.iadd, 1) := by decide +kernel
theorem dX12_emit_18 : decode cX12_emit 18 = .ok (.iload_n 1, 1) := by decide +kernel
theorem dX12_emit_19 : decode cX12_emit 19 = .ok (.iastore, 1) := by decide +kernel
theorem dX12_emit_20 : decode cX12_emit 20 = .ok (.aload_n 0, 1) := by decide +kernel
theorem dX12_emit_21 : decode cX12_emit 21 = .ok (.getfield 16, 3) := by decide +kernel
theorem dX12_emit_24 : decode cX12_emit 24 = .ok (.aload_n 0, 1) := by decide +kernel
theorem dX12_emit_25 : decode cX12_emit 25 = .ok (.getfield 150, 3) := by decide +kernel
theorem dX12_emit_28 : decode cX12_emit 28 = .ok (.bipush 75, 2) := by decide +kernel
theorem dX12_emit_30 : decode cX12_emit 30 = .ok (.iadd, 1) := by decide +kernel
theorem dX12_emit_31 : decode cX12_emit 31 = .ok (.iconst 2, 1) := by decide +kernel
theorem dX12_emit_32 : decode cX12_emit 32 = .ok (.aload_n 0, 1) := by decide +kernel
theorem dX12_emit_33 : decode cX12_emit 33 = .ok (.getfield 153, 3) := by decide +kernel
theorem dX12_emit_36 : decode cX12_emit 36 = .ok (.imul, 1) := by decide +kernel
theorem dX12_emit_37 : decode cX12_emit 37 = .ok (.iadd, 1) := by decide +kernel
theorem dX12_emit_38 : decode cX12_emit 38 = .ok (.iconst 1, 1) := by decide +kernel
theorem dX12_emit_39 : decode cX12_emit 39 = .ok (.iadd, 1) := by decide +kernel
theorem dX12_emit_40 : decode cX12_emit 40 = .ok (.iload_n 2, 1) := by decide +kernel
theorem dX12_emit_41 : decode cX12_emit 41 = .ok (.iastore, 1) := by decide +kernel
theorem dX12_emit_42 : decode cX12_emit 42 = .ok (.aload_n 0, 1) := by decide +kernel
theorem dX12_emit_43 : decode cX12_emit 43 = .ok (.dup, 1) := by decide +kernel
theorem dX12_emit_44 : decode cX12_emit 44 = .ok (.getfield 153, 3) := by decide +kernel
theorem dX12_emit_47 : decode cX12_emit 47 = .ok (.iconst 1, 1) := by decide +kernel
theorem dX12_emit_48 : decode cX12_emit 48 = .ok (.iadd, 1) := by decide +kernel
theorem dX12_emit_49 : decode cX12_emit 49 = .ok (.putfield 153, 3) := by decide +kernel
theorem dX12_emit_52 : decode cX12_emit 52 = .ok (.return_, 1) := by decide +kernel
theorem dX12_push_0 : decode cX12_push 0 = .ok (.aload_n 0, 1) := by decide +kernel
theorem dX12_push_1 : decode cX12_push 1 = .ok (.getfield 29, 3) := by decide +kernel
theorem dX12_push_4 : decode cX12_push 4 = .ok (.aload_n 0, 1) := by decide +kernel
theorem dX12_push_5 : decode cX12_push 5 = .ok (.getfield 156, 3) := by decide +kernel
theorem dX12_push_8 : decode cX12_push 8 = .ok (.iload_n 1, 1) := by decide +kernel
theorem dX12_push_9 : decode cX12_push 9 = .ok (.iastore, 1) := by decide +kernel
theorem dX12_push_10 : decode cX12_push 10 = .ok (.aload_n 0, 1) := by decide +kernel
theorem dX12_push_11 : decode cX12_push 11 = .ok (.dup, 1) := by decide +kernel
theorem dX12_push_12 : decode cX12_push 12 = .ok (.getfield 156, 3) := by decide +kernel
theorem dX12_push_15 : decode cX12_push 15 = .ok (.iconst 1, 1) := by decide +kernel
theorem dX12_push_16 : decode cX12_push 16 = .ok (.iadd, 1) := by decide +kernel
theorem dX12_push_17 : decode cX12_push 17 = .ok (.putfield 156, 3) := by decide +kernel
theorem dX12_push_20 : decode cX12_push 20 = .ok (.return_, 1) := by decide +kernel
theorem dX12_whole_0 : decode cX12_whole 0 = .ok (.aload_n 0, 1) := by decide +kernel
theorem dX12_whole_1 : decode cX12_whole 1 = .ok (.iconst 1, 1) := by decide +kernel
theorem dX12_whole_2 : decode cX12_whole 2 = .ok (.putfield 159, 3) := by decide +kernel
theorem dX12_whole_5 : decode cX12_whole 5 = .ok (.aload_n 0, 1) := by decide +kernel
theorem dX12_whole_6 : decode cX12_whole 6 = .ok (.getfield 156, 3) := by decide +kernel
theorem dX12_whole_9 : decode cX12_whole 9 = .ok (.ifCond .le 47, 3) := by decide +kernel
theorem dX12_whole_12 : decode cX12_whole 12 = .ok (.aload_n 0, 1) := by decide +kernel
theorem dX12_whole_13 : decode cX12_whole 13 = .ok (.getfield 29, 3) := by decide +kernel
theorem dX12_whole_16 : decode cX12_whole 16 = .ok (.aload_n 0, 1) := by decide +kernel
theorem dX12_whole_17 : decode cX12_whole 17 = .ok (.getfield 156, 3) := by decide +kernel
theorem dX12_whole_20 : decode cX12_whole 20 = .ok (.iconst 1, 1) := by decide +kernel
theorem dX12_whole_21 : decode cX12_whole 21 = .ok (.isub, 1) := by decide +kernel
theorem dX12_whole_22 : decode cX12_whole 22 = .ok (.iaload, 1) := by decide +kernel
theorem dX12_whole_23 : decode cX12_whole 23 = .ok (.iconst 2, 1) := by decide +kernel
theorem dX12_whole_24 : decode cX12_whole 24 = .ok (.if_icmp .ne 32, 3) := by decide +kernel
theorem dX12_whole_27 : decode cX12_whole 27 = .ok (.aload_n 0, 1) := by decide +kernel
theorem dX12_whole_28 : decode cX12_whole 28 = .ok (.dup, 1) := by decide +kernel
theorem dX12_whole_29 : decode cX12_whole 29 = .ok (.getfield 156, 3) := by decide +kernel
theorem dX12_whole_32 : decode cX12_whole 32 = .ok (.iconst 1, 1) := by decide +kernel
theorem dX12_whole_33 : decode cX12_whole 33 = .ok (.isub, 1) := by decide +kernel
theorem dX12_whole_34 : decode cX12_whole 34 = .ok (.putfield 156, 3) := by decide +kernel
theorem dX12_whole_37 : decode cX12_whole 37 = .ok (.aload_n 0, 1) := by decide +kernel
theorem dX12_whole_38 : decode cX12_whole 38 = .ok (.dup, 1) := by decide +kernel
theorem dX12_whole_39 : decode cX12_whole 39 = .ok (.getfield 163, 3) := by decide +kernel
theorem dX12_whole_42 : decode cX12_whole 42 = .ok (.iconst 1, 1) := by decide +kernel
theorem dX12_whole_43 : decode cX12_whole 43 = .ok (.isub, 1) := by decide +kernel
theorem dX12_whole_44 : decode cX12_whole 44 = .ok (.putfield 163, 3) := by decide +kernel
theorem dX12_whole_47 : decode cX12_whole 47 = .ok (.aload_n 0, 1) := by decide +kernel
theorem dX12_whole_48 : decode cX12_whole 48 = .ok (.iconst 2, 1) := by decide +kernel
theorem dX12_whole_49 : decode cX12_whole 49 = .ok (.iconst 0, 1) := by decide +kernel
theorem dX12_whole_50 : decode cX12_whole 50 = .ok (.invokevirtual 166, 3) := by decide +kernel
theorem dX12_whole_53 : decode cX12_whole 53 = .ok (.goto (-48), 3) := by decide +kernel
theorem dX12_whole_56 : decode cX12_whole 56 = .ok (.return_, 1) := by decide +kernel
theorem dX12_settle_0 : decode cX12_settle 0 = .ok (.aload_n 0, 1) := by decide +kernel
theorem dX12_settle_1 : decode cX12_settle 1 = .ok (.getfield 156, 3) := by decide +kernel
theorem dX12_settle_4 : decode cX12_settle 4 = .ok (.ifCond .le 61, 3) := by decide +kernel
theorem dX12_settle_7 : decode cX12_settle 7 = .ok (.aload_n 0, 1) := by decide +kernel
theorem dX12_settle_8 : decode cX12_settle 8 = .ok (.getfield 29, 3) := by decide +kernel
theorem dX12_settle_11 : decode cX12_settle 11 = .ok (.aload_n 0, 1) := by decide +kernel
theorem dX12_settle_12 : decode cX12_settle 12 = .ok (.getfield 156, 3) := by decide +kernel
theorem dX12_settle_15 : decode cX12_settle 15 = .ok (.iconst 1, 1) := by decide +kernel
theorem dX12_settle_16 : decode cX12_settle 16 = .ok (.isub, 1) := by decide +kernel
theorem dX12_settle_17 : decode cX12_settle 17 = .ok (.iaload, 1) := by decide +kernel
theorem dX12_settle_18 : decode cX12_settle 18 = .ok (.bipush 40, 2) := by decide +kernel
theorem dX12_settle_20 : decode cX12_settle 20 = .ok (.if_icmp .ge 45, 3) := by decide +kernel
theorem dX12_settle_23 : decode cX12_settle 23 = .ok (.aload_n 0, 1) := by decide +kernel
theorem dX12_settle_24 : decode cX12_settle 24 = .ok (.getfield 29, 3) := by decide +kernel
theorem dX12_settle_27 : decode cX12_settle 27 = .ok (.aload_n 0, 1) := by decide +kernel
theorem dX12_settle_28 : decode cX12_settle 28 = .ok (.getfield 156, 3) := by decide +kernel
theorem dX12_settle_31 : decode cX12_settle 31 = .ok (.iconst 1, 1) := by decide +kernel
theorem dX12_settle_32 : decode cX12_settle 32 = .ok (.isub, 1) := by decide +kernel
theorem dX12_settle_33 : decode cX12_settle 33 = .ok (.iaload, 1) := by decide +kernel
theorem dX12_settle_34 : decode cX12_settle 34 = .ok (.iload_n 1, 1) := by decide +kernel
theorem dX12_settle_35 : decode cX12_settle 35 = .ok (.if_icmp .lt 30, 3) := by decide +kernel
theorem dX12_settle_38 : decode cX12_settle 38 = .ok (.aload_n 0, 1) := by decide +kernel
theorem dX12_settle_39 : decode cX12_settle 39 = .ok (.dup, 1) := by decide +kernel
theorem dX12_settle_40 : decode cX12_settle 40 = .ok (.getfield 156, 3) := by decide +kernel
theorem dX12_settle_43 : decode cX12_settle 43 = .ok (.iconst 1, 1) := by decide +kernel
theorem dX12_settle_44 : decode cX12_settle 44 = .ok (.isub, 1) := by decide +kernel
theorem dX12_settle_45 : decode cX12_settle 45 = .ok (.putfield 156, 3) := by decide +kernel
theorem dX12_settle_48 : decode cX12_settle 48 = .ok (.aload_n 0, 1) := by decide +kernel
theorem dX12_settle_49 : decode cX12_settle 49 = .ok (.aload_n 0, 1) := by decide +kernel
theorem dX12_settle_50 : decode cX12_settle 50 = .ok (.getfield 29, 3) := by decide +kernel
theorem dX12_settle_53 : decode cX12_settle 53 = .ok (.aload_n 0, 1) := by decide +kernel
theorem dX12_settle_54 : decode cX12_settle 54 = .ok (.getfield 156, 3) := by decide +kernel
theorem dX12_settle_57 : decode cX12_settle 57 = .ok (.iaload, 1) := by decide +kernel
theorem dX12_settle_58 : decode cX12_settle 58 = .ok (.iconst 0, 1) := by decide +kernel
theorem dX12_settle_59 : decode cX12_settle 59 = .ok (.invokevirtual 166, 3) := by decide +kernel
theorem dX12_settle_62 : decode cX12_settle 62 = .ok (.goto (-62), 3) := by decide +kernel
theorem dX12_settle_65 : decode cX12_settle 65 = .ok (.return_, 1) := by decide +kernel
theorem dX12_nameOf_0 : decode cX12_nameOf 0 = .ok (.aload_n 0, 1) := by decide +kernel
theorem dX12_nameOf_1 : decode cX12_nameOf 1 = .ok (.getfield 125, 3) := by decide +kernel
theorem dX12_nameOf_4 : decode cX12_nameOf 4 = .ok (.iconst 2, 1) := by decide +kernel
theorem dX12_nameOf_5 : decode cX12_nameOf 5 = .ok (.if_icmp .eq 5, 3) := by decide +kernel
theorem dX12_nameOf_8 : decode cX12_nameOf 8 = .ok (.iconst (-1), 1) := by decide +kernel
theorem dX12_nameOf_9 : decode cX12_nameOf 9 = .ok (.ireturn, 1) := by decide +kernel
theorem dX12_nameOf_10 : decode cX12_nameOf 10 = .ok (.aload_n 0, 1) := by decide +kernel
theorem dX12_nameOf_11 : decode cX12_nameOf 11 = .ok (.getfield 138, 3) := by decide +kernel
theorem dX12_nameOf_14 : decode cX12_nameOf 14 = .ok (.bipush 112, 2) := by decide +kernel
theorem dX12_nameOf_16 : decode cX12_nameOf 16 = .ok (.bipush 108, 2) := by decide +kernel
theorem dX12_nameOf_18 : decode cX12_nameOf 18 = .ok (.bipush 97, 2) := by decide +kernel
theorem dX12_nameOf_20 : decode cX12_nameOf 20 = .ok (.bipush 99, 2) := by decide +kernel
theorem dX12_nameOf_22 : decode cX12_nameOf 22 = .ok (.bipush 101, 2) := by decide +kernel
theorem dX12_nameOf_24 : decode cX12_nameOf 24 = .ok (.invokestatic 146, 3) := by decide +kernel
theorem dX12_nameOf_27 : decode cX12_nameOf 27 = .ok (.lcmp, 1) := by decide +kernel
theorem dX12_nameOf_28 : decode cX12_nameOf 28 = .ok (.ifCond .ne 5, 3) := by decide +kernel
theorem dX12_nameOf_31 : decode cX12_nameOf 31 = .ok (.iconst 0, 1) := by decide +kernel
theorem dX12_nameOf_32 : decode cX12_nameOf 32 = .ok (.ireturn, 1) := by decide +kernel
theorem dX12_nameOf_33 : decode cX12_nameOf 33 = .ok (.aload_n 0, 1) := by decide +kernel
theorem dX12_nameOf_34 : decode cX12_nameOf 34 = .ok (.getfield 138, 3) := by decide +kernel
theorem dX12_nameOf_37 : decode cX12_nameOf 37 = .ok (.bipush 102, 2) := by decide +kernel
theorem dX12_nameOf_39 : decode cX12_nameOf 39 = .ok (.bipush 114, 2) := by decide +kernel
theorem dX12_nameOf_41 : decode cX12_nameOf 41 = .ok (.bipush 111, 2) := by decide +kernel
theorem dX12_nameOf_43 : decode cX12_nameOf 43 = .ok (.bipush 109, 2) := by decide +kernel
theorem dX12_nameOf_45 : decode cX12_nameOf 45 = .ok (.invokestatic 170, 3) := by decide +kernel
theorem dX12_nameOf_48 : decode cX12_nameOf 48 = .ok (.lcmp, 1) := by decide +kernel
theorem dX12_nameOf_49 : decode cX12_nameOf 49 = .ok (.ifCond .ne 5, 3) := by decide +kernel
theorem dX12_nameOf_52 : decode cX12_nameOf 52 = .ok (.iconst 1, 1) := by decide +kernel
theorem dX12_nameOf_53 : decode cX12_nameOf 53 = .ok (.ireturn, 1) := by decide +kernel
theorem dX12_nameOf_54 : decode cX12_nameOf 54 = .ok (.aload_n 0, 1) := by decide +kernel
theorem dX12_nameOf_55 : decode cX12_nameOf 55 = .ok (.getfield 138, 3) := by decide +kernel
theorem dX12_nameOf_58 : decode cX12_nameOf 58 = .ok (.bipush 105, 2) := by decide +kernel
theorem dX12_nameOf_60 : decode cX12_nameOf 60 = .ok (.bipush 110, 2) := by decide +kernel
theorem dX12_nameOf_62 : decode cX12_nameOf 62 = .ok (.bipush 116, 2) := by decide +kernel
theorem dX12_nameOf_64 : decode cX12_nameOf 64 = .ok (.bipush 111, 2) := by decide +kernel
theorem dX12_nameOf_66 : decode cX12_nameOf 66 = .ok (.invokestatic 170, 3) := by decide +kernel
theorem dX12_nameOf_69 : decode cX12_nameOf 69 = .ok (.lcmp, 1) := by decide +kernel
theorem dX12_nameOf_70 : decode cX12_nameOf 70 = .ok (.ifCond .ne 5, 3) := by decide +kernel
theorem dX12_nameOf_73 : decode cX12_nameOf 73 = .ok (.iconst 2, 1) := by decide +kernel
theorem dX12_nameOf_74 : decode cX12_nameOf 74 = .ok (.ireturn, 1) := by decide +kernel
theorem dX12_nameOf_75 : decode cX12_nameOf 75 = .ok (.aload_n 0, 1) := by decide +kernel
theorem dX12_nameOf_76 : decode cX12_nameOf 76 = .ok (.getfield 138, 3) := by decide +kernel
theorem dX12_nameOf_79 : decode cX12_nameOf 79 = .ok (.bipush 104, 2) := by decide +kernel
theorem dX12_nameOf_81 : decode cX12_nameOf 81 = .ok (.bipush 97, 2) := by decide +kernel
theorem dX12_nameOf_83 : decode cX12_nameOf 83 = .ok (.bipush 110, 2) := by decide +kernel
theorem dX12_nameOf_85 : decode cX12_nameOf 85 = .ok (.bipush 100, 2) := by decide +kernel
theorem dX12_nameOf_87 : decode cX12_nameOf 87 = .ok (.invokestatic 170, 3) := by decide +kernel
theorem dX12_nameOf_90 : decode cX12_nameOf 90 = .ok (.lcmp, 1) := by decide +kernel
theorem dX12_nameOf_91 : decode cX12_nameOf 91 = .ok (.ifCond .ne 5, 3) := by decide +kernel
theorem dX12_nameOf_94 : decode cX12_nameOf 94 = .ok (.iconst 3, 1) := by decide +kernel
theorem dX12_nameOf_95 : decode cX12_nameOf 95 = .ok (.ireturn, 1) := by decide +kernel
theorem dX12_nameOf_96 : decode cX12_nameOf 96 = .ok (.aload_n 0, 1) := by decide +kernel
theorem dX12_nameOf_97 : decode cX12_nameOf 97 = .ok (.getfield 138, 3) := by decide +kernel
theorem dX12_nameOf_100 : decode cX12_nameOf 100 = .ok (.bipush 108, 2) := by decide +kernel
theorem dX12_nameOf_102 : decode cX12_nameOf 102 = .ok (.bipush 97, 2) := by decide +kernel
theorem dX12_nameOf_104 : decode cX12_nameOf 104 = .ok (.bipush 115, 2) := by decide +kernel
theorem dX12_nameOf_106 : decode cX12_nameOf 106 = .ok (.bipush 116, 2) := by decide +kernel
theorem dX12_nameOf_108 : decode cX12_nameOf 108 = .ok (.invokestatic 170, 3) := by decide +kernel
theorem dX12_nameOf_111 : decode cX12_nameOf 111 = .ok (.lcmp, 1) := by decide +kernel
theorem dX12_nameOf_112 : decode cX12_nameOf 112 = .ok (.ifCond .ne 7, 3) := by decide +kernel
theorem dX12_nameOf_115 : decode cX12_nameOf 115 = .ok (.iconst 4, 1) := by decide +kernel
theorem dX12_nameOf_116 : decode cX12_nameOf 116 = .ok (.goto 25, 3) := by decide +kernel
theorem dX12_nameOf_119 : decode cX12_nameOf 119 = .ok (.aload_n 0, 1) := by decide +kernel
theorem dX12_nameOf_120 : decode cX12_nameOf 120 = .ok (.getfield 138, 3) := by decide +kernel
theorem dX12_nameOf_123 : decode cX12_nameOf 123 = .ok (.bipush 102, 2) := by decide +kernel
theorem dX12_nameOf_125 : decode cX12_nameOf 125 = .ok (.bipush 97, 2) := by decide +kernel
theorem dX12_nameOf_127 : decode cX12_nameOf 127 = .ok (.bipush 114, 2) := by decide +kernel
theorem dX12_nameOf_129 : decode cX12_nameOf 129 = .ok (.invokestatic 142, 3) := by decide +kernel
theorem dX12_nameOf_132 : decode cX12_nameOf 132 = .ok (.lcmp, 1) := by decide +kernel
theorem dX12_nameOf_133 : decode cX12_nameOf 133 = .ok (.ifCond .ne 7, 3) := by decide +kernel
theorem dX12_nameOf_136 : decode cX12_nameOf 136 = .ok (.iconst 5, 1) := by decide +kernel
theorem dX12_nameOf_137 : decode cX12_nameOf 137 = .ok (.goto 4, 3) := by decide +kernel
theorem dX12_nameOf_140 : decode cX12_nameOf 140 = .ok (.iconst (-1), 1) := by decide +kernel
theorem dX12_nameOf_141 : decode cX12_nameOf 141 = .ok (.ireturn, 1) := by decide +kernel
theorem dX12_beginOne_0 : decode cX12_beginOne 0 = .ok (.aload_n 0, 1) := by decide +kernel
theorem dX12_beginOne_1 : decode cX12_beginOne 1 = .ok (.getfield 125, 3) := by decide +kernel
theorem dX12_beginOne_4 : decode cX12_beginOne 4 = .ok (.iconst 1, 1) := by decide +kernel
theorem dX12_beginOne_5 : decode cX12_beginOne 5 = .ok (.if_icmp .ne 34, 3) := by decide +kernel
theorem dX12_beginOne_8 : decode cX12_beginOne 8 = .ok (.aload_n 0, 1) := by decide +kernel
theorem dX12_beginOne_9 : decode cX12_beginOne 9 = .ok (.getfield 131, 3) := by decide +kernel
theorem dX12_beginOne_12 : decode cX12_beginOne 12 = .ok (.sipush 9999, 3) := by decide +kernel
theorem dX12_beginOne_15 : decode cX12_beginOne 15 = .ok (.if_icmp .le 5, 3) := by decide +kernel
theorem dX12_beginOne_18 : decode cX12_beginOne 18 = .ok (.iconst 2, 1) := by decide +kernel
theorem dX12_beginOne_19 : decode cX12_beginOne 19 = .ok (.ireturn, 1) := by decide +kernel
theorem dX12_beginOne_20 : decode cX12_beginOne 20 = .ok (.aload_n 0, 1) := by decide +kernel
theorem dX12_beginOne_21 : decode cX12_beginOne 21 = .ok (.iconst 0, 1) := by decide +kernel
theorem dX12_beginOne_22 : decode cX12_beginOne 22 = .ok (.aload_n 0, 1) := by decide +kernel
theorem dX12_beginOne_23 : decode cX12_beginOne 23 = .ok (.getfield 131, 3) := by decide +kernel
theorem dX12_beginOne_26 : decode cX12_beginOne 26 = .ok (.invokevirtual 166, 3) := by decide +kernel
theorem dX12_beginOne_29 : decode cX12_beginOne 29 = .ok (.aload_n 0, 1) := by decide +kernel
theorem dX12_beginOne_30 : decode cX12_beginOne 30 = .ok (.invokevirtual 174, 3) := by decide +kernel
theorem dX12_beginOne_33 : decode cX12_beginOne 33 = .ok (.aload_n 0, 1) := by decide +kernel
theorem dX12_beginOne_34 : decode cX12_beginOne 34 = .ok (.invokevirtual 177, 3) := by decide +kernel
theorem dX12_beginOne_37 : decode cX12_beginOne 37 = .ok (.iconst 0, 1) := by decide +kernel
theorem dX12_beginOne_38 : decode cX12_beginOne 38 = .ok (.ireturn, 1) := by decide +kernel
theorem dX12_beginOne_39 : decode cX12_beginOne 39 = .ok (.aload_n 0, 1) := by decide +kernel
theorem dX12_beginOne_40 : decode cX12_beginOne 40 = .ok (.invokevirtual 180, 3) := by decide +kernel
theorem dX12_beginOne_43 : decode cX12_beginOne 43 = .ok (.ifCond .lt 22, 3) := by decide +kernel
theorem dX12_beginOne_46 : decode cX12_beginOne 46 = .ok (.aload_n 0, 1) := by decide +kernel
theorem dX12_beginOne_47 : decode cX12_beginOne 47 = .ok (.iconst 1, 1) := by decide +kernel
theorem dX12_beginOne_48 : decode cX12_beginOne 48 = .ok (.aload_n 0, 1) := by decide +kernel
theorem dX12_beginOne_49 : decode cX12_beginOne 49 = .ok (.invokevirtual 180, 3) := by decide +kernel
theorem dX12_beginOne_52 : decode cX12_beginOne 52 = .ok (.invokevirtual 166, 3) := by decide +kernel
theorem dX12_beginOne_55 : decode cX12_beginOne 55 = .ok (.aload_n 0, 1) := by decide +kernel
theorem dX12_beginOne_56 : decode cX12_beginOne 56 = .ok (.invokevirtual 174, 3) := by decide +kernel
theorem dX12_beginOne_59 : decode cX12_beginOne 59 = .ok (.aload_n 0, 1) := by decide +kernel
theorem dX12_beginOne_60 : decode cX12_beginOne 60 = .ok (.invokevirtual 177, 3) := by decide +kernel
theorem dX12_beginOne_63 : decode cX12_beginOne 63 = .ok (.iconst 0, 1) := by decide +kernel
theorem dX12_beginOne_64 : decode cX12_beginOne 64 = .ok (.ireturn, 1) := by decide +kernel
theorem dX12_beginOne_65 : decode cX12_beginOne 65 = .ok (.aload_n 0, 1) := by decide +kernel
theorem dX12_beginOne_66 : decode cX12_beginOne 66 = .ok (.getfield 125, 3) := by decide +kernel
theorem dX12_beginOne_69 : decode cX12_beginOne 69 = .ok (.bipush 40, 2) := by decide +kernel
theorem dX12_beginOne_71 : decode cX12_beginOne 71 = .ok (.if_icmp .ne 8, 3) := by decide +kernel
theorem dX12_beginOne_74 : decode cX12_beginOne 74 = .ok (.bipush 40, 2) := by decide +kernel
theorem dX12_beginOne_76 : decode cX12_beginOne 76 = .ok (.goto 17, 3) := by decide +kernel
theorem dX12_beginOne_79 : decode cX12_beginOne 79 = .ok (.aload_n 0, 1) := by decide +kernel
theorem dX12_beginOne_80 : decode cX12_beginOne 80 = .ok (.getfield 125, 3) := by decide +kernel
theorem dX12_beginOne_83 : decode cX12_beginOne 83 = .ok (.bipush 45, 2) := by decide +kernel
theorem dX12_beginOne_85 : decode cX12_beginOne 85 = .ok (.if_icmp .ne 7, 3) := by decide +kernel
theorem dX12_beginOne_88 : decode cX12_beginOne 88 = .ok (.iconst 2, 1) := by decide +kernel
theorem dX12_beginOne_89 : decode cX12_beginOne 89 = .ok (.goto 4, 3) := by decide +kernel
theorem dX12_beginOne_92 : decode cX12_beginOne 92 = .ok (.iconst 0, 1) := by decide +kernel
theorem dX12_beginOne_93 : decode cX12_beginOne 93 = .ok (.istore_n 1, 1) := by decide +kernel
theorem dX12_beginOne_94 : decode cX12_beginOne 94 = .ok (.iload_n 1, 1) := by decide +kernel
theorem dX12_beginOne_95 : decode cX12_beginOne 95 = .ok (.ifCond .ne 5, 3) := by decide +kernel
theorem dX12_beginOne_98 : decode cX12_beginOne 98 = .ok (.iconst 1, 1) := by decide +kernel
theorem dX12_beginOne_99 : decode cX12_beginOne 99 = .ok (.ireturn, 1) := by decide +kernel
theorem dX12_beginOne_100 : decode cX12_beginOne 100 = .ok (.aload_n 0, 1) := by decide +kernel
theorem dX12_beginOne_101 : decode cX12_beginOne 101 = .ok (.getfield 163, 3) := by decide +kernel
theorem dX12_beginOne_104 : decode cX12_beginOne 104 = .ok (.bipush 8, 2) := by decide +kernel
theorem dX12_beginOne_106 : decode cX12_beginOne 106 = .ok (.if_icmp .ne 5, 3) := by decide +kernel
theorem dX12_beginOne_109 : decode cX12_beginOne 109 = .ok (.iconst 3, 1) := by decide +kernel
theorem dX12_beginOne_110 : decode cX12_beginOne 110 = .ok (.ireturn, 1) := by decide +kernel
theorem dX12_beginOne_111 : decode cX12_beginOne 111 = .ok (.aload_n 0, 1) := by decide +kernel
theorem dX12_beginOne_112 : decode cX12_beginOne 112 = .ok (.dup, 1) := by decide +kernel
theorem dX12_beginOne_113 : decode cX12_beginOne 113 = .ok (.getfield 163, 3) := by decide +kernel
theorem dX12_beginOne_116 : decode cX12_beginOne 116 = .ok (.iconst 1, 1) := by decide +kernel
theorem dX12_beginOne_117 : decode cX12_beginOne 117 = .ok (.iadd, 1) := by decide +kernel
theorem dX12_beginOne_118 : decode cX12_beginOne 118 = .ok (.putfield 163, 3) := by decide +kernel
theorem dX12_beginOne_121 : decode cX12_beginOne 121 = .ok (.aload_n 0, 1) := by decide +kernel
theorem dX12_beginOne_122 : decode cX12_beginOne 122 = .ok (.iload_n 1, 1) := by decide +kernel
theorem dX12_beginOne_123 : decode cX12_beginOne 123 = .ok (.invokevirtual 184, 3) := by decide +kernel
theorem dX12_beginOne_126 : decode cX12_beginOne 126 = .ok (.aload_n 0, 1) := by decide +kernel
theorem dX12_beginOne_127 : decode cX12_beginOne 127 = .ok (.invokevirtual 174, 3) := by decide +kernel
theorem dX12_beginOne_130 : decode cX12_beginOne 130 = .ok (.iconst 0, 1) := by decide +kernel
theorem dX12_beginOne_131 : decode cX12_beginOne 131 = .ok (.ireturn, 1) := by decide +kernel
theorem dX12_hasParen_0 : decode cX12_hasParen 0 = .ok (.iconst 0, 1) := by decide +kernel
theorem dX12_hasParen_1 : decode cX12_hasParen 1 = .ok (.istore_n 1, 1) := by decide +kernel
theorem dX12_hasParen_2 : decode cX12_hasParen 2 = .ok (.iload_n 1, 1) := by decide +kernel
theorem dX12_hasParen_3 : decode cX12_hasParen 3 = .ok (.aload_n 0, 1) := by decide +kernel
theorem dX12_hasParen_4 : decode cX12_hasParen 4 = .ok (.getfield 156, 3) := by decide +kernel
theorem dX12_hasParen_7 : decode cX12_hasParen 7 = .ok (.if_icmp .ge 22, 3) := by decide +kernel
theorem dX12_hasParen_10 : decode cX12_hasParen 10 = .ok (.aload_n 0, 1) := by decide +kernel
theorem dX12_hasParen_11 : decode cX12_hasParen 11 = .ok (.getfield 29, 3) := by decide +kernel
theorem dX12_hasParen_14 : decode cX12_hasParen 14 = .ok (.iload_n 1, 1) := by decide +kernel
theorem dX12_hasParen_15 : decode cX12_hasParen 15 = .ok (.iaload, 1) := by decide +kernel
theorem dX12_hasParen_16 : decode cX12_hasParen 16 = .ok (.bipush 40, 2) := by decide +kernel
theorem dX12_hasParen_18 : decode cX12_hasParen 18 = .ok (.if_icmp .ne 5, 3) := by decide +kernel
theorem dX12_hasParen_21 : decode cX12_hasParen 21 = .ok (.iconst 1, 1) := by decide +kernel
theorem dX12_hasParen_22 : decode cX12_hasParen 22 = .ok (.ireturn, 1) := by decide +kernel
theorem dX12_hasParen_23 : decode cX12_hasParen 23 = .ok (.iinc 1 1, 3) := by decide +kernel
theorem dX12_hasParen_26 : decode cX12_hasParen 26 = .ok (.goto (-24), 3) := by decide +kernel
theorem dX12_hasParen_29 : decode cX12_hasParen 29 = .ok (.iconst 0, 1) := by decide +kernel
theorem dX12_hasParen_30 : decode cX12_hasParen 30 = .ok (.ireturn, 1) := by decide +kernel
theorem dX12_goesOn_0 : decode cX12_goesOn 0 = .ok (.aload_n 0, 1) := by decide +kernel
theorem dX12_goesOn_1 : decode cX12_goesOn 1 = .ok (.getfield 125, 3) := by decide +kernel
theorem dX12_goesOn_4 : decode cX12_goesOn 4 = .ok (.bipush 43, 2) := by decide +kernel
theorem dX12_goesOn_6 : decode cX12_goesOn 6 = .ok (.if_icmp .eq 46, 3) := by decide +kernel
theorem dX12_goesOn_9 : decode cX12_goesOn 9 = .ok (.aload_n 0, 1) := by decide +kernel
theorem dX12_goesOn_10 : decode cX12_goesOn 10 = .ok (.getfield 125, 3) := by decide +kernel
theorem dX12_goesOn_13 : decode cX12_goesOn 13 = .ok (.bipush 45, 2) := by decide +kernel
theorem dX12_goesOn_15 : decode cX12_goesOn 15 = .ok (.if_icmp .eq 37, 3) := by decide +kernel
theorem dX12_goesOn_18 : decode cX12_goesOn 18 = .ok (.aload_n 0, 1) := by decide +kernel
theorem dX12_goesOn_19 : decode cX12_goesOn 19 = .ok (.getfield 125, 3) := by decide +kernel
theorem dX12_goesOn_22 : decode cX12_goesOn 22 = .ok (.bipush 42, 2) := by decide +kernel
theorem dX12_goesOn_24 : decode cX12_goesOn 24 = .ok (.if_icmp .eq 28, 3) := by decide +kernel
theorem dX12_goesOn_27 : decode cX12_goesOn 27 = .ok (.aload_n 0, 1) := by decide +kernel
theorem dX12_goesOn_28 : decode cX12_goesOn 28 = .ok (.getfield 125, 3) := by decide +kernel
theorem dX12_goesOn_31 : decode cX12_goesOn 31 = .ok (.bipush 47, 2) := by decide +kernel
theorem dX12_goesOn_33 : decode cX12_goesOn 33 = .ok (.if_icmp .eq 19, 3) := by decide +kernel
theorem dX12_goesOn_36 : decode cX12_goesOn 36 = .ok (.aload_n 0, 1) := by decide +kernel
theorem dX12_goesOn_37 : decode cX12_goesOn 37 = .ok (.getfield 125, 3) := by decide +kernel
theorem dX12_goesOn_40 : decode cX12_goesOn 40 = .ok (.bipush 41, 2) := by decide +kernel
theorem dX12_goesOn_42 : decode cX12_goesOn 42 = .ok (.if_icmp .ne 14, 3) := by decide +kernel
theorem dX12_goesOn_45 : decode cX12_goesOn 45 = .ok (.aload_n 0, 1) := by decide +kernel
theorem dX12_goesOn_46 : decode cX12_goesOn 46 = .ok (.invokevirtual 187, 3) := by decide +kernel
theorem dX12_goesOn_49 : decode cX12_goesOn 49 = .ok (.ifCond .eq 7, 3) := by decide +kernel
theorem dX12_goesOn_52 : decode cX12_goesOn 52 = .ok (.iconst 1, 1) := by decide +kernel
theorem dX12_goesOn_53 : decode cX12_goesOn 53 = .ok (.goto 4, 3) := by decide +kernel
theorem dX12_goesOn_56 : decode cX12_goesOn 56 = .ok (.iconst 0, 1) := by decide +kernel
theorem dX12_goesOn_57 : decode cX12_goesOn 57 = .ok (.ireturn, 1) := by decide +kernel
theorem dX12_behindOne_0 : decode cX12_behindOne 0 = .ok (.aload_n 0, 1) := by decide +kernel
theorem dX12_behindOne_1 : decode cX12_behindOne 1 = .ok (.getfield 125, 3) := by decide +kernel
theorem dX12_behindOne_4 : decode cX12_behindOne 4 = .ok (.istore_n 1, 1) := by decide +kernel
theorem dX12_behindOne_5 : decode cX12_behindOne 5 = .ok (.iload_n 1, 1) := by decide +kernel
theorem dX12_behindOne_6 : decode cX12_behindOne 6 = .ok (.bipush 43, 2) := by decide +kernel
theorem dX12_behindOne_8 : decode cX12_behindOne 8 = .ok (.if_icmp .eq 9, 3) := by decide +kernel
theorem dX12_behindOne_11 : decode cX12_behindOne 11 = .ok (.iload_n 1, 1) := by decide +kernel
theorem dX12_behindOne_12 : decode cX12_behindOne 12 = .ok (.bipush 45, 2) := by decide +kernel
theorem dX12_behindOne_14 : decode cX12_behindOne 14 = .ok (.if_icmp .ne 31, 3) := by decide +kernel
theorem dX12_behindOne_17 : decode cX12_behindOne 17 = .ok (.aload_n 0, 1) := by decide +kernel
theorem dX12_behindOne_18 : decode cX12_behindOne 18 = .ok (.iconst 3, 1) := by decide +kernel
theorem dX12_behindOne_19 : decode cX12_behindOne 19 = .ok (.invokevirtual 191, 3) := by decide +kernel
theorem dX12_behindOne_22 : decode cX12_behindOne 22 = .ok (.aload_n 0, 1) := by decide +kernel
theorem dX12_behindOne_23 : decode cX12_behindOne 23 = .ok (.iload_n 1, 1) := by decide +kernel
theorem dX12_behindOne_24 : decode cX12_behindOne 24 = .ok (.bipush 43, 2) := by decide +kernel
theorem dX12_behindOne_26 : decode cX12_behindOne 26 = .ok (.if_icmp .ne 7, 3) := by decide +kernel
theorem dX12_behindOne_29 : decode cX12_behindOne 29 = .ok (.iconst 3, 1) := by decide +kernel
theorem dX12_behindOne_30 : decode cX12_behindOne 30 = .ok (.goto 4, 3) := by decide +kernel
theorem dX12_behindOne_33 : decode cX12_behindOne 33 = .ok (.iconst 4, 1) := by decide +kernel
theorem dX12_behindOne_34 : decode cX12_behindOne 34 = .ok (.invokevirtual 184, 3) := by decide +kernel
theorem dX12_behindOne_37 : decode cX12_behindOne 37 = .ok (.aload_n 0, 1) := by decide +kernel
theorem dX12_behindOne_38 : decode cX12_behindOne 38 = .ok (.iconst 0, 1) := by decide +kernel
theorem dX12_behindOne_39 : decode cX12_behindOne 39 = .ok (.putfield 159, 3) := by decide +kernel
theorem dX12_behindOne_42 : decode cX12_behindOne 42 = .ok (.goto 73, 3) := by decide +kernel
theorem dX12_behindOne_45 : decode cX12_behindOne 45 = .ok (.iload_n 1, 1) := by decide +kernel
theorem dX12_behindOne_46 : decode cX12_behindOne 46 = .ok (.bipush 42, 2) := by decide +kernel
theorem dX12_behindOne_48 : decode cX12_behindOne 48 = .ok (.if_icmp .eq 9, 3) := by decide +kernel
theorem dX12_behindOne_51 : decode cX12_behindOne 51 = .ok (.iload_n 1, 1) := by decide +kernel
theorem dX12_behindOne_52 : decode cX12_behindOne 52 = .ok (.bipush 47, 2) := by decide +kernel
theorem dX12_behindOne_54 : decode cX12_behindOne 54 = .ok (.if_icmp .ne 32, 3) := by decide +kernel
theorem dX12_behindOne_57 : decode cX12_behindOne 57 = .ok (.aload_n 0, 1) := by decide +kernel
theorem dX12_behindOne_58 : decode cX12_behindOne 58 = .ok (.iconst 5, 1) := by decide +kernel
theorem dX12_behindOne_59 : decode cX12_behindOne 59 = .ok (.invokevirtual 191, 3) := by decide +kernel
theorem dX12_behindOne_62 : decode cX12_behindOne 62 = .ok (.aload_n 0, 1) := by decide +kernel
theorem dX12_behindOne_63 : decode cX12_behindOne 63 = .ok (.iload_n 1, 1) := by decide +kernel
theorem dX12_behindOne_64 : decode cX12_behindOne 64 = .ok (.bipush 42, 2) := by decide +kernel
theorem dX12_behindOne_66 : decode cX12_behindOne 66 = .ok (.if_icmp .ne 7, 3) := by decide +kernel
theorem dX12_behindOne_69 : decode cX12_behindOne 69 = .ok (.iconst 5, 1) := by decide +kernel
theorem dX12_behindOne_70 : decode cX12_behindOne 70 = .ok (.goto 5, 3) := by decide +kernel
theorem dX12_behindOne_73 : decode cX12_behindOne 73 = .ok (.bipush 6, 2) := by decide +kernel
theorem dX12_behindOne_75 : decode cX12_behindOne 75 = .ok (.invokevirtual 184, 3) := by decide +kernel
theorem dX12_behindOne_78 : decode cX12_behindOne 78 = .ok (.aload_n 0, 1) := by decide +kernel
theorem dX12_behindOne_79 : decode cX12_behindOne 79 = .ok (.iconst 0, 1) := by decide +kernel
theorem dX12_behindOne_80 : decode cX12_behindOne 80 = .ok (.putfield 159, 3) := by decide +kernel
theorem dX12_behindOne_83 : decode cX12_behindOne 83 = .ok (.goto 32, 3) := by decide +kernel
theorem dX12_behindOne_86 : decode cX12_behindOne 86 = .ok (.aload_n 0, 1) := by decide +kernel
theorem dX12_behindOne_87 : decode cX12_behindOne 87 = .ok (.iconst 3, 1) := by decide +kernel
theorem dX12_behindOne_88 : decode cX12_behindOne 88 = .ok (.invokevirtual 191, 3) := by decide +kernel
theorem dX12_behindOne_91 : decode cX12_behindOne 91 = .ok (.aload_n 0, 1) := by decide +kernel
theorem dX12_behindOne_92 : decode cX12_behindOne 92 = .ok (.dup, 1) := by decide +kernel
theorem dX12_behindOne_93 : decode cX12_behindOne 93 = .ok (.getfield 156, 3) := by decide +kernel
theorem dX12_behindOne_96 : decode cX12_behindOne 96 = .ok (.iconst 1, 1) := by decide +kernel
theorem dX12_behindOne_97 : decode cX12_behindOne 97 = .ok (.isub, 1) := by decide +kernel
theorem dX12_behindOne_98 : decode cX12_behindOne 98 = .ok (.putfield 156, 3) := by decide +kernel
theorem dX12_behindOne_101 : decode cX12_behindOne 101 = .ok (.aload_n 0, 1) := by decide +kernel
theorem dX12_behindOne_102 : decode cX12_behindOne 102 = .ok (.dup, 1) := by decide +kernel
theorem dX12_behindOne_103 : decode cX12_behindOne 103 = .ok (.getfield 163, 3) := by decide +kernel
theorem dX12_behindOne_106 : decode cX12_behindOne 106 = .ok (.iconst 1, 1) := by decide +kernel
theorem dX12_behindOne_107 : decode cX12_behindOne 107 = .ok (.isub, 1) := by decide +kernel
theorem dX12_behindOne_108 : decode cX12_behindOne 108 = .ok (.putfield 163, 3) := by decide +kernel
theorem dX12_behindOne_111 : decode cX12_behindOne 111 = .ok (.aload_n 0, 1) := by decide +kernel
theorem dX12_behindOne_112 : decode cX12_behindOne 112 = .ok (.invokevirtual 177, 3) := by decide +kernel
theorem dX12_behindOne_115 : decode cX12_behindOne 115 = .ok (.aload_n 0, 1) := by decide +kernel
theorem dX12_behindOne_116 : decode cX12_behindOne 116 = .ok (.invokevirtual 174, 3) := by decide +kernel
theorem dX12_behindOne_119 : decode cX12_behindOne 119 = .ok (.iconst 0, 1) := by decide +kernel
theorem dX12_behindOne_120 : decode cX12_behindOne 120 = .ok (.ireturn, 1) := by decide +kernel
theorem dX12_summed_0 : decode cX12_summed 0 = .ok (.aload_n 0, 1) := by decide +kernel
theorem dX12_summed_1 : decode cX12_summed 1 = .ok (.iconst 0, 1) := by decide +kernel
theorem dX12_summed_2 : decode cX12_summed 2 = .ok (.putfield 156, 3) := by decide +kernel
theorem dX12_summed_5 : decode cX12_summed 5 = .ok (.aload_n 0, 1) := by decide +kernel
theorem dX12_summed_6 : decode cX12_summed 6 = .ok (.iconst 0, 1) := by decide +kernel
theorem dX12_summed_7 : decode cX12_summed 7 = .ok (.putfield 159, 3) := by decide +kernel
theorem dX12_summed_10 : decode cX12_summed 10 = .ok (.aload_n 0, 1) := by decide +kernel
theorem dX12_summed_11 : decode cX12_summed 11 = .ok (.getfield 159, 3) := by decide +kernel
theorem dX12_summed_14 : decode cX12_summed 14 = .ok (.ifCond .eq 10, 3) := by decide +kernel
theorem dX12_summed_17 : decode cX12_summed 17 = .ok (.aload_n 0, 1) := by decide +kernel
theorem dX12_summed_18 : decode cX12_summed 18 = .ok (.invokevirtual 194, 3) := by decide +kernel
theorem dX12_summed_21 : decode cX12_summed 21 = .ok (.ifCond .eq 31, 3) := by decide +kernel
theorem dX12_summed_24 : decode cX12_summed 24 = .ok (.aload_n 0, 1) := by decide +kernel
theorem dX12_summed_25 : decode cX12_summed 25 = .ok (.getfield 159, 3) := by decide +kernel
theorem dX12_summed_28 : decode cX12_summed 28 = .ok (.ifCond .eq 10, 3) := by decide +kernel
theorem dX12_summed_31 : decode cX12_summed 31 = .ok (.aload_n 0, 1) := by decide +kernel
theorem dX12_summed_32 : decode cX12_summed 32 = .ok (.invokevirtual 197, 3) := by decide +kernel
theorem dX12_summed_35 : decode cX12_summed 35 = .ok (.goto 7, 3) := by decide +kernel
theorem dX12_summed_38 : decode cX12_summed 38 = .ok (.aload_n 0, 1) := by decide +kernel
theorem dX12_summed_39 : decode cX12_summed 39 = .ok (.invokevirtual 200, 3) := by decide +kernel
theorem dX12_summed_42 : decode cX12_summed 42 = .ok (.istore_n 1, 1) := by decide +kernel
theorem dX12_summed_43 : decode cX12_summed 43 = .ok (.iload_n 1, 1) := by decide +kernel
theorem dX12_summed_44 : decode cX12_summed 44 = .ok (.ifCond .eq 5, 3) := by decide +kernel
theorem dX12_summed_47 : decode cX12_summed 47 = .ok (.iload_n 1, 1) := by decide +kernel
theorem dX12_summed_48 : decode cX12_summed 48 = .ok (.ireturn, 1) := by decide +kernel
theorem dX12_summed_49 : decode cX12_summed 49 = .ok (.goto (-39), 3) := by decide +kernel
theorem dX12_summed_52 : decode cX12_summed 52 = .ok (.aload_n 0, 1) := by decide +kernel
theorem dX12_summed_53 : decode cX12_summed 53 = .ok (.iconst 3, 1) := by decide +kernel
theorem dX12_summed_54 : decode cX12_summed 54 = .ok (.invokevirtual 191, 3) := by decide +kernel
theorem dX12_summed_57 : decode cX12_summed 57 = .ok (.aload_n 0, 1) := by decide +kernel
theorem dX12_summed_58 : decode cX12_summed 58 = .ok (.getfield 156, 3) := by decide +kernel
theorem dX12_summed_61 : decode cX12_summed 61 = .ok (.ifCond .le 7, 3) := by decide +kernel
theorem dX12_summed_64 : decode cX12_summed 64 = .ok (.iconst 1, 1) := by decide +kernel
theorem dX12_summed_65 : decode cX12_summed 65 = .ok (.goto 4, 3) := by decide +kernel
theorem dX12_summed_68 : decode cX12_summed 68 = .ok (.iconst 0, 1) := by decide +kernel
theorem dX12_summed_69 : decode cX12_summed 69 = .ok (.ireturn, 1) := by decide +kernel
theorem dX12_compareOf_0 : decode cX12_compareOf 0 = .ok (.aload_n 0, 1) := by decide +kernel
theorem dX12_compareOf_1 : decode cX12_compareOf 1 = .ok (.getfield 125, 3) := by decide +kernel
theorem dX12_compareOf_4 : decode cX12_compareOf 4 = .ok (.bipush 60, 2) := by decide +kernel
theorem dX12_compareOf_6 : decode cX12_compareOf 6 = .ok (.if_icmp .ne 8, 3) := by decide +kernel
theorem dX12_compareOf_9 : decode cX12_compareOf 9 = .ok (.bipush 10, 2) := by decide +kernel
theorem dX12_compareOf_11 : decode cX12_compareOf 11 = .ok (.goto 72, 3) := by decide +kernel
theorem dX12_compareOf_14 : decode cX12_compareOf 14 = .ok (.aload_n 0, 1) := by decide +kernel
theorem dX12_compareOf_15 : decode cX12_compareOf 15 = .ok (.getfield 125, 3) := by decide +kernel
theorem dX12_compareOf_18 : decode cX12_compareOf 18 = .ok (.iconst 4, 1) := by decide +kernel
theorem dX12_compareOf_19 : decode cX12_compareOf 19 = .ok (.if_icmp .ne 8, 3) := by decide +kernel
theorem dX12_compareOf_22 : decode cX12_compareOf 22 = .ok (.bipush 11, 2) := by decide +kernel
theorem dX12_compareOf_24 : decode cX12_compareOf 24 = .ok (.goto 59, 3) := by decide +kernel
theorem dX12_compareOf_27 : decode cX12_compareOf 27 = .ok (.aload_n 0, 1) := by decide +kernel
theorem dX12_compareOf_28 : decode cX12_compareOf 28 = .ok (.getfield 125, 3) := by decide +kernel
theorem dX12_compareOf_31 : decode cX12_compareOf 31 = .ok (.bipush 62, 2) := by decide +kernel
theorem dX12_compareOf_33 : decode cX12_compareOf 33 = .ok (.if_icmp .ne 8, 3) := by decide +kernel
theorem dX12_compareOf_36 : decode cX12_compareOf 36 = .ok (.bipush 12, 2) := by decide +kernel
theorem dX12_compareOf_38 : decode cX12_compareOf 38 = .ok (.goto 45, 3) := by decide +kernel
theorem dX12_compareOf_41 : decode cX12_compareOf 41 = .ok (.aload_n 0, 1) := by decide +kernel
theorem dX12_compareOf_42 : decode cX12_compareOf 42 = .ok (.getfield 125, 3) := by decide +kernel
theorem dX12_compareOf_45 : decode cX12_compareOf 45 = .ok (.iconst 5, 1) := by decide +kernel
theorem dX12_compareOf_46 : decode cX12_compareOf 46 = .ok (.if_icmp .ne 8, 3) := by decide +kernel
theorem dX12_compareOf_49 : decode cX12_compareOf 49 = .ok (.bipush 13, 2) := by decide +kernel
theorem dX12_compareOf_51 : decode cX12_compareOf 51 = .ok (.goto 32, 3) := by decide +kernel
theorem dX12_compareOf_54 : decode cX12_compareOf 54 = .ok (.aload_n 0, 1) := by decide +kernel
theorem dX12_compareOf_55 : decode cX12_compareOf 55 = .ok (.getfield 125, 3) := by decide +kernel
theorem dX12_compareOf_58 : decode cX12_compareOf 58 = .ok (.bipush 61, 2) := by decide +kernel
theorem dX12_compareOf_60 : decode cX12_compareOf 60 = .ok (.if_icmp .ne 8, 3) := by decide +kernel
theorem dX12_compareOf_63 : decode cX12_compareOf 63 = .ok (.bipush 14, 2) := by decide +kernel
theorem dX12_compareOf_65 : decode cX12_compareOf 65 = .ok (.goto 18, 3) := by decide +kernel
theorem dX12_compareOf_68 : decode cX12_compareOf 68 = .ok (.aload_n 0, 1) := by decide +kernel
theorem dX12_compareOf_69 : decode cX12_compareOf 69 = .ok (.getfield 125, 3) := by decide +kernel
theorem dX12_compareOf_72 : decode cX12_compareOf 72 = .ok (.bipush 35, 2) := by decide +kernel
theorem dX12_compareOf_74 : decode cX12_compareOf 74 = .ok (.if_icmp .ne 8, 3) := by decide +kernel
theorem dX12_compareOf_77 : decode cX12_compareOf 77 = .ok (.bipush 15, 2) := by decide +kernel
theorem dX12_compareOf_79 : decode cX12_compareOf 79 = .ok (.goto 4, 3) := by decide +kernel
theorem dX12_compareOf_82 : decode cX12_compareOf 82 = .ok (.iconst (-1), 1) := by decide +kernel
theorem dX12_compareOf_83 : decode cX12_compareOf 83 = .ok (.ireturn, 1) := by decide +kernel
theorem dX12_asks_0 : decode cX12_asks 0 = .ok (.iconst 0, 1) := by decide +kernel
theorem dX12_asks_1 : decode cX12_asks 1 = .ok (.istore_n 1, 1) := by decide +kernel
theorem dX12_asks_2 : decode cX12_asks 2 = .ok (.aload_n 0, 1) := by decide +kernel
theorem dX12_asks_3 : decode cX12_asks 3 = .ok (.bipush 110, 2) := by decide +kernel
theorem dX12_asks_5 : decode cX12_asks 5 = .ok (.bipush 111, 2) := by decide +kernel
theorem dX12_asks_7 : decode cX12_asks 7 = .ok (.bipush 116, 2) := by decide +kernel
theorem dX12_asks_9 : decode cX12_asks 9 = .ok (.invokestatic 142, 3) := by decide +kernel
theorem dX12_asks_12 : decode cX12_asks 12 = .ok (.invokevirtual 203, 3) := by decide +kernel
theorem dX12_asks_15 : decode cX12_asks 15 = .ok (.ifCond .eq 34, 3) := by decide +kernel
theorem dX12_asks_18 : decode cX12_asks 18 = .ok (.aload_n 0, 1) := by decide +kernel
theorem dX12_asks_19 : decode cX12_asks 19 = .ok (.getfield 163, 3) := by decide +kernel
theorem dX12_asks_22 : decode cX12_asks 22 = .ok (.bipush 8, 2) := by decide +kernel
theorem dX12_asks_24 : decode cX12_asks 24 = .ok (.if_icmp .ne 5, 3) := by decide +kernel
theorem dX12_asks_27 : decode cX12_asks 27 = .ok (.iconst 3, 1) := by decide +kernel
theorem dX12_asks_28 : decode cX12_asks 28 = .ok (.ireturn, 1) := by decide +kernel
theorem dX12_asks_29 : decode cX12_asks 29 = .ok (.aload_n 0, 1) := by decide +kernel
theorem dX12_asks_30 : decode cX12_asks 30 = .ok (.dup, 1) := by decide +kernel
theorem dX12_asks_31 : decode cX12_asks 31 = .ok (.getfield 163, 3) := by decide +kernel
theorem dX12_asks_34 : decode cX12_asks 34 = .ok (.iconst 1, 1) := by decide +kernel
theorem dX12_asks_35 : decode cX12_asks 35 = .ok (.iadd, 1) := by decide +kernel
theorem dX12_asks_36 : decode cX12_asks 36 = .ok (.putfield 163, 3) := by decide +kernel
theorem dX12_asks_39 : decode cX12_asks 39 = .ok (.iinc 1 1, 3) := by decide +kernel
theorem dX12_asks_42 : decode cX12_asks 42 = .ok (.aload_n 0, 1) := by decide +kernel
theorem dX12_asks_43 : decode cX12_asks 43 = .ok (.invokevirtual 174, 3) := by decide +kernel
theorem dX12_asks_46 : decode cX12_asks 46 = .ok (.goto (-44), 3) := by decide +kernel
theorem dX12_asks_49 : decode cX12_asks 49 = .ok (.aload_n 0, 1) := by decide +kernel
theorem dX12_asks_50 : decode cX12_asks 50 = .ok (.invokevirtual 207, 3) := by decide +kernel
theorem dX12_asks_53 : decode cX12_asks 53 = .ok (.istore_n 2, 1) := by decide +kernel
theorem dX12_asks_54 : decode cX12_asks 54 = .ok (.iload_n 2, 1) := by decide +kernel
theorem dX12_asks_55 : decode cX12_asks 55 = .ok (.ifCond .eq 5, 3) := by decide +kernel
theorem dX12_asks_58 : decode cX12_asks 58 = .ok (.iload_n 2, 1) := by decide +kernel
theorem dX12_asks_59 : decode cX12_asks 59 = .ok (.ireturn, 1) := by decide +kernel
theorem dX12_asks_60 : decode cX12_asks 60 = .ok (.aload_n 0, 1) := by decide +kernel
theorem dX12_asks_61 : decode cX12_asks 61 = .ok (.invokevirtual 210, 3) := by decide +kernel
theorem dX12_asks_64 : decode cX12_asks 64 = .ok (.istore_n 3, 1) := by decide +kernel
theorem dX12_asks_65 : decode cX12_asks 65 = .ok (.iload_n 3, 1) := by decide +kernel
theorem dX12_asks_66 : decode cX12_asks 66 = .ok (.ifCond .ge 5, 3) := by decide +kernel
theorem dX12_asks_69 : decode cX12_asks 69 = .ok (.iconst 1, 1) := by decide +kernel
theorem dX12_asks_70 : decode cX12_asks 70 = .ok (.ireturn, 1) := by decide +kernel
theorem dX12_asks_71 : decode cX12_asks 71 = .ok (.aload_n 0, 1) := by decide +kernel
theorem dX12_asks_72 : decode cX12_asks 72 = .ok (.invokevirtual 174, 3) := by decide +kernel
theorem dX12_asks_75 : decode cX12_asks 75 = .ok (.aload_n 0, 1) := by decide +kernel
theorem dX12_asks_76 : decode cX12_asks 76 = .ok (.invokevirtual 207, 3) := by decide +kernel
theorem dX12_asks_79 : decode cX12_asks 79 = .ok (.istore_n 2, 1) := by decide +kernel
theorem dX12_asks_80 : decode cX12_asks 80 = .ok (.iload_n 2, 1) := by decide +kernel
theorem dX12_asks_81 : decode cX12_asks 81 = .ok (.ifCond .eq 5, 3) := by decide +kernel
theorem dX12_asks_84 : decode cX12_asks 84 = .ok (.iload_n 2, 1) := by decide +kernel
theorem dX12_asks_85 : decode cX12_asks 85 = .ok (.ireturn, 1) := by decide +kernel
theorem dX12_asks_86 : decode cX12_asks 86 = .ok (.aload_n 0, 1) := by decide +kernel
theorem dX12_asks_87 : decode cX12_asks 87 = .ok (.iload_n 3, 1) := by decide +kernel
theorem dX12_asks_88 : decode cX12_asks 88 = .ok (.iconst 0, 1) := by decide +kernel
theorem dX12_asks_89 : decode cX12_asks 89 = .ok (.invokevirtual 166, 3) := by decide +kernel
theorem dX12_asks_92 : decode cX12_asks 92 = .ok (.aload_n 0, 1) := by decide +kernel
theorem dX12_asks_93 : decode cX12_asks 93 = .ok (.dup, 1) := by decide +kernel
theorem dX12_asks_94 : decode cX12_asks 94 = .ok (.getfield 163, 3) := by decide +kernel
theorem dX12_asks_97 : decode cX12_asks 97 = .ok (.iload_n 1, 1) := by decide +kernel
theorem dX12_asks_98 : decode cX12_asks 98 = .ok (.isub, 1) := by decide +kernel
theorem dX12_asks_99 : decode cX12_asks 99 = .ok (.putfield 163, 3) := by decide +kernel
theorem dX12_asks_102 : decode cX12_asks 102 = .ok (.iconst 0, 1) := by decide +kernel
theorem dX12_asks_103 : decode cX12_asks 103 = .ok (.istore 4, 2) := by decide +kernel
theorem dX12_asks_105 : decode cX12_asks 105 = .ok (.iload 4, 2) := by decide +kernel
theorem dX12_asks_107 : decode cX12_asks 107 = .ok (.iload_n 1, 1) := by decide +kernel
theorem dX12_asks_108 : decode cX12_asks 108 = .ok (.if_icmp .ge 16, 3) := by decide +kernel
theorem dX12_asks_111 : decode cX12_asks 111 = .ok (.aload_n 0, 1) := by decide +kernel
theorem dX12_asks_112 : decode cX12_asks 112 = .ok (.bipush 20, 2) := by decide +kernel
theorem dX12_asks_114 : decode cX12_asks 114 = .ok (.iconst 0, 1) := by decide +kernel
theorem dX12_asks_115 : decode cX12_asks 115 = .ok (.invokevirtual 166, 3) := by decide +kernel
theorem dX12_asks_118 : decode cX12_asks 118 = .ok (.iinc 4 1, 3) := by decide +kernel
theorem dX12_asks_121 : decode cX12_asks 121 = .ok (.goto (-16), 3) := by decide +kernel
theorem dX12_asks_124 : decode cX12_asks 124 = .ok (.iconst 0, 1) := by decide +kernel
theorem dX12_asks_125 : decode cX12_asks 125 = .ok (.ireturn, 1) := by decide +kernel
theorem dX12_either_0 : decode cX12_either 0 = .ok (.iconst 0, 1) := by decide +kernel
theorem dX12_either_1 : decode cX12_either 1 = .ok (.istore_n 1, 1) := by decide +kernel
theorem dX12_either_2 : decode cX12_either 2 = .ok (.iconst 0, 1) := by decide +kernel
theorem dX12_either_3 : decode cX12_either 3 = .ok (.istore_n 2, 1) := by decide +kernel
theorem dX12_either_4 : decode cX12_either 4 = .ok (.iconst 1, 1) := by decide +kernel
theorem dX12_either_5 : decode cX12_either 5 = .ok (.istore_n 3, 1) := by decide +kernel
theorem dX12_either_6 : decode cX12_either 6 = .ok (.iload_n 3, 1) := by decide +kernel
theorem dX12_either_7 : decode cX12_either 7 = .ok (.ifCond .eq 112, 3) := by decide +kernel
theorem dX12_either_10 : decode cX12_either 10 = .ok (.aload_n 0, 1) := by decide +kernel
theorem dX12_either_11 : decode cX12_either 11 = .ok (.invokevirtual 213, 3) := by decide +kernel
theorem dX12_either_14 : decode cX12_either 14 = .ok (.istore 4, 2) := by decide +kernel
theorem dX12_either_16 : decode cX12_either 16 = .ok (.iload 4, 2) := by decide +kernel
theorem dX12_either_18 : decode cX12_either 18 = .ok (.ifCond .eq 6, 3) := by decide +kernel
theorem dX12_either_21 : decode cX12_either 21 = .ok (.iload 4, 2) := by decide +kernel
theorem dX12_either_23 : decode cX12_either 23 = .ok (.ireturn, 1) := by decide +kernel
theorem dX12_either_24 : decode cX12_either 24 = .ok (.iload_n 1, 1) := by decide +kernel
theorem dX12_either_25 : decode cX12_either 25 = .ok (.ifCond .eq 10, 3) := by decide +kernel
theorem dX12_either_28 : decode cX12_either 28 = .ok (.aload_n 0, 1) := by decide +kernel
theorem dX12_either_29 : decode cX12_either 29 = .ok (.bipush 21, 2) := by decide +kernel
theorem dX12_either_31 : decode cX12_either 31 = .ok (.iconst 0, 1) := by decide +kernel
theorem dX12_either_32 : decode cX12_either 32 = .ok (.invokevirtual 166, 3) := by decide +kernel
theorem dX12_either_35 : decode cX12_either 35 = .ok (.aload_n 0, 1) := by decide +kernel
theorem dX12_either_36 : decode cX12_either 36 = .ok (.bipush 97, 2) := by decide +kernel
theorem dX12_either_38 : decode cX12_either 38 = .ok (.bipush 110, 2) := by decide +kernel
theorem dX12_either_40 : decode cX12_either 40 = .ok (.bipush 100, 2) := by decide +kernel
theorem dX12_either_42 : decode cX12_either 42 = .ok (.invokestatic 142, 3) := by decide +kernel
theorem dX12_either_45 : decode cX12_either 45 = .ok (.invokevirtual 203, 3) := by decide +kernel
theorem dX12_either_48 : decode cX12_either 48 = .ok (.istore_n 1, 1) := by decide +kernel
theorem dX12_either_49 : decode cX12_either 49 = .ok (.aload_n 0, 1) := by decide +kernel
theorem dX12_either_50 : decode cX12_either 50 = .ok (.getfield 125, 3) := by decide +kernel
theorem dX12_either_53 : decode cX12_either 53 = .ok (.iconst 2, 1) := by decide +kernel
theorem dX12_either_54 : decode cX12_either 54 = .ok (.if_icmp .ne 18, 3) := by decide +kernel
theorem dX12_either_57 : decode cX12_either 57 = .ok (.aload_n 0, 1) := by decide +kernel
theorem dX12_either_58 : decode cX12_either 58 = .ok (.getfield 138, 3) := by decide +kernel
theorem dX12_either_61 : decode cX12_either 61 = .ok (.ldc2_w 216, 3) := by decide +kernel
theorem dX12_either_64 : decode cX12_either 64 = .ok (.lcmp, 1) := by decide +kernel
theorem dX12_either_65 : decode cX12_either 65 = .ok (.ifCond .ne 7, 3) := by decide +kernel
theorem dX12_either_68 : decode cX12_either 68 = .ok (.iconst 1, 1) := by decide +kernel
theorem dX12_either_69 : decode cX12_either 69 = .ok (.goto 4, 3) := by decide +kernel
theorem dX12_either_72 : decode cX12_either 72 = .ok (.iconst 0, 1) := by decide +kernel
theorem dX12_either_73 : decode cX12_either 73 = .ok (.istore 5, 2) := by decide +kernel
theorem dX12_either_75 : decode cX12_either 75 = .ok (.iload_n 1, 1) := by decide +kernel
theorem dX12_either_76 : decode cX12_either 76 = .ok (.ifCond .ne 17, 3) := by decide +kernel
theorem dX12_either_79 : decode cX12_either 79 = .ok (.iload_n 2, 1) := by decide +kernel
theorem dX12_either_80 : decode cX12_either 80 = .ok (.ifCond .eq 10, 3) := by decide +kernel
theorem dX12_either_83 : decode cX12_either 83 = .ok (.aload_n 0, 1) := by decide +kernel
theorem dX12_either_84 : decode cX12_either 84 = .ok (.bipush 22, 2) := by decide +kernel
theorem dX12_either_86 : decode cX12_either 86 = .ok (.iconst 0, 1) := by decide +kernel
theorem dX12_either_87 : decode cX12_either 87 = .ok (.invokevirtual 166, 3) := by decide +kernel
theorem dX12_either_90 : decode cX12_either 90 = .ok (.iload 5, 2) := by decide +kernel
theorem dX12_either_92 : decode cX12_either 92 = .ok (.istore_n 2, 1) := by decide +kernel
theorem dX12_either_93 : decode cX12_either 93 = .ok (.iload_n 1, 1) := by decide +kernel
theorem dX12_either_94 : decode cX12_either 94 = .ok (.ifCond .ne 8, 3) := by decide +kernel
theorem dX12_either_97 : decode cX12_either 97 = .ok (.iload 5, 2) := by decide +kernel
theorem dX12_either_99 : decode cX12_either 99 = .ok (.ifCond .eq 7, 3) := by decide +kernel
theorem dX12_either_102 : decode cX12_either 102 = .ok (.iconst 1, 1) := by decide +kernel
theorem dX12_either_103 : decode cX12_either 103 = .ok (.goto 4, 3) := by decide +kernel
theorem dX12_either_106 : decode cX12_either 106 = .ok (.iconst 0, 1) := by decide +kernel
theorem dX12_either_107 : decode cX12_either 107 = .ok (.istore_n 3, 1) := by decide +kernel
theorem dX12_either_108 : decode cX12_either 108 = .ok (.iload_n 3, 1) := by decide +kernel
theorem dX12_either_109 : decode cX12_either 109 = .ok (.ifCond .eq 7, 3) := by decide +kernel
theorem dX12_either_112 : decode cX12_either 112 = .ok (.aload_n 0, 1) := by decide +kernel
theorem dX12_either_113 : decode cX12_either 113 = .ok (.invokevirtual 174, 3) := by decide +kernel
theorem dX12_either_116 : decode cX12_either 116 = .ok (.goto (-110), 3) := by decide +kernel
theorem dX12_either_119 : decode cX12_either 119 = .ok (.iconst 0, 1) := by decide +kernel
theorem dX12_either_120 : decode cX12_either 120 = .ok (.ireturn, 1) := by decide +kernel
theorem dX12_sortOf_0 : decode cX12_sortOf 0 = .ok (.aload_n 0, 1) := by decide +kernel
theorem dX12_sortOf_1 : decode cX12_sortOf 1 = .ok (.bipush 109, 2) := by decide +kernel
theorem dX12_sortOf_3 : decode cX12_sortOf 3 = .ok (.bipush 97, 2) := by decide +kernel
theorem dX12_sortOf_5 : decode cX12_sortOf 5 = .ok (.bipush 121, 2) := by decide +kernel
theorem dX12_sortOf_7 : decode cX12_sortOf 7 = .ok (.invokestatic 142, 3) := by decide +kernel
theorem dX12_sortOf_10 : decode cX12_sortOf 10 = .ok (.invokevirtual 203, 3) := by decide +kernel
theorem dX12_sortOf_13 : decode cX12_sortOf 13 = .ok (.ifCond .eq 5, 3) := by decide +kernel
theorem dX12_sortOf_16 : decode cX12_sortOf 16 = .ok (.iconst 0, 1) := by decide +kernel
theorem dX12_sortOf_17 : decode cX12_sortOf 17 = .ok (.ireturn, 1) := by decide +kernel
theorem dX12_sortOf_18 : decode cX12_sortOf 18 = .ok (.aload_n 0, 1) := by decide +kernel
theorem dX12_sortOf_19 : decode cX12_sortOf 19 = .ok (.bipush 119, 2) := by decide +kernel
theorem dX12_sortOf_21 : decode cX12_sortOf 21 = .ok (.bipush 101, 2) := by decide +kernel
theorem dX12_sortOf_23 : decode cX12_sortOf 23 = .ok (.bipush 105, 2) := by decide +kernel
theorem dX12_sortOf_25 : decode cX12_sortOf 25 = .ok (.bipush 103, 2) := by decide +kernel
theorem dX12_sortOf_27 : decode cX12_sortOf 27 = .ok (.bipush 104, 2) := by decide +kernel
theorem dX12_sortOf_29 : decode cX12_sortOf 29 = .ok (.bipush 116, 2) := by decide +kernel
theorem dX12_sortOf_31 : decode cX12_sortOf 31 = .ok (.invokestatic 218, 3) := by decide +kernel
theorem dX12_sortOf_34 : decode cX12_sortOf 34 = .ok (.invokevirtual 203, 3) := by decide +kernel
theorem dX12_sortOf_37 : decode cX12_sortOf 37 = .ok (.ifCond .eq 5, 3) := by decide +kernel
theorem dX12_sortOf_40 : decode cX12_sortOf 40 = .ok (.iconst 1, 1) := by decide +kernel
theorem dX12_sortOf_41 : decode cX12_sortOf 41 = .ok (.ireturn, 1) := by decide +kernel
theorem dX12_sortOf_42 : decode cX12_sortOf 42 = .ok (.aload_n 0, 1) := by decide +kernel
theorem dX12_sortOf_43 : decode cX12_sortOf 43 = .ok (.bipush 98, 2) := by decide +kernel
theorem dX12_sortOf_45 : decode cX12_sortOf 45 = .ok (.bipush 111, 2) := by decide +kernel
theorem dX12_sortOf_47 : decode cX12_sortOf 47 = .ok (.bipush 111, 2) := by decide +kernel
theorem dX12_sortOf_49 : decode cX12_sortOf 49 = .ok (.bipush 107, 2) := by decide +kernel
theorem dX12_sortOf_51 : decode cX12_sortOf 51 = .ok (.invokestatic 170, 3) := by decide +kernel
theorem dX12_sortOf_54 : decode cX12_sortOf 54 = .ok (.invokevirtual 203, 3) := by decide +kernel
theorem dX12_sortOf_57 : decode cX12_sortOf 57 = .ok (.ifCond .eq 7, 3) := by decide +kernel
theorem dX12_sortOf_60 : decode cX12_sortOf 60 = .ok (.iconst 2, 1) := by decide +kernel
theorem dX12_sortOf_61 : decode cX12_sortOf 61 = .ok (.goto 26, 3) := by decide +kernel
theorem dX12_sortOf_64 : decode cX12_sortOf 64 = .ok (.aload_n 0, 1) := by decide +kernel
theorem dX12_sortOf_65 : decode cX12_sortOf 65 = .ok (.bipush 114, 2) := by decide +kernel
theorem dX12_sortOf_67 : decode cX12_sortOf 67 = .ok (.bipush 111, 2) := by decide +kernel
theorem dX12_sortOf_69 : decode cX12_sortOf 69 = .ok (.bipush 97, 2) := by decide +kernel
theorem dX12_sortOf_71 : decode cX12_sortOf 71 = .ok (.bipush 100, 2) := by decide +kernel
theorem dX12_sortOf_73 : decode cX12_sortOf 73 = .ok (.invokestatic 170, 3) := by decide +kernel
theorem dX12_sortOf_76 : decode cX12_sortOf 76 = .ok (.invokevirtual 203, 3) := by decide +kernel
theorem dX12_sortOf_79 : decode cX12_sortOf 79 = .ok (.ifCond .eq 7, 3) := by decide +kernel
theorem dX12_sortOf_82 : decode cX12_sortOf 82 = .ok (.iconst 3, 1) := by decide +kernel
theorem dX12_sortOf_83 : decode cX12_sortOf 83 = .ok (.goto 4, 3) := by decide +kernel
theorem dX12_sortOf_86 : decode cX12_sortOf 86 = .ok (.iconst (-1), 1) := by decide +kernel
theorem dX12_sortOf_87 : decode cX12_sortOf 87 = .ok (.ireturn, 1) := by decide +kernel
theorem dX12_figure_0 : decode cX12_figure 0 = .ok (.aload_n 0, 1) := by decide +kernel
theorem dX12_figure_1 : decode cX12_figure 1 = .ok (.getfield 125, 3) := by decide +kernel
theorem dX12_figure_4 : decode cX12_figure 4 = .ok (.iconst 1, 1) := by decide +kernel
theorem dX12_figure_5 : decode cX12_figure 5 = .ok (.if_icmp .eq 5, 3) := by decide +kernel
theorem dX12_figure_8 : decode cX12_figure 8 = .ok (.iconst 1, 1) := by decide +kernel
theorem dX12_figure_9 : decode cX12_figure 9 = .ok (.ireturn, 1) := by decide +kernel
theorem dX12_figure_10 : decode cX12_figure 10 = .ok (.aload_n 0, 1) := by decide +kernel
theorem dX12_figure_11 : decode cX12_figure 11 = .ok (.getfield 131, 3) := by decide +kernel
theorem dX12_figure_14 : decode cX12_figure 14 = .ok (.iload_n 2, 1) := by decide +kernel
theorem dX12_figure_15 : decode cX12_figure 15 = .ok (.iload_n 3, 1) := by decide +kernel
theorem dX12_figure_16 : decode cX12_figure 16 = .ok (.invokestatic 91, 3) := by decide +kernel
theorem dX12_figure_19 : decode cX12_figure 19 = .ok (.ifCond .ne 5, 3) := by decide +kernel
theorem dX12_figure_22 : decode cX12_figure 22 = .ok (.iconst 2, 1) := by decide +kernel
theorem dX12_figure_23 : decode cX12_figure 23 = .ok (.ireturn, 1) := by decide +kernel
theorem dX12_figure_24 : decode cX12_figure 24 = .ok (.aload_n 0, 1) := by decide +kernel
theorem dX12_figure_25 : decode cX12_figure 25 = .ok (.getfield 16, 3) := by decide +kernel
theorem dX12_figure_28 : decode cX12_figure 28 = .ok (.iload_n 1, 1) := by decide +kernel
theorem dX12_figure_29 : decode cX12_figure 29 = .ok (.aload_n 0, 1) := by decide +kernel
theorem dX12_figure_30 : decode cX12_figure 30 = .ok (.getfield 131, 3) := by decide +kernel
theorem dX12_figure_33 : decode cX12_figure 33 = .ok (.iastore, 1) := by decide +kernel
theorem dX12_figure_34 : decode cX12_figure 34 = .ok (.aload_n 0, 1) := by decide +kernel
theorem dX12_figure_35 : decode cX12_figure 35 = .ok (.invokevirtual 174, 3) := by decide +kernel
theorem dX12_figure_38 : decode cX12_figure 38 = .ok (.iconst 0, 1) := by decide +kernel
theorem dX12_figure_39 : decode cX12_figure 39 = .ok (.ireturn, 1) := by decide +kernel
theorem dX12_wordAtHand_0 : decode cX12_wordAtHand 0 = .ok (.aload_n 0, 1) := by decide +kernel
theorem dX12_wordAtHand_1 : decode cX12_wordAtHand 1 = .ok (.getfield 116, 3) := by decide +kernel
theorem dX12_wordAtHand_4 : decode cX12_wordAtHand 4 = .ok (.aload_n 0, 1) := by decide +kernel
theorem dX12_wordAtHand_5 : decode cX12_wordAtHand 5 = .ok (.getfield 122, 3) := by decide +kernel
theorem dX12_wordAtHand_8 : decode cX12_wordAtHand 8 = .ok (.isub, 1) := by decide +kernel
theorem dX12_wordAtHand_9 : decode cX12_wordAtHand 9 = .ok (.aload_n 0, 1) := by decide +kernel
theorem dX12_wordAtHand_10 : decode cX12_wordAtHand 10 = .ok (.getfield 81, 3) := by decide +kernel
theorem dX12_wordAtHand_13 : decode cX12_wordAtHand 13 = .ok (.if_icmp .eq 5, 3) := by decide +kernel
theorem dX12_wordAtHand_16 : decode cX12_wordAtHand 16 = .ok (.iconst (-1), 1) := by decide +kernel
theorem dX12_wordAtHand_17 : decode cX12_wordAtHand 17 = .ok (.ireturn, 1) := by decide +kernel
theorem dX12_wordAtHand_18 : decode cX12_wordAtHand 18 = .ok (.iconst 0, 1) := by decide +kernel
theorem dX12_wordAtHand_19 : decode cX12_wordAtHand 19 = .ok (.istore_n 1, 1) := by decide +kernel
theorem dX12_wordAtHand_20 : decode cX12_wordAtHand 20 = .ok (.iconst 0, 1) := by decide +kernel
theorem dX12_wordAtHand_21 : decode cX12_wordAtHand 21 = .ok (.istore_n 2, 1) := by decide +kernel
theorem dX12_wordAtHand_22 : decode cX12_wordAtHand 22 = .ok (.iload_n 2, 1) := by decide +kernel
theorem dX12_wordAtHand_23 : decode cX12_wordAtHand 23 = .ok (.aload_n 0, 1) := by decide +kernel
theorem dX12_wordAtHand_24 : decode cX12_wordAtHand 24 = .ok (.getfield 81, 3) := by decide +kernel
theorem dX12_wordAtHand_27 : decode cX12_wordAtHand 27 = .ok (.if_icmp .ge 48, 3) := by decide +kernel
theorem dX12_wordAtHand_30 : decode cX12_wordAtHand 30 = .ok (.aload_n 0, 1) := by decide +kernel
theorem dX12_wordAtHand_31 : decode cX12_wordAtHand 31 = .ok (.aload_n 0, 1) := by decide +kernel
theorem dX12_wordAtHand_32 : decode cX12_wordAtHand 32 = .ok (.getfield 122, 3) := by decide +kernel
theorem dX12_wordAtHand_35 : decode cX12_wordAtHand 35 = .ok (.iload_n 2, 1) := by decide +kernel
theorem dX12_wordAtHand_36 : decode cX12_wordAtHand 36 = .ok (.iadd, 1) := by decide +kernel
theorem dX12_wordAtHand_37 : decode cX12_wordAtHand 37 = .ok (.invokevirtual 119, 3) := by decide +kernel
theorem dX12_wordAtHand_40 : decode cX12_wordAtHand 40 = .ok (.bipush 97, 2) := by decide +kernel
theorem dX12_wordAtHand_42 : decode cX12_wordAtHand 42 = .ok (.isub, 1) := by decide +kernel
theorem dX12_wordAtHand_43 : decode cX12_wordAtHand 43 = .ok (.istore_n 3, 1) := by decide +kernel
theorem dX12_wordAtHand_44 : decode cX12_wordAtHand 44 = .ok (.iload_n 3, 1) := by decide +kernel
theorem dX12_wordAtHand_45 : decode cX12_wordAtHand 45 = .ok (.iconst 0, 1) := by decide +kernel
theorem dX12_wordAtHand_46 : decode cX12_wordAtHand 46 = .ok (.aload_n 0, 1) := by decide +kernel
theorem dX12_wordAtHand_47 : decode cX12_wordAtHand 47 = .ok (.getfield 74, 3) := by decide +kernel
theorem dX12_wordAtHand_50 : decode cX12_wordAtHand 50 = .ok (.iconst 1, 1) := by decide +kernel
theorem dX12_wordAtHand_51 : decode cX12_wordAtHand 51 = .ok (.isub, 1) := by decide +kernel
theorem dX12_wordAtHand_52 : decode cX12_wordAtHand 52 = .ok (.invokestatic 91, 3) := by decide +kernel
theorem dX12_wordAtHand_55 : decode cX12_wordAtHand 55 = .ok (.ifCond .ne 5, 3) := by decide +kernel
theorem dX12_wordAtHand_58 : decode cX12_wordAtHand 58 = .ok (.iconst (-1), 1) := by decide +kernel
theorem dX12_wordAtHand_59 : decode cX12_wordAtHand 59 = .ok (.ireturn, 1) := by decide +kernel
theorem dX12_wordAtHand_60 : decode cX12_wordAtHand 60 = .ok (.iload_n 1, 1) := by decide +kernel
theorem dX12_wordAtHand_61 : decode cX12_wordAtHand 61 = .ok (.aload_n 0, 1) := by decide +kernel
theorem dX12_wordAtHand_62 : decode cX12_wordAtHand 62 = .ok (.getfield 74, 3) := by decide +kernel
theorem dX12_wordAtHand_65 : decode cX12_wordAtHand 65 = .ok (.imul, 1) := by decide +kernel
theorem dX12_wordAtHand_66 : decode cX12_wordAtHand 66 = .ok (.iload_n 3, 1) := by decide +kernel
theorem dX12_wordAtHand_67 : decode cX12_wordAtHand 67 = .ok (.iadd, 1) := by decide +kernel
theorem dX12_wordAtHand_68 : decode cX12_wordAtHand 68 = .ok (.istore_n 1, 1) := by decide +kernel
theorem dX12_wordAtHand_69 : decode cX12_wordAtHand 69 = .ok (.iinc 2 1, 3) := by decide +kernel
theorem dX12_wordAtHand_72 : decode cX12_wordAtHand 72 = .ok (.goto (-50), 3) := by decide +kernel
theorem dX12_wordAtHand_75 : decode cX12_wordAtHand 75 = .ok (.iload_n 1, 1) := by decide +kernel
theorem dX12_wordAtHand_76 : decode cX12_wordAtHand 76 = .ok (.ireturn, 1) := by decide +kernel
theorem dX12_booked_0 : decode cX12_booked 0 = .ok (.aload_n 0, 1) := by decide +kernel
theorem dX12_booked_1 : decode cX12_booked 1 = .ok (.getfield 125, 3) := by decide +kernel
theorem dX12_booked_4 : decode cX12_booked 4 = .ok (.iconst 2, 1) := by decide +kernel
theorem dX12_booked_5 : decode cX12_booked 5 = .ok (.if_icmp .eq 5, 3) := by decide +kernel
theorem dX12_booked_8 : decode cX12_booked 8 = .ok (.iconst 1, 1) := by decide +kernel
theorem dX12_booked_9 : decode cX12_booked 9 = .ok (.ireturn, 1) := by decide +kernel
theorem dX12_booked_10 : decode cX12_booked 10 = .ok (.aload_n 0, 1) := by decide +kernel
theorem dX12_booked_11 : decode cX12_booked 11 = .ok (.getfield 16, 3) := by decide +kernel
theorem dX12_booked_14 : decode cX12_booked 14 = .ok (.iload_n 1, 1) := by decide +kernel
theorem dX12_booked_15 : decode cX12_booked 15 = .ok (.iconst 1, 1) := by decide +kernel
theorem dX12_booked_16 : decode cX12_booked 16 = .ok (.iadd, 1) := by decide +kernel
theorem dX12_booked_17 : decode cX12_booked 17 = .ok (.aload_n 0, 1) := by decide +kernel
theorem dX12_booked_18 : decode cX12_booked 18 = .ok (.invokevirtual 222, 3) := by decide +kernel
theorem dX12_booked_21 : decode cX12_booked 21 = .ok (.iastore, 1) := by decide +kernel
theorem dX12_booked_22 : decode cX12_booked 22 = .ok (.aload_n 0, 1) := by decide +kernel
theorem dX12_booked_23 : decode cX12_booked 23 = .ok (.getfield 16, 3) := by decide +kernel
theorem dX12_booked_26 : decode cX12_booked 26 = .ok (.iload_n 1, 1) := by decide +kernel
theorem dX12_booked_27 : decode cX12_booked 27 = .ok (.iconst 1, 1) := by decide +kernel
theorem dX12_booked_28 : decode cX12_booked 28 = .ok (.iadd, 1) := by decide +kernel
theorem dX12_booked_29 : decode cX12_booked 29 = .ok (.iaload, 1) := by decide +kernel
theorem dX12_booked_30 : decode cX12_booked 30 = .ok (.ifCond .ge 5, 3) := by decide +kernel
theorem dX12_booked_33 : decode cX12_booked 33 = .ok (.iconst 2, 1) := by decide +kernel
theorem dX12_booked_34 : decode cX12_booked 34 = .ok (.ireturn, 1) := by decide +kernel
theorem dX12_booked_35 : decode cX12_booked 35 = .ok (.aload_n 0, 1) := by decide +kernel
theorem dX12_booked_36 : decode cX12_booked 36 = .ok (.invokevirtual 174, 3) := by decide +kernel
theorem dX12_booked_39 : decode cX12_booked 39 = .ok (.aload_n 0, 1) := by decide +kernel
theorem dX12_booked_40 : decode cX12_booked 40 = .ok (.iload_n 1, 1) := by decide +kernel
theorem dX12_booked_41 : decode cX12_booked 41 = .ok (.iconst 2, 1) := by decide +kernel
theorem dX12_booked_42 : decode cX12_booked 42 = .ok (.iadd, 1) := by decide +kernel
theorem dX12_booked_43 : decode cX12_booked 43 = .ok (.iconst 1, 1) := by decide +kernel
theorem dX12_booked_44 : decode cX12_booked 44 = .ok (.bipush 9, 2) := by decide +kernel
theorem dX12_booked_46 : decode cX12_booked 46 = .ok (.invokevirtual 225, 3) := by decide +kernel
theorem dX12_booked_49 : decode cX12_booked 49 = .ok (.ireturn, 1) := by decide +kernel
theorem dX12_led_0 : decode cX12_led 0 = .ok (.aload_n 0, 1) := by decide +kernel
theorem dX12_led_1 : decode cX12_led 1 = .ok (.iload_n 1, 1) := by decide +kernel
theorem dX12_led_2 : decode cX12_led 2 = .ok (.iconst 1, 1) := by decide +kernel
theorem dX12_led_3 : decode cX12_led 3 = .ok (.iadd, 1) := by decide +kernel
theorem dX12_led_4 : decode cX12_led 4 = .ok (.iconst 0, 1) := by decide +kernel
theorem dX12_led_5 : decode cX12_led 5 = .ok (.bipush 8, 2) := by decide +kernel
theorem dX12_led_7 : decode cX12_led 7 = .ok (.invokevirtual 225, 3) := by decide +kernel
theorem dX12_led_10 : decode cX12_led 10 = .ok (.istore_n 2, 1) := by decide +kernel
theorem dX12_led_11 : decode cX12_led 11 = .ok (.iload_n 2, 1) := by decide +kernel
theorem dX12_led_12 : decode cX12_led 12 = .ok (.ifCond .eq 5, 3) := by decide +kernel
theorem dX12_led_15 : decode cX12_led 15 = .ok (.iload_n 2, 1) := by decide +kernel
theorem dX12_led_16 : decode cX12_led 16 = .ok (.ireturn, 1) := by decide +kernel
theorem dX12_led_17 : decode cX12_led 17 = .ok (.aload_n 0, 1) := by decide +kernel
theorem dX12_led_18 : decode cX12_led 18 = .ok (.getfield 125, 3) := by decide +kernel
theorem dX12_led_21 : decode cX12_led 21 = .ok (.iconst 2, 1) := by decide +kernel
theorem dX12_led_22 : decode cX12_led 22 = .ok (.if_icmp .ne 14, 3) := by decide +kernel
theorem dX12_led_25 : decode cX12_led 25 = .ok (.aload_n 0, 1) := by decide +kernel
theorem dX12_led_26 : decode cX12_led 26 = .ok (.getfield 138, 3) := by decide +kernel
theorem dX12_led_29 : decode cX12_led 29 = .ok (.ldc2_w 229, 3) := by decide +kernel
theorem dX12_led_32 : decode cX12_led 32 = .ok (.lcmp, 1) := by decide +kernel
theorem dX12_led_33 : decode cX12_led 33 = .ok (.ifCond .eq 5, 3) := by decide +kernel
theorem dX12_led_36 : decode cX12_led 36 = .ok (.iconst 1, 1) := by decide +kernel
theorem dX12_led_37 : decode cX12_led 37 = .ok (.ireturn, 1) := by decide +kernel
theorem dX12_led_38 : decode cX12_led 38 = .ok (.aload_n 0, 1) := by decide +kernel
theorem dX12_led_39 : decode cX12_led 39 = .ok (.invokevirtual 174, 3) := by decide +kernel
theorem dX12_led_42 : decode cX12_led 42 = .ok (.aload_n 0, 1) := by decide +kernel
theorem dX12_led_43 : decode cX12_led 43 = .ok (.iload_n 1, 1) := by decide +kernel
theorem dX12_led_44 : decode cX12_led 44 = .ok (.iconst 2, 1) := by decide +kernel
theorem dX12_led_45 : decode cX12_led 45 = .ok (.iadd, 1) := by decide +kernel
theorem dX12_led_46 : decode cX12_led 46 = .ok (.aload_n 0, 1) := by decide +kernel
theorem dX12_led_47 : decode cX12_led 47 = .ok (.getfield 16, 3) := by decide +kernel
theorem dX12_led_50 : decode cX12_led 50 = .ok (.iload_n 1, 1) := by decide +kernel
theorem dX12_led_51 : decode cX12_led 51 = .ok (.iconst 1, 1) := by decide +kernel
theorem dX12_led_52 : decode cX12_led 52 = .ok (.iadd, 1) := by decide +kernel
theorem dX12_led_53 : decode cX12_led 53 = .ok (.iaload, 1) := by decide +kernel
theorem dX12_led_54 : decode cX12_led 54 = .ok (.bipush 8, 2) := by decide +kernel
theorem dX12_led_56 : decode cX12_led 56 = .ok (.invokevirtual 225, 3) := by decide +kernel
theorem dX12_led_59 : decode cX12_led 59 = .ok (.ireturn, 1) := by decide +kernel
theorem dX12_clause_0 : decode cX12_clause 0 = .ok (.aload_n 0, 1) := by decide +kernel
theorem dX12_clause_1 : decode cX12_clause 1 = .ok (.invokevirtual 231, 3) := by decide +kernel
theorem dX12_clause_4 : decode cX12_clause 4 = .ok (.istore_n 1, 1) := by decide +kernel
theorem dX12_clause_5 : decode cX12_clause 5 = .ok (.iload_n 1, 1) := by decide +kernel
theorem dX12_clause_6 : decode cX12_clause 6 = .ok (.ifCond .ge 5, 3) := by decide +kernel
theorem dX12_clause_9 : decode cX12_clause 9 = .ok (.iconst 1, 1) := by decide +kernel
theorem dX12_clause_10 : decode cX12_clause 10 = .ok (.ireturn, 1) := by decide +kernel
theorem dX12_clause_11 : decode cX12_clause 11 = .ok (.iload_n 1, 1) := by decide +kernel
theorem dX12_clause_12 : decode cX12_clause 12 = .ok (.iconst 2, 1) := by decide +kernel
theorem dX12_clause_13 : decode cX12_clause 13 = .ok (.if_icmp .ge 17, 3) := by decide +kernel
theorem dX12_clause_16 : decode cX12_clause 16 = .ok (.aload_n 0, 1) := by decide +kernel
theorem dX12_clause_17 : decode cX12_clause 17 = .ok (.getfield 234, 3) := by decide +kernel
theorem dX12_clause_20 : decode cX12_clause 20 = .ok (.iload_n 1, 1) := by decide +kernel
theorem dX12_clause_21 : decode cX12_clause 21 = .ok (.ishr, 1) := by decide +kernel
theorem dX12_clause_22 : decode cX12_clause 22 = .ok (.iconst 1, 1) := by decide +kernel
theorem dX12_clause_23 : decode cX12_clause 23 = .ok (.iand, 1) := by decide +kernel
theorem dX12_clause_24 : decode cX12_clause 24 = .ok (.iconst 1, 1) := by decide +kernel
theorem dX12_clause_25 : decode cX12_clause 25 = .ok (.if_icmp .ne 5, 3) := by decide +kernel
theorem dX12_clause_28 : decode cX12_clause 28 = .ok (.iconst 4, 1) := by decide +kernel
theorem dX12_clause_29 : decode cX12_clause 29 = .ok (.ireturn, 1) := by decide +kernel
theorem dX12_clause_30 : decode cX12_clause 30 = .ok (.aload_n 0, 1) := by decide +kernel
theorem dX12_clause_31 : decode cX12_clause 31 = .ok (.getfield 16, 3) := by decide +kernel
theorem dX12_clause_34 : decode cX12_clause 34 = .ok (.aload_n 0, 1) := by decide +kernel
theorem dX12_clause_35 : decode cX12_clause 35 = .ok (.getfield 150, 3) := by decide +kernel
theorem dX12_clause_38 : decode cX12_clause 38 = .ok (.iaload, 1) := by decide +kernel
theorem dX12_clause_39 : decode cX12_clause 39 = .ok (.istore_n 2, 1) := by decide +kernel
theorem dX12_clause_40 : decode cX12_clause 40 = .ok (.iload_n 2, 1) := by decide +kernel
theorem dX12_clause_41 : decode cX12_clause 41 = .ok (.bipush 24, 2) := by decide +kernel
theorem dX12_clause_43 : decode cX12_clause 43 = .ok (.if_icmp .ne 5, 3) := by decide +kernel
theorem dX12_clause_46 : decode cX12_clause 46 = .ok (.iconst 5, 1) := by decide +kernel
theorem dX12_clause_47 : decode cX12_clause 47 = .ok (.ireturn, 1) := by decide +kernel
theorem dX12_clause_48 : decode cX12_clause 48 = .ok (.iload_n 1, 1) := by decide +kernel
theorem dX12_clause_49 : decode cX12_clause 49 = .ok (.iconst 2, 1) := by decide +kernel
theorem dX12_clause_50 : decode cX12_clause 50 = .ok (.if_icmp .ge 15, 3) := by decide +kernel
theorem dX12_clause_53 : decode cX12_clause 53 = .ok (.aload_n 0, 1) := by decide +kernel
theorem dX12_clause_54 : decode cX12_clause 54 = .ok (.dup, 1) := by decide +kernel
theorem dX12_clause_55 : decode cX12_clause 55 = .ok (.getfield 234, 3) := by decide +kernel
theorem dX12_clause_58 : decode cX12_clause 58 = .ok (.iconst 1, 1) := by decide +kernel
theorem dX12_clause_59 : decode cX12_clause 59 = .ok (.iload_n 1, 1) := by decide +kernel
theorem dX12_clause_60 : decode cX12_clause 60 = .ok (.ishl, 1) := by decide +kernel
theorem dX12_clause_61 : decode cX12_clause 61 = .ok (.ior, 1) := by decide +kernel
theorem dX12_clause_62 : decode cX12_clause 62 = .ok (.putfield 234, 3) := by decide +kernel
theorem dX12_clause_65 : decode cX12_clause 65 = .ok (.aload_n 0, 1) := by decide +kernel
theorem dX12_clause_66 : decode cX12_clause 66 = .ok (.invokevirtual 174, 3) := by decide +kernel
theorem dX12_clause_69 : decode cX12_clause 69 = .ok (.aload_n 0, 1) := by decide +kernel
theorem dX12_clause_70 : decode cX12_clause 70 = .ok (.getfield 150, 3) := by decide +kernel
theorem dX12_clause_73 : decode cX12_clause 73 = .ok (.iconst 1, 1) := by decide +kernel
theorem dX12_clause_74 : decode cX12_clause 74 = .ok (.iadd, 1) := by decide +kernel
theorem dX12_clause_75 : decode cX12_clause 75 = .ok (.iconst 3, 1) := by decide +kernel
theorem dX12_clause_76 : decode cX12_clause 76 = .ok (.iload_n 2, 1) := by decide +kernel
theorem dX12_clause_77 : decode cX12_clause 77 = .ok (.imul, 1) := by decide +kernel
theorem dX12_clause_78 : decode cX12_clause 78 = .ok (.iadd, 1) := by decide +kernel
theorem dX12_clause_79 : decode cX12_clause 79 = .ok (.istore_n 3, 1) := by decide +kernel
theorem dX12_clause_80 : decode cX12_clause 80 = .ok (.aload_n 0, 1) := by decide +kernel
theorem dX12_clause_81 : decode cX12_clause 81 = .ok (.getfield 16, 3) := by decide +kernel
theorem dX12_clause_84 : decode cX12_clause 84 = .ok (.iload_n 3, 1) := by decide +kernel
theorem dX12_clause_85 : decode cX12_clause 85 = .ok (.iload_n 1, 1) := by decide +kernel
theorem dX12_clause_86 : decode cX12_clause 86 = .ok (.iastore, 1) := by decide +kernel
theorem dX12_clause_87 : decode cX12_clause 87 = .ok (.aload_n 0, 1) := by decide +kernel
theorem dX12_clause_88 : decode cX12_clause 88 = .ok (.getfield 153, 3) := by decide +kernel
theorem dX12_clause_91 : decode cX12_clause 91 = .ok (.istore 4, 2) := by decide +kernel
theorem dX12_clause_93 : decode cX12_clause 93 = .ok (.iload_n 1, 1) := by decide +kernel
theorem dX12_clause_94 : decode cX12_clause 94 = .ok (.iconst 2, 1) := by decide +kernel
theorem dX12_clause_95 : decode cX12_clause 95 = .ok (.if_icmp .ne 11, 3) := by decide +kernel
theorem dX12_clause_98 : decode cX12_clause 98 = .ok (.aload_n 0, 1) := by decide +kernel
theorem dX12_clause_99 : decode cX12_clause 99 = .ok (.iload_n 3, 1) := by decide +kernel
theorem dX12_clause_100 : decode cX12_clause 100 = .ok (.invokevirtual 237, 3) := by decide +kernel
theorem dX12_clause_103 : decode cX12_clause 103 = .ok (.goto 31, 3) := by decide +kernel
theorem dX12_clause_106 : decode cX12_clause 106 = .ok (.iload_n 1, 1) := by decide +kernel
theorem dX12_clause_107 : decode cX12_clause 107 = .ok (.iconst 3, 1) := by decide +kernel
theorem dX12_clause_108 : decode cX12_clause 108 = .ok (.if_icmp .ne 11, 3) := by decide +kernel
theorem dX12_clause_111 : decode cX12_clause 111 = .ok (.aload_n 0, 1) := by decide +kernel
theorem dX12_clause_112 : decode cX12_clause 112 = .ok (.iload_n 3, 1) := by decide +kernel
theorem dX12_clause_113 : decode cX12_clause 113 = .ok (.invokevirtual 240, 3) := by decide +kernel
theorem dX12_clause_116 : decode cX12_clause 116 = .ok (.goto 18, 3) := by decide +kernel
theorem dX12_clause_119 : decode cX12_clause 119 = .ok (.iload_n 1, 1) := by decide +kernel
theorem dX12_clause_120 : decode cX12_clause 120 = .ok (.ifCond .ne 10, 3) := by decide +kernel
theorem dX12_clause_123 : decode cX12_clause 123 = .ok (.aload_n 0, 1) := by decide +kernel
theorem dX12_clause_124 : decode cX12_clause 124 = .ok (.invokevirtual 243, 3) := by decide +kernel
theorem dX12_clause_127 : decode cX12_clause 127 = .ok (.goto 7, 3) := by decide +kernel
theorem dX12_clause_130 : decode cX12_clause 130 = .ok (.aload_n 0, 1) := by decide +kernel
theorem dX12_clause_131 : decode cX12_clause 131 = .ok (.invokevirtual 207, 3) := by decide +kernel
theorem dX12_clause_134 : decode cX12_clause 134 = .ok (.istore 5, 2) := by decide +kernel
theorem dX12_clause_136 : decode cX12_clause 136 = .ok (.iload 5, 2) := by decide +kernel
theorem dX12_clause_138 : decode cX12_clause 138 = .ok (.ifCond .eq 6, 3) := by decide +kernel
theorem dX12_clause_141 : decode cX12_clause 141 = .ok (.iload 5, 2) := by decide +kernel
theorem dX12_clause_143 : decode cX12_clause 143 = .ok (.ireturn, 1) := by decide +kernel
theorem dX12_clause_144 : decode cX12_clause 144 = .ok (.iload_n 1, 1) := by decide +kernel
theorem dX12_clause_145 : decode cX12_clause 145 = .ok (.iconst 2, 1) := by decide +kernel
theorem dX12_clause_146 : decode cX12_clause 146 = .ok (.if_icmp .ge 25, 3) := by decide +kernel
theorem dX12_clause_149 : decode cX12_clause 149 = .ok (.aload_n 0, 1) := by decide +kernel
theorem dX12_clause_150 : decode cX12_clause 150 = .ok (.getfield 16, 3) := by decide +kernel
theorem dX12_clause_153 : decode cX12_clause 153 = .ok (.iload_n 3, 1) := by decide +kernel
theorem dX12_clause_154 : decode cX12_clause 154 = .ok (.iconst 1, 1) := by decide +kernel
theorem dX12_clause_155 : decode cX12_clause 155 = .ok (.iadd, 1) := by decide +kernel
theorem dX12_clause_156 : decode cX12_clause 156 = .ok (.iload 4, 2) := by decide +kernel
theorem dX12_clause_158 : decode cX12_clause 158 = .ok (.iastore, 1) := by decide +kernel
theorem dX12_clause_159 : decode cX12_clause 159 = .ok (.aload_n 0, 1) := by decide +kernel
theorem dX12_clause_160 : decode cX12_clause 160 = .ok (.getfield 16, 3) := by decide +kernel
theorem dX12_clause_163 : decode cX12_clause 163 = .ok (.iload_n 3, 1) := by decide +kernel
theorem dX12_clause_164 : decode cX12_clause 164 = .ok (.iconst 2, 1) := by decide +kernel
theorem dX12_clause_165 : decode cX12_clause 165 = .ok (.iadd, 1) := by decide +kernel
theorem dX12_clause_166 : decode cX12_clause 166 = .ok (.aload_n 0, 1) := by decide +kernel
theorem dX12_clause_167 : decode cX12_clause 167 = .ok (.getfield 153, 3) := by decide +kernel
theorem dX12_clause_170 : decode cX12_clause 170 = .ok (.iastore, 1) := by decide +kernel
theorem dX12_clause_171 : decode cX12_clause 171 = .ok (.aload_n 0, 1) := by decide +kernel
theorem dX12_clause_172 : decode cX12_clause 172 = .ok (.getfield 16, 3) := by decide +kernel
theorem dX12_clause_175 : decode cX12_clause 175 = .ok (.aload_n 0, 1) := by decide +kernel
theorem dX12_clause_176 : decode cX12_clause 176 = .ok (.getfield 150, 3) := by decide +kernel
theorem dX12_clause_179 : decode cX12_clause 179 = .ok (.dup2, 1) := by decide +kernel
theorem dX12_clause_180 : decode cX12_clause 180 = .ok (.iaload, 1) := by decide +kernel
theorem dX12_clause_181 : decode cX12_clause 181 = .ok (.iconst 1, 1) := by decide +kernel
theorem dX12_clause_182 : decode cX12_clause 182 = .ok (.iadd, 1) := by decide +kernel
theorem dX12_clause_183 : decode cX12_clause 183 = .ok (.iastore, 1) := by decide +kernel
theorem dX12_clause_184 : decode cX12_clause 184 = .ok (.aload_n 0, 1) := by decide +kernel
theorem dX12_clause_185 : decode cX12_clause 185 = .ok (.getfield 125, 3) := by decide +kernel
theorem dX12_clause_188 : decode cX12_clause 188 = .ok (.bipush 59, 2) := by decide +kernel
theorem dX12_clause_190 : decode cX12_clause 190 = .ok (.if_icmp .eq 5, 3) := by decide +kernel
theorem dX12_clause_193 : decode cX12_clause 193 = .ok (.iconst 1, 1) := by decide +kernel
theorem dX12_clause_194 : decode cX12_clause 194 = .ok (.ireturn, 1) := by decide +kernel
theorem dX12_clause_195 : decode cX12_clause 195 = .ok (.aload_n 0, 1) := by decide +kernel
theorem dX12_clause_196 : decode cX12_clause 196 = .ok (.invokevirtual 174, 3) := by decide +kernel
theorem dX12_clause_199 : decode cX12_clause 199 = .ok (.iconst 0, 1) := by decide +kernel
theorem dX12_clause_200 : decode cX12_clause 200 = .ok (.ireturn, 1) := by decide +kernel
theorem dX12_readText_0 : decode cX12_readText 0 = .ok (.aload_n 0, 1) := by decide +kernel
theorem dX12_readText_1 : decode cX12_readText 1 = .ok (.sipush 680, 3) := by decide +kernel
theorem dX12_readText_4 : decode cX12_readText 4 = .ok (.aload_n 0, 1) := by decide +kernel
theorem dX12_readText_5 : decode cX12_readText 5 = .ok (.getfield 7, 3) := by decide +kernel
theorem dX12_readText_8 : decode cX12_readText 8 = .ok (.iconst 0, 1) := by decide +kernel
theorem dX12_readText_9 : decode cX12_readText 9 = .ok (.iaload, 1) := by decide +kernel
theorem dX12_readText_10 : decode cX12_readText 10 = .ok (.imul, 1) := by decide +kernel
theorem dX12_readText_11 : decode cX12_readText 11 = .ok (.putfield 150, 3) := by decide +kernel
theorem dX12_readText_14 : decode cX12_readText 14 = .ok (.aload_n 0, 1) := by decide +kernel
theorem dX12_readText_15 : decode cX12_readText 15 = .ok (.getfield 16, 3) := by decide +kernel
theorem dX12_readText_18 : decode cX12_readText 18 = .ok (.aload_n 0, 1) := by decide +kernel
theorem dX12_readText_19 : decode cX12_readText 19 = .ok (.getfield 150, 3) := by decide +kernel
theorem dX12_readText_22 : decode cX12_readText 22 = .ok (.iconst 0, 1) := by decide +kernel
theorem dX12_readText_23 : decode cX12_readText 23 = .ok (.iastore, 1) := by decide +kernel
theorem dX12_readText_24 : decode cX12_readText 24 = .ok (.aload_n 0, 1) := by decide +kernel
theorem dX12_readText_25 : decode cX12_readText 25 = .ok (.iconst 0, 1) := by decide +kernel
theorem dX12_readText_26 : decode cX12_readText 26 = .ok (.putfield 153, 3) := by decide +kernel
theorem dX12_readText_29 : decode cX12_readText 29 = .ok (.aload_n 0, 1) := by decide +kernel
theorem dX12_readText_30 : decode cX12_readText 30 = .ok (.iconst 0, 1) := by decide +kernel
theorem dX12_readText_31 : decode cX12_readText 31 = .ok (.putfield 163, 3) := by decide +kernel
theorem dX12_readText_34 : decode cX12_readText 34 = .ok (.aload_n 0, 1) := by decide +kernel
theorem dX12_readText_35 : decode cX12_readText 35 = .ok (.iconst 0, 1) := by decide +kernel
theorem dX12_readText_36 : decode cX12_readText 36 = .ok (.putfield 234, 3) := by decide +kernel
theorem dX12_readText_39 : decode cX12_readText 39 = .ok (.aload_n 0, 1) := by decide +kernel
theorem dX12_readText_40 : decode cX12_readText 40 = .ok (.iconst 0, 1) := by decide +kernel
theorem dX12_readText_41 : decode cX12_readText 41 = .ok (.putfield 116, 3) := by decide +kernel
theorem dX12_readText_44 : decode cX12_readText 44 = .ok (.aload_n 0, 1) := by decide +kernel
theorem dX12_readText_45 : decode cX12_readText 45 = .ok (.invokevirtual 174, 3) := by decide +kernel
theorem dX12_readText_48 : decode cX12_readText 48 = .ok (.aload_n 0, 1) := by decide +kernel
theorem dX12_readText_49 : decode cX12_readText 49 = .ok (.getfield 125, 3) := by decide +kernel
theorem dX12_readText_52 : decode cX12_readText 52 = .ok (.ifCond .eq 17, 3) := by decide +kernel
theorem dX12_readText_55 : decode cX12_readText 55 = .ok (.aload_n 0, 1) := by decide +kernel
theorem dX12_readText_56 : decode cX12_readText 56 = .ok (.invokevirtual 246, 3) := by decide +kernel
theorem dX12_readText_59 : decode cX12_readText 59 = .ok (.istore_n 1, 1) := by decide +kernel
theorem dX12_readText_60 : decode cX12_readText 60 = .ok (.iload_n 1, 1) := by decide +kernel
theorem dX12_readText_61 : decode cX12_readText 61 = .ok (.ifCond .eq 5, 3) := by decide +kernel
theorem dX12_readText_64 : decode cX12_readText 64 = .ok (.iload_n 1, 1) := by decide +kernel
theorem dX12_readText_65 : decode cX12_readText 65 = .ok (.ireturn, 1) := by decide +kernel
theorem dX12_readText_66 : decode cX12_readText 66 = .ok (.goto (-18), 3) := by decide +kernel
theorem dX12_readText_69 : decode cX12_readText 69 = .ok (.iconst 0, 1) := by decide +kernel
theorem dX12_readText_70 : decode cX12_readText 70 = .ok (.ireturn, 1) := by decide +kernel
theorem dX12_text_0 : decode cX12_text 0 = .ok (.aload_n 0, 1) := by decide +kernel
theorem dX12_text_1 : decode cX12_text 1 = .ok (.getfield 7, 3) := by decide +kernel
theorem dX12_text_4 : decode cX12_text 4 = .ok (.iconst 0, 1) := by decide +kernel
theorem dX12_text_5 : decode cX12_text 5 = .ok (.iaload, 1) := by decide +kernel
theorem dX12_text_6 : decode cX12_text 6 = .ok (.iconst 4, 1) := by decide +kernel
theorem dX12_text_7 : decode cX12_text 7 = .ok (.if_icmp .ne 5, 3) := by decide +kernel
theorem dX12_text_10 : decode cX12_text 10 = .ok (.iconst (-1), 1) := by decide +kernel
theorem dX12_text_11 : decode cX12_text 11 = .ok (.ireturn, 1) := by decide +kernel
theorem dX12_text_12 : decode cX12_text 12 = .ok (.aload_n 0, 1) := by decide +kernel
theorem dX12_text_13 : decode cX12_text 13 = .ok (.aload_n 0, 1) := by decide +kernel
theorem dX12_text_14 : decode cX12_text 14 = .ok (.invokevirtual 249, 3) := by decide +kernel
theorem dX12_text_17 : decode cX12_text 17 = .ok (.putfield 22, 3) := by decide +kernel
theorem dX12_text_20 : decode cX12_text 20 = .ok (.aload_n 0, 1) := by decide +kernel
theorem dX12_text_21 : decode cX12_text 21 = .ok (.aload_n 0, 1) := by decide +kernel
theorem dX12_text_22 : decode cX12_text 22 = .ok (.getfield 22, 3) := by decide +kernel
theorem dX12_text_25 : decode cX12_text 25 = .ok (.ifCond .ne 7, 3) := by decide +kernel
theorem dX12_text_28 : decode cX12_text 28 = .ok (.iconst (-1), 1) := by decide +kernel
theorem dX12_text_29 : decode cX12_text 29 = .ok (.goto 7, 3) := by decide +kernel
theorem dX12_text_32 : decode cX12_text 32 = .ok (.aload_n 0, 1) := by decide +kernel
theorem dX12_text_33 : decode cX12_text 33 = .ok (.getfield 122, 3) := by decide +kernel
theorem dX12_text_36 : decode cX12_text 36 = .ok (.putfield 26, 3) := by decide +kernel
theorem dX12_text_39 : decode cX12_text 39 = .ok (.aload_n 0, 1) := by decide +kernel
theorem dX12_text_40 : decode cX12_text 40 = .ok (.iconst 0, 1) := by decide +kernel
theorem dX12_text_41 : decode cX12_text 41 = .ok (.putfield 109, 3) := by decide +kernel
theorem dX12_text_44 : decode cX12_text 44 = .ok (.aload_n 0, 1) := by decide +kernel
theorem dX12_text_45 : decode cX12_text 45 = .ok (.getfield 22, 3) := by decide +kernel
theorem dX12_text_48 : decode cX12_text 48 = .ok (.ifCond .eq 5, 3) := by decide +kernel
theorem dX12_text_51 : decode cX12_text 51 = .ok (.iconst (-1), 1) := by decide +kernel
theorem dX12_text_52 : decode cX12_text 52 = .ok (.ireturn, 1) := by decide +kernel
theorem dX12_text_53 : decode cX12_text 53 = .ok (.aload_n 0, 1) := by decide +kernel
theorem dX12_text_54 : decode cX12_text 54 = .ok (.getfield 7, 3) := by decide +kernel
theorem dX12_text_57 : decode cX12_text 57 = .ok (.iconst 0, 1) := by decide +kernel
theorem dX12_text_58 : decode cX12_text 58 = .ok (.dup2, 1) := by decide +kernel
theorem dX12_text_59 : decode cX12_text 59 = .ok (.iaload, 1) := by decide +kernel
theorem dX12_text_60 : decode cX12_text 60 = .ok (.iconst 1, 1) := by decide +kernel
theorem dX12_text_61 : decode cX12_text 61 = .ok (.iadd, 1) := by decide +kernel
theorem dX12_text_62 : decode cX12_text 62 = .ok (.iastore, 1) := by decide +kernel
theorem dX12_text_63 : decode cX12_text 63 = .ok (.aload_n 0, 1) := by decide +kernel
theorem dX12_text_64 : decode cX12_text 64 = .ok (.getfield 7, 3) := by decide +kernel
theorem dX12_text_67 : decode cX12_text 67 = .ok (.iconst 0, 1) := by decide +kernel
theorem dX12_text_68 : decode cX12_text 68 = .ok (.iaload, 1) := by decide +kernel
theorem dX12_text_69 : decode cX12_text 69 = .ok (.iconst 1, 1) := by decide +kernel
theorem dX12_text_70 : decode cX12_text 70 = .ok (.isub, 1) := by decide +kernel
theorem dX12_text_71 : decode cX12_text 71 = .ok (.ireturn, 1) := by decide +kernel
theorem dX12_fault_0 : decode cX12_fault 0 = .ok (.iload_n 1, 1) := by decide +kernel
theorem dX12_fault_1 : decode cX12_fault 1 = .ok (.ifCond .ne 10, 3) := by decide +kernel
theorem dX12_fault_4 : decode cX12_fault 4 = .ok (.aload_n 0, 1) := by decide +kernel
theorem dX12_fault_5 : decode cX12_fault 5 = .ok (.getfield 22, 3) := by decide +kernel
theorem dX12_fault_8 : decode cX12_fault 8 = .ok (.goto 16, 3) := by decide +kernel
theorem dX12_fault_11 : decode cX12_fault 11 = .ok (.iload_n 1, 1) := by decide +kernel
theorem dX12_fault_12 : decode cX12_fault 12 = .ok (.iconst 1, 1) := by decide +kernel
theorem dX12_fault_13 : decode cX12_fault 13 = .ok (.if_icmp .ne 10, 3) := by decide +kernel
theorem dX12_fault_16 : decode cX12_fault 16 = .ok (.aload_n 0, 1) := by decide +kernel
theorem dX12_fault_17 : decode cX12_fault 17 = .ok (.getfield 26, 3) := by decide +kernel
theorem dX12_fault_20 : decode cX12_fault 20 = .ok (.goto 4, 3) := by decide +kernel
theorem dX12_fault_23 : decode cX12_fault 23 = .ok (.iconst (-1), 1) := by decide +kernel
theorem dX12_fault_24 : decode cX12_fault 24 = .ok (.ireturn, 1) := by decide +kernel
theorem dX12_by_0 : decode cX12_by 0 = .ok (.iload_n 1, 1) := by decide +kernel
theorem dX12_by_1 : decode cX12_by 1 = .ok (.iconst (-1), 1) := by decide +kernel
theorem dX12_by_2 : decode cX12_by 2 = .ok (.aload_n 0, 1) := by decide +kernel
theorem dX12_by_3 : decode cX12_by 3 = .ok (.getfield 7, 3) := by decide +kernel
theorem dX12_by_6 : decode cX12_by 6 = .ok (.iconst 0, 1) := by decide +kernel
theorem dX12_by_7 : decode cX12_by 7 = .ok (.iaload, 1) := by decide +kernel
theorem dX12_by_8 : decode cX12_by 8 = .ok (.iconst 1, 1) := by decide +kernel
theorem dX12_by_9 : decode cX12_by 9 = .ok (.isub, 1) := by decide +kernel
theorem dX12_by_10 : decode cX12_by 10 = .ok (.invokestatic 91, 3) := by decide +kernel
theorem dX12_by_13 : decode cX12_by 13 = .ok (.ifCond .ne 5, 3) := by decide +kernel
theorem dX12_by_16 : decode cX12_by 16 = .ok (.iconst 0, 1) := by decide +kernel
theorem dX12_by_17 : decode cX12_by 17 = .ok (.ireturn, 1) := by decide +kernel
theorem dX12_by_18 : decode cX12_by 18 = .ok (.aload_n 0, 1) := by decide +kernel
theorem dX12_by_19 : decode cX12_by 19 = .ok (.getfield 7, 3) := by decide +kernel
theorem dX12_by_22 : decode cX12_by 22 = .ok (.iconst 1, 1) := by decide +kernel
theorem dX12_by_23 : decode cX12_by 23 = .ok (.iload_n 1, 1) := by decide +kernel
theorem dX12_by_24 : decode cX12_by 24 = .ok (.iastore, 1) := by decide +kernel
theorem dX12_by_25 : decode cX12_by 25 = .ok (.iconst 1, 1) := by decide +kernel
theorem dX12_by_26 : decode cX12_by 26 = .ok (.ireturn, 1) := by decide +kernel
theorem dX12_filled_0 : decode cX12_filled 0 = .ok (.iload_n 1, 1) := by decide +kernel
theorem dX12_filled_1 : decode cX12_filled 1 = .ok (.iconst 0, 1) := by decide +kernel
theorem dX12_filled_2 : decode cX12_filled 2 = .ok (.aload_n 0, 1) := by decide +kernel
theorem dX12_filled_3 : decode cX12_filled 3 = .ok (.getfield 7, 3) := by decide +kernel
theorem dX12_filled_6 : decode cX12_filled 6 = .ok (.iconst 0, 1) := by decide +kernel
theorem dX12_filled_7 : decode cX12_filled 7 = .ok (.iaload, 1) := by decide +kernel
theorem dX12_filled_8 : decode cX12_filled 8 = .ok (.iconst 1, 1) := by decide +kernel
theorem dX12_filled_9 : decode cX12_filled 9 = .ok (.isub, 1) := by decide +kernel
theorem dX12_filled_10 : decode cX12_filled 10 = .ok (.invokestatic 91, 3) := by decide +kernel
theorem dX12_filled_13 : decode cX12_filled 13 = .ok (.ifCond .ne 5, 3) := by decide +kernel
theorem dX12_filled_16 : decode cX12_filled 16 = .ok (.iconst (-1), 1) := by decide +kernel
theorem dX12_filled_17 : decode cX12_filled 17 = .ok (.ireturn, 1) := by decide +kernel
theorem dX12_filled_18 : decode cX12_filled 18 = .ok (.iconst 0, 1) := by decide +kernel
theorem dX12_filled_19 : decode cX12_filled 19 = .ok (.istore_n 2, 1) := by decide +kernel
theorem dX12_filled_20 : decode cX12_filled 20 = .ok (.iconst 0, 1) := by decide +kernel
theorem dX12_filled_21 : decode cX12_filled 21 = .ok (.istore_n 3, 1) := by decide +kernel
theorem dX12_filled_22 : decode cX12_filled 22 = .ok (.iload_n 3, 1) := by decide +kernel
theorem dX12_filled_23 : decode cX12_filled 23 = .ok (.aload_n 0, 1) := by decide +kernel
theorem dX12_filled_24 : decode cX12_filled 24 = .ok (.getfield 16, 3) := by decide +kernel
theorem dX12_filled_27 : decode cX12_filled 27 = .ok (.sipush 680, 3) := by decide +kernel
theorem dX12_filled_30 : decode cX12_filled 30 = .ok (.iload_n 1, 1) := by decide +kernel
theorem dX12_filled_31 : decode cX12_filled 31 = .ok (.imul, 1) := by decide +kernel
theorem dX12_filled_32 : decode cX12_filled 32 = .ok (.iaload, 1) := by decide +kernel
theorem dX12_filled_33 : decode cX12_filled 33 = .ok (.if_icmp .ge 61, 3) := by decide +kernel
theorem dX12_filled_36 : decode cX12_filled 36 = .ok (.sipush 680, 3) := by decide +kernel
theorem dX12_filled_39 : decode cX12_filled 39 = .ok (.iload_n 1, 1) := by decide +kernel
theorem dX12_filled_40 : decode cX12_filled 40 = .ok (.imul, 1) := by decide +kernel
theorem dX12_filled_41 : decode cX12_filled 41 = .ok (.iconst 1, 1) := by decide +kernel
theorem dX12_filled_42 : decode cX12_filled 42 = .ok (.iadd, 1) := by decide +kernel
theorem dX12_filled_43 : decode cX12_filled 43 = .ok (.iconst 3, 1) := by decide +kernel
theorem dX12_filled_44 : decode cX12_filled 44 = .ok (.iload_n 3, 1) := by decide +kernel
theorem dX12_filled_45 : decode cX12_filled 45 = .ok (.imul, 1) := by decide +kernel
theorem dX12_filled_46 : decode cX12_filled 46 = .ok (.iadd, 1) := by decide +kernel
theorem dX12_filled_47 : decode cX12_filled 47 = .ok (.istore 4, 2) := by decide +kernel
theorem dX12_filled_49 : decode cX12_filled 49 = .ok (.aload_n 0, 1) := by decide +kernel
theorem dX12_filled_50 : decode cX12_filled 50 = .ok (.getfield 16, 3) := by decide +kernel
theorem dX12_filled_53 : decode cX12_filled 53 = .ok (.iload 4, 2) := by decide +kernel
theorem dX12_filled_55 : decode cX12_filled 55 = .ok (.iaload, 1) := by decide +kernel
theorem dX12_filled_56 : decode cX12_filled 56 = .ok (.iconst 2, 1) := by decide +kernel
theorem dX12_filled_57 : decode cX12_filled 57 = .ok (.if_icmp .ne 31, 3) := by decide +kernel
theorem dX12_filled_60 : decode cX12_filled 60 = .ok (.aload_n 0, 1) := by decide +kernel
theorem dX12_filled_61 : decode cX12_filled 61 = .ok (.aload_n 0, 1) := by decide +kernel
theorem dX12_filled_62 : decode cX12_filled 62 = .ok (.getfield 16, 3) := by decide +kernel
theorem dX12_filled_65 : decode cX12_filled 65 = .ok (.iload 4, 2) := by decide +kernel
theorem dX12_filled_67 : decode cX12_filled 67 = .ok (.iconst 1, 1) := by decide +kernel
theorem dX12_filled_68 : decode cX12_filled 68 = .ok (.iadd, 1) := by decide +kernel
theorem dX12_filled_69 : decode cX12_filled 69 = .ok (.iaload, 1) := by decide +kernel
theorem dX12_filled_70 : decode cX12_filled 70 = .ok (.aload_n 0, 1) := by decide +kernel
theorem dX12_filled_71 : decode cX12_filled 71 = .ok (.getfield 16, 3) := by decide +kernel
theorem dX12_filled_74 : decode cX12_filled 74 = .ok (.iload 4, 2) := by decide +kernel
theorem dX12_filled_76 : decode cX12_filled 76 = .ok (.iconst 2, 1) := by decide +kernel
theorem dX12_filled_77 : decode cX12_filled 77 = .ok (.iadd, 1) := by decide +kernel
theorem dX12_filled_78 : decode cX12_filled 78 = .ok (.iaload, 1) := by decide +kernel
theorem dX12_filled_79 : decode cX12_filled 79 = .ok (.invokevirtual 252, 3) := by decide +kernel
theorem dX12_filled_82 : decode cX12_filled 82 = .ok (.ifCond .lt 6, 3) := by decide +kernel
theorem dX12_filled_85 : decode cX12_filled 85 = .ok (.iinc 2 1, 3) := by decide +kernel
theorem dX12_filled_88 : decode cX12_filled 88 = .ok (.iinc 3 1, 3) := by decide +kernel
theorem dX12_filled_91 : decode cX12_filled 91 = .ok (.goto (-69), 3) := by decide +kernel
theorem dX12_filled_94 : decode cX12_filled 94 = .ok (.iload_n 2, 1) := by decide +kernel
theorem dX12_filled_95 : decode cX12_filled 95 = .ok (.ireturn, 1) := by decide +kernel
theorem dX12_clip_0 : decode cX12_clip 0 = .ok (.lload_n 0, 1) := by decide +kernel
theorem dX12_clip_1 : decode cX12_clip 1 = .ok (.ldc2_w 255, 3) := by decide +kernel
theorem dX12_clip_4 : decode cX12_clip 4 = .ok (.lcmp, 1) := by decide +kernel
theorem dX12_clip_5 : decode cX12_clip 5 = .ok (.ifCond .le 9, 3) := by decide +kernel
theorem dX12_clip_8 : decode cX12_clip 8 = .ok (.ldc2_w 255, 3) := by decide +kernel
theorem dX12_clip_11 : decode cX12_clip 11 = .ok (.goto 18, 3) := by decide +kernel
theorem dX12_clip_14 : decode cX12_clip 14 = .ok (.lload_n 0, 1) := by decide +kernel
theorem dX12_clip_15 : decode cX12_clip 15 = .ok (.ldc2_w 257, 3) := by decide +kernel
theorem dX12_clip_18 : decode cX12_clip 18 = .ok (.lcmp, 1) := by decide +kernel
theorem dX12_clip_19 : decode cX12_clip 19 = .ok (.ifCond .ge 9, 3) := by decide +kernel
theorem dX12_clip_22 : decode cX12_clip 22 = .ok (.ldc2_w 257, 3) := by decide +kernel
theorem dX12_clip_25 : decode cX12_clip 25 = .ok (.goto 4, 3) := by decide +kernel
theorem dX12_clip_28 : decode cX12_clip 28 = .ok (.lload_n 0, 1) := by decide +kernel
theorem dX12_clip_29 : decode cX12_clip 29 = .ok (.lreturn, 1) := by decide +kernel
theorem dX12_two_0 : decode cX12_two 0 = .ok (.iload_n 0, 1) := by decide +kernel
theorem dX12_two_1 : decode cX12_two 1 = .ok (.tableswitch 48 3 5 #[27, 34, 41], 27) := by decide +kernel
theorem dX12_two_28 : decode cX12_two 28 = .ok (.lload_n 1, 1) := by decide +kernel
theorem dX12_two_29 : decode cX12_two 29 = .ok (.lload_n 3, 1) := by decide +kernel
theorem dX12_two_30 : decode cX12_two 30 = .ok (.ladd, 1) := by decide +kernel
theorem dX12_two_31 : decode cX12_two 31 = .ok (.invokestatic 259, 3) := by decide +kernel
theorem dX12_two_34 : decode cX12_two 34 = .ok (.lreturn, 1) := by decide +kernel
theorem dX12_two_35 : decode cX12_two 35 = .ok (.lload_n 1, 1) := by decide +kernel
theorem dX12_two_36 : decode cX12_two 36 = .ok (.lload_n 3, 1) := by decide +kernel
theorem dX12_two_37 : decode cX12_two 37 = .ok (.lsub, 1) := by decide +kernel
theorem dX12_two_38 : decode cX12_two 38 = .ok (.invokestatic 259, 3) := by decide +kernel
theorem dX12_two_41 : decode cX12_two 41 = .ok (.lreturn, 1) := by decide +kernel
theorem dX12_two_42 : decode cX12_two 42 = .ok (.lload_n 1, 1) := by decide +kernel
theorem dX12_two_43 : decode cX12_two 43 = .ok (.lload_n 3, 1) := by decide +kernel
theorem dX12_two_44 : decode cX12_two 44 = .ok (.lmul, 1) := by decide +kernel
theorem dX12_two_45 : decode cX12_two 45 = .ok (.invokestatic 259, 3) := by decide +kernel
theorem dX12_two_48 : decode cX12_two 48 = .ok (.lreturn, 1) := by decide +kernel
theorem dX12_two_49 : decode cX12_two 49 = .ok (.lload_n 3, 1) := by decide +kernel
theorem dX12_two_50 : decode cX12_two 50 = .ok (.lconst 0, 1) := by decide +kernel
theorem dX12_two_51 : decode cX12_two 51 = .ok (.lcmp, 1) := by decide +kernel
theorem dX12_two_52 : decode cX12_two 52 = .ok (.ifCond .ne 7, 3) := by decide +kernel
theorem dX12_two_55 : decode cX12_two 55 = .ok (.lconst 0, 1) := by decide +kernel
theorem dX12_two_56 : decode cX12_two 56 = .ok (.goto 9, 3) := by decide +kernel
theorem dX12_two_59 : decode cX12_two 59 = .ok (.lload_n 1, 1) := by decide +kernel
theorem dX12_two_60 : decode cX12_two 60 = .ok (.lload_n 3, 1) := by decide +kernel
theorem dX12_two_61 : decode cX12_two 61 = .ok (.ldiv, 1) := by decide +kernel
theorem dX12_two_62 : decode cX12_two 62 = .ok (.invokestatic 259, 3) := by decide +kernel
theorem dX12_two_65 : decode cX12_two 65 = .ok (.lreturn, 1) := by decide +kernel
theorem dX12_isAsked_0 : decode cX12_isAsked 0 = .ok (.iload_n 0, 1) := by decide +kernel
theorem dX12_isAsked_1 : decode cX12_isAsked 1 = .ok (.bipush 10, 2) := by decide +kernel
theorem dX12_isAsked_3 : decode cX12_isAsked 3 = .ok (.if_icmp .ne 17, 3) := by decide +kernel
theorem dX12_isAsked_6 : decode cX12_isAsked 6 = .ok (.lload_n 1, 1) := by decide +kernel
theorem dX12_isAsked_7 : decode cX12_isAsked 7 = .ok (.lload_n 3, 1) := by decide +kernel
theorem dX12_isAsked_8 : decode cX12_isAsked 8 = .ok (.lcmp, 1) := by decide +kernel
theorem dX12_isAsked_9 : decode cX12_isAsked 9 = .ok (.ifCond .ge 7, 3) := by decide +kernel
theorem dX12_isAsked_12 : decode cX12_isAsked 12 = .ok (.iconst 1, 1) := by decide +kernel
theorem dX12_isAsked_13 : decode cX12_isAsked 13 = .ok (.goto 98, 3) := by decide +kernel
theorem dX12_isAsked_16 : decode cX12_isAsked 16 = .ok (.iconst 0, 1) := by decide +kernel
theorem dX12_isAsked_17 : decode cX12_isAsked 17 = .ok (.goto 94, 3) := by decide +kernel
theorem dX12_isAsked_20 : decode cX12_isAsked 20 = .ok (.iload_n 0, 1) := by decide +kernel
theorem dX12_isAsked_21 : decode cX12_isAsked 21 = .ok (.bipush 11, 2) := by decide +kernel
theorem dX12_isAsked_23 : decode cX12_isAsked 23 = .ok (.if_icmp .ne 17, 3) := by decide +kernel
theorem dX12_isAsked_26 : decode cX12_isAsked 26 = .ok (.lload_n 1, 1) := by decide +kernel
theorem dX12_isAsked_27 : decode cX12_isAsked 27 = .ok (.lload_n 3, 1) := by decide +kernel
theorem dX12_isAsked_28 : decode cX12_isAsked 28 = .ok (.lcmp, 1) := by decide +kernel
theorem dX12_isAsked_29 : decode cX12_isAsked 29 = .ok (.ifCond .gt 7, 3) := by decide +kernel
theorem dX12_isAsked_32 : decode cX12_isAsked 32 = .ok (.iconst 1, 1) := by decide +kernel
theorem dX12_isAsked_33 : decode cX12_isAsked 33 = .ok (.goto 78, 3) := by decide +kernel
theorem dX12_isAsked_36 : decode cX12_isAsked 36 = .ok (.iconst 0, 1) := by decide +kernel
theorem dX12_isAsked_37 : decode cX12_isAsked 37 = .ok (.goto 74, 3) := by decide +kernel
theorem dX12_isAsked_40 : decode cX12_isAsked 40 = .ok (.iload_n 0, 1) := by decide +kernel
theorem dX12_isAsked_41 : decode cX12_isAsked 41 = .ok (.bipush 12, 2) := by decide +kernel
theorem dX12_isAsked_43 : decode cX12_isAsked 43 = .ok (.if_icmp .ne 17, 3) := by decide +kernel
theorem dX12_isAsked_46 : decode cX12_isAsked 46 = .ok (.lload_n 1, 1) := by decide +kernel
theorem dX12_isAsked_47 : decode cX12_isAsked 47 = .ok (.lload_n 3, 1) := by decide +kernel
theorem dX12_isAsked_48 : decode cX12_isAsked 48 = .ok (.lcmp, 1) := by decide +kernel
theorem dX12_isAsked_49 : decode cX12_isAsked 49 = .ok (.ifCond .le 7, 3) := by decide +kernel
theorem dX12_isAsked_52 : decode cX12_isAsked 52 = .ok (.iconst 1, 1) := by decide +kernel
theorem dX12_isAsked_53 : decode cX12_isAsked 53 = .ok (.goto 58, 3) := by decide +kernel
theorem dX12_isAsked_56 : decode cX12_isAsked 56 = .ok (.iconst 0, 1) := by decide +kernel
theorem dX12_isAsked_57 : decode cX12_isAsked 57 = .ok (.goto 54, 3) := by decide +kernel
theorem dX12_isAsked_60 : decode cX12_isAsked 60 = .ok (.iload_n 0, 1) := by decide +kernel
theorem dX12_isAsked_61 : decode cX12_isAsked 61 = .ok (.bipush 13, 2) := by decide +kernel
theorem dX12_isAsked_63 : decode cX12_isAsked 63 = .ok (.if_icmp .ne 17, 3) := by decide +kernel
theorem dX12_isAsked_66 : decode cX12_isAsked 66 = .ok (.lload_n 1, 1) := by decide +kernel
theorem dX12_isAsked_67 : decode cX12_isAsked 67 = .ok (.lload_n 3, 1) := by decide +kernel
theorem dX12_isAsked_68 : decode cX12_isAsked 68 = .ok (.lcmp, 1) := by decide +kernel
theorem dX12_isAsked_69 : decode cX12_isAsked 69 = .ok (.ifCond .lt 7, 3) := by decide +kernel
theorem dX12_isAsked_72 : decode cX12_isAsked 72 = .ok (.iconst 1, 1) := by decide +kernel
theorem dX12_isAsked_73 : decode cX12_isAsked 73 = .ok (.goto 38, 3) := by decide +kernel
theorem dX12_isAsked_76 : decode cX12_isAsked 76 = .ok (.iconst 0, 1) := by decide +kernel
theorem dX12_isAsked_77 : decode cX12_isAsked 77 = .ok (.goto 34, 3) := by decide +kernel
theorem dX12_isAsked_80 : decode cX12_isAsked 80 = .ok (.iload_n 0, 1) := by decide +kernel
theorem dX12_isAsked_81 : decode cX12_isAsked 81 = .ok (.bipush 14, 2) := by decide +kernel
theorem dX12_isAsked_83 : decode cX12_isAsked 83 = .ok (.if_icmp .ne 17, 3) := by decide +kernel
theorem dX12_isAsked_86 : decode cX12_isAsked 86 = .ok (.lload_n 1, 1) := by decide +kernel
theorem dX12_isAsked_87 : decode cX12_isAsked 87 = .ok (.lload_n 3, 1) := by decide +kernel
theorem dX12_isAsked_88 : decode cX12_isAsked 88 = .ok (.lcmp, 1) := by decide +kernel
theorem dX12_isAsked_89 : decode cX12_isAsked 89 = .ok (.ifCond .ne 7, 3) := by decide +kernel
theorem dX12_isAsked_92 : decode cX12_isAsked 92 = .ok (.iconst 1, 1) := by decide +kernel
theorem dX12_isAsked_93 : decode cX12_isAsked 93 = .ok (.goto 18, 3) := by decide +kernel
theorem dX12_isAsked_96 : decode cX12_isAsked 96 = .ok (.iconst 0, 1) := by decide +kernel
theorem dX12_isAsked_97 : decode cX12_isAsked 97 = .ok (.goto 14, 3) := by decide +kernel
theorem dX12_isAsked_100 : decode cX12_isAsked 100 = .ok (.lload_n 1, 1) := by decide +kernel
theorem dX12_isAsked_101 : decode cX12_isAsked 101 = .ok (.lload_n 3, 1) := by decide +kernel
theorem dX12_isAsked_102 : decode cX12_isAsked 102 = .ok (.lcmp, 1) := by decide +kernel
theorem dX12_isAsked_103 : decode cX12_isAsked 103 = .ok (.ifCond .eq 7, 3) := by decide +kernel
theorem dX12_isAsked_106 : decode cX12_isAsked 106 = .ok (.iconst 1, 1) := by decide +kernel
theorem dX12_isAsked_107 : decode cX12_isAsked 107 = .ok (.goto 4, 3) := by decide +kernel
theorem dX12_isAsked_110 : decode cX12_isAsked 110 = .ok (.iconst 0, 1) := by decide +kernel
theorem dX12_isAsked_111 : decode cX12_isAsked 111 = .ok (.ireturn, 1) := by decide +kernel
