/-! Decode rows. -/
theorem dX4_init_0 : decode cX4_init 0 = .ok (.aload_n 0, 1) := by decide +kernel
theorem dX4_init_1 : decode cX4_init 1 = .ok (.invokespecial 3, 3) := by decide +kernel
theorem dX4_init_4 : decode cX4_init 4 = .ok (.aload_n 0, 1) := by decide +kernel
theorem dX4_init_5 : decode cX4_init 5 = .ok (.aload_n 1, 1) := by decide +kernel
theorem dX4_init_6 : decode cX4_init 6 = .ok (.putfield 9, 3) := by decide +kernel
theorem dX4_init_9 : decode cX4_init 9 = .ok (.aload_n 0, 1) := by decide +kernel
theorem dX4_init_10 : decode cX4_init 10 = .ok (.sipush 1027, 3) := by decide +kernel
theorem dX4_init_13 : decode cX4_init 13 = .ok (.newarray .int, 2) := by decide +kernel
theorem dX4_init_15 : decode cX4_init 15 = .ok (.putfield 15, 3) := by decide +kernel
theorem dX4_init_18 : decode cX4_init 18 = .ok (.aload_n 0, 1) := by decide +kernel
theorem dX4_init_19 : decode cX4_init 19 = .ok (.sipush 1027, 3) := by decide +kernel
theorem dX4_init_22 : decode cX4_init 22 = .ok (.newarray .int, 2) := by decide +kernel
theorem dX4_init_24 : decode cX4_init 24 = .ok (.putfield 19, 3) := by decide +kernel
theorem dX4_init_27 : decode cX4_init 27 = .ok (.aload_n 0, 1) := by decide +kernel
theorem dX4_init_28 : decode cX4_init 28 = .ok (.bipush 64, 2) := by decide +kernel
theorem dX4_init_30 : decode cX4_init 30 = .ok (.newarray .int, 2) := by decide +kernel
theorem dX4_init_32 : decode cX4_init 32 = .ok (.putfield 22, 3) := by decide +kernel
theorem dX4_init_35 : decode cX4_init 35 = .ok (.return_, 1) := by decide +kernel
theorem dX4_forget_0 : decode cX4_forget 0 = .ok (.aload_n 0, 1) := by decide +kernel
theorem dX4_forget_1 : decode cX4_forget 1 = .ok (.iconst 0, 1) := by decide +kernel
theorem dX4_forget_2 : decode cX4_forget 2 = .ok (.putfield 25, 3) := by decide +kernel
theorem dX4_forget_5 : decode cX4_forget 5 = .ok (.return_, 1) := by decide +kernel
theorem dX4_make_0 : decode cX4_make 0 = .ok (.iload_n 1, 1) := by decide +kernel
theorem dX4_make_1 : decode cX4_make 1 = .ok (.invokestatic 29, 3) := by decide +kernel
theorem dX4_make_4 : decode cX4_make 4 = .ok (.istore_n 2, 1) := by decide +kernel
theorem dX4_make_5 : decode cX4_make 5 = .ok (.iload_n 1, 1) := by decide +kernel
theorem dX4_make_6 : decode cX4_make 6 = .ok (.invokestatic 33, 3) := by decide +kernel
theorem dX4_make_9 : decode cX4_make 9 = .ok (.istore_n 3, 1) := by decide +kernel
theorem dX4_make_10 : decode cX4_make 10 = .ok (.aload_n 0, 1) := by decide +kernel
theorem dX4_make_11 : decode cX4_make 11 = .ok (.getfield 9, 3) := by decide +kernel
theorem dX4_make_14 : decode cX4_make 14 = .ok (.iload_n 1, 1) := by decide +kernel
theorem dX4_make_15 : decode cX4_make 15 = .ok (.invokevirtual 36, 3) := by decide +kernel
theorem dX4_make_18 : decode cX4_make 18 = .ok (.istore 4, 2) := by decide +kernel
theorem dX4_make_20 : decode cX4_make 20 = .ok (.aload_n 0, 1) := by decide +kernel
theorem dX4_make_21 : decode cX4_make 21 = .ok (.getfield 9, 3) := by decide +kernel
theorem dX4_make_24 : decode cX4_make 24 = .ok (.getfield 41, 3) := by decide +kernel
theorem dX4_make_27 : decode cX4_make 27 = .ok (.iload 4, 2) := by decide +kernel
theorem dX4_make_29 : decode cX4_make 29 = .ok (.iaload, 1) := by decide +kernel
theorem dX4_make_30 : decode cX4_make 30 = .ok (.istore 5, 2) := by decide +kernel
theorem dX4_make_32 : decode cX4_make 32 = .ok (.aload_n 0, 1) := by decide +kernel
theorem dX4_make_33 : decode cX4_make 33 = .ok (.iload_n 1, 1) := by decide +kernel
theorem dX4_make_34 : decode cX4_make 34 = .ok (.iload 5, 2) := by decide +kernel
theorem dX4_make_36 : decode cX4_make 36 = .ok (.invokestatic 44, 3) := by decide +kernel
theorem dX4_make_39 : decode cX4_make 39 = .ok (.invokevirtual 49, 3) := by decide +kernel
theorem dX4_make_42 : decode cX4_make 42 = .ok (.iload 5, 2) := by decide +kernel
theorem dX4_make_44 : decode cX4_make 44 = .ok (.ifCond .eq 13, 3) := by decide +kernel
theorem dX4_make_47 : decode cX4_make 47 = .ok (.aload_n 0, 1) := by decide +kernel
theorem dX4_make_48 : decode cX4_make 48 = .ok (.getfield 9, 3) := by decide +kernel
theorem dX4_make_51 : decode cX4_make 51 = .ok (.iload 4, 2) := by decide +kernel
theorem dX4_make_53 : decode cX4_make 53 = .ok (.invokevirtual 53, 3) := by decide +kernel
theorem dX4_make_56 : decode cX4_make 56 = .ok (.pop, 1) := by decide +kernel
theorem dX4_make_57 : decode cX4_make 57 = .ok (.aload_n 0, 1) := by decide +kernel
theorem dX4_make_58 : decode cX4_make 58 = .ok (.getfield 9, 3) := by decide +kernel
theorem dX4_make_61 : decode cX4_make 61 = .ok (.iload_n 2, 1) := by decide +kernel
theorem dX4_make_62 : decode cX4_make 62 = .ok (.invokevirtual 53, 3) := by decide +kernel
theorem dX4_make_65 : decode cX4_make 65 = .ok (.istore 6, 2) := by decide +kernel
theorem dX4_make_67 : decode cX4_make 67 = .ok (.iload 6, 2) := by decide +kernel
theorem dX4_make_69 : decode cX4_make 69 = .ok (.invokestatic 44, 3) := by decide +kernel
theorem dX4_make_72 : decode cX4_make 72 = .ok (.istore 7, 2) := by decide +kernel
theorem dX4_make_74 : decode cX4_make 74 = .ok (.aload_n 0, 1) := by decide +kernel
theorem dX4_make_75 : decode cX4_make 75 = .ok (.getfield 9, 3) := by decide +kernel
theorem dX4_make_78 : decode cX4_make 78 = .ok (.iload_n 3, 1) := by decide +kernel
theorem dX4_make_79 : decode cX4_make 79 = .ok (.iload_n 1, 1) := by decide +kernel
theorem dX4_make_80 : decode cX4_make 80 = .ok (.invokestatic 56, 3) := by decide +kernel
theorem dX4_make_83 : decode cX4_make 83 = .ok (.ifCond .ne 8, 3) := by decide +kernel
theorem dX4_make_86 : decode cX4_make 86 = .ok (.iload 6, 2) := by decide +kernel
theorem dX4_make_88 : decode cX4_make 88 = .ok (.goto 10, 3) := by decide +kernel
theorem dX4_make_91 : decode cX4_make 91 = .ok (.iload 6, 2) := by decide +kernel
theorem dX4_make_93 : decode cX4_make 93 = .ok (.iload_n 1, 1) := by decide +kernel
theorem dX4_make_94 : decode cX4_make 94 = .ok (.invokestatic 56, 3) := by decide +kernel
theorem dX4_make_97 : decode cX4_make 97 = .ok (.imul, 1) := by decide +kernel
theorem dX4_make_98 : decode cX4_make 98 = .ok (.invokevirtual 59, 3) := by decide +kernel
theorem dX4_make_101 : decode cX4_make 101 = .ok (.iload 7, 2) := by decide +kernel
theorem dX4_make_103 : decode cX4_make 103 = .ok (.bipush 6, 2) := by decide +kernel
theorem dX4_make_105 : decode cX4_make 105 = .ok (.if_icmp .ne 35, 3) := by decide +kernel
theorem dX4_make_108 : decode cX4_make 108 = .ok (.iload_n 2, 1) := by decide +kernel
theorem dX4_make_109 : decode cX4_make 109 = .ok (.iload_n 3, 1) := by decide +kernel
theorem dX4_make_110 : decode cX4_make 110 = .ok (.invokestatic 62, 3) := by decide +kernel
theorem dX4_make_113 : decode cX4_make 113 = .ok (.ifCond .eq 27, 3) := by decide +kernel
theorem dX4_make_116 : decode cX4_make 116 = .ok (.aload_n 0, 1) := by decide +kernel
theorem dX4_make_117 : decode cX4_make 117 = .ok (.getfield 9, 3) := by decide +kernel
theorem dX4_make_120 : decode cX4_make 120 = .ok (.iload_n 2, 1) := by decide +kernel
theorem dX4_make_121 : decode cX4_make 121 = .ok (.iload_n 3, 1) := by decide +kernel
theorem dX4_make_122 : decode cX4_make 122 = .ok (.iadd, 1) := by decide +kernel
theorem dX4_make_123 : decode cX4_make 123 = .ok (.iconst 2, 1) := by decide +kernel
theorem dX4_make_124 : decode cX4_make 124 = .ok (.idiv, 1) := by decide +kernel
theorem dX4_make_125 : decode cX4_make 125 = .ok (.aload_n 0, 1) := by decide +kernel
theorem dX4_make_126 : decode cX4_make 126 = .ok (.getfield 9, 3) := by decide +kernel
theorem dX4_make_129 : decode cX4_make 129 = .ok (.iload_n 2, 1) := by decide +kernel
theorem dX4_make_130 : decode cX4_make 130 = .ok (.iload_n 3, 1) := by decide +kernel
theorem dX4_make_131 : decode cX4_make 131 = .ok (.invokestatic 66, 3) := by decide +kernel
theorem dX4_make_134 : decode cX4_make 134 = .ok (.invokevirtual 53, 3) := by decide +kernel
theorem dX4_make_137 : decode cX4_make 137 = .ok (.invokevirtual 59, 3) := by decide +kernel
theorem dX4_make_140 : decode cX4_make 140 = .ok (.aload_n 0, 1) := by decide +kernel
theorem dX4_make_141 : decode cX4_make 141 = .ok (.getfield 9, 3) := by decide +kernel
theorem dX4_make_144 : decode cX4_make 144 = .ok (.dup, 1) := by decide +kernel
theorem dX4_make_145 : decode cX4_make 145 = .ok (.getfield 70, 3) := by decide +kernel
theorem dX4_make_148 : decode cX4_make 148 = .ok (.iload_n 2, 1) := by decide +kernel
theorem dX4_make_149 : decode cX4_make 149 = .ok (.invokestatic 73, 3) := by decide +kernel
theorem dX4_make_152 : decode cX4_make 152 = .ok (.iload_n 3, 1) := by decide +kernel
theorem dX4_make_153 : decode cX4_make 153 = .ok (.invokestatic 73, 3) := by decide +kernel
theorem dX4_make_156 : decode cX4_make 156 = .ok (.iand, 1) := by decide +kernel
theorem dX4_make_157 : decode cX4_make 157 = .ok (.iand, 1) := by decide +kernel
theorem dX4_make_158 : decode cX4_make 158 = .ok (.putfield 70, 3) := by decide +kernel
theorem dX4_make_161 : decode cX4_make 161 = .ok (.aload_n 0, 1) := by decide +kernel
theorem dX4_make_162 : decode cX4_make 162 = .ok (.getfield 9, 3) := by decide +kernel
theorem dX4_make_165 : decode cX4_make 165 = .ok (.iload 7, 2) := by decide +kernel
theorem dX4_make_167 : decode cX4_make 167 = .ok (.iconst 1, 1) := by decide +kernel
theorem dX4_make_168 : decode cX4_make 168 = .ok (.if_icmp .eq 8, 3) := by decide +kernel
theorem dX4_make_171 : decode cX4_make 171 = .ok (.iload 5, 2) := by decide +kernel
theorem dX4_make_173 : decode cX4_make 173 = .ok (.ifCond .eq 7, 3) := by decide +kernel
theorem dX4_make_176 : decode cX4_make 176 = .ok (.iconst 0, 1) := by decide +kernel
theorem dX4_make_177 : decode cX4_make 177 = .ok (.goto 12, 3) := by decide +kernel
theorem dX4_make_180 : decode cX4_make 180 = .ok (.aload_n 0, 1) := by decide +kernel
theorem dX4_make_181 : decode cX4_make 181 = .ok (.getfield 9, 3) := by decide +kernel
theorem dX4_make_184 : decode cX4_make 184 = .ok (.getfield 76, 3) := by decide +kernel
theorem dX4_make_187 : decode cX4_make 187 = .ok (.iconst 1, 1) := by decide +kernel
theorem dX4_make_188 : decode cX4_make 188 = .ok (.iadd, 1) := by decide +kernel
theorem dX4_make_189 : decode cX4_make 189 = .ok (.putfield 76, 3) := by decide +kernel
theorem dX4_make_192 : decode cX4_make 192 = .ok (.aload_n 0, 1) := by decide +kernel
theorem dX4_make_193 : decode cX4_make 193 = .ok (.getfield 9, 3) := by decide +kernel
theorem dX4_make_196 : decode cX4_make 196 = .ok (.dup, 1) := by decide +kernel
theorem dX4_make_197 : decode cX4_make 197 = .ok (.getfield 79, 3) := by decide +kernel
theorem dX4_make_200 : decode cX4_make 200 = .ok (.aload_n 0, 1) := by decide +kernel
theorem dX4_make_201 : decode cX4_make 201 = .ok (.getfield 9, 3) := by decide +kernel
theorem dX4_make_204 : decode cX4_make 204 = .ok (.getfield 82, 3) := by decide +kernel
theorem dX4_make_207 : decode cX4_make 207 = .ok (.iadd, 1) := by decide +kernel
theorem dX4_make_208 : decode cX4_make 208 = .ok (.putfield 79, 3) := by decide +kernel
theorem dX4_make_211 : decode cX4_make 211 = .ok (.aload_n 0, 1) := by decide +kernel
theorem dX4_make_212 : decode cX4_make 212 = .ok (.getfield 9, 3) := by decide +kernel
theorem dX4_make_215 : decode cX4_make 215 = .ok (.iconst 1, 1) := by decide +kernel
theorem dX4_make_216 : decode cX4_make 216 = .ok (.aload_n 0, 1) := by decide +kernel
theorem dX4_make_217 : decode cX4_make 217 = .ok (.getfield 9, 3) := by decide +kernel
theorem dX4_make_220 : decode cX4_make 220 = .ok (.getfield 82, 3) := by decide +kernel
theorem dX4_make_223 : decode cX4_make 223 = .ok (.isub, 1) := by decide +kernel
theorem dX4_make_224 : decode cX4_make 224 = .ok (.putfield 82, 3) := by decide +kernel
theorem dX4_make_227 : decode cX4_make 227 = .ok (.aload_n 0, 1) := by decide +kernel
theorem dX4_make_228 : decode cX4_make 228 = .ok (.getfield 9, 3) := by decide +kernel
theorem dX4_make_231 : decode cX4_make 231 = .ok (.iconst (-1), 1) := by decide +kernel
theorem dX4_make_232 : decode cX4_make 232 = .ok (.putfield 85, 3) := by decide +kernel
theorem dX4_make_235 : decode cX4_make 235 = .ok (.iload 7, 2) := by decide +kernel
theorem dX4_make_237 : decode cX4_make 237 = .ok (.iconst 1, 1) := by decide +kernel
theorem dX4_make_238 : decode cX4_make 238 = .ok (.if_icmp .ne 56, 3) := by decide +kernel
theorem dX4_make_241 : decode cX4_make 241 = .ok (.iload_n 2, 1) := by decide +kernel
theorem dX4_make_242 : decode cX4_make 242 = .ok (.iload_n 3, 1) := by decide +kernel
theorem dX4_make_243 : decode cX4_make 243 = .ok (.isub, 1) := by decide +kernel
theorem dX4_make_244 : decode cX4_make 244 = .ok (.invokestatic 44, 3) := by decide +kernel
theorem dX4_make_247 : decode cX4_make 247 = .ok (.bipush 16, 2) := by decide +kernel
theorem dX4_make_249 : decode cX4_make 249 = .ok (.if_icmp .ne 45, 3) := by decide +kernel
theorem dX4_make_252 : decode cX4_make 252 = .ok (.aload_n 0, 1) := by decide +kernel
theorem dX4_make_253 : decode cX4_make 253 = .ok (.getfield 9, 3) := by decide +kernel
theorem dX4_make_256 : decode cX4_make 256 = .ok (.iload_n 2, 1) := by decide +kernel
theorem dX4_make_257 : decode cX4_make 257 = .ok (.iload_n 3, 1) := by decide +kernel
theorem dX4_make_258 : decode cX4_make 258 = .ok (.iadd, 1) := by decide +kernel
theorem dX4_make_259 : decode cX4_make 259 = .ok (.iconst 2, 1) := by decide +kernel
theorem dX4_make_260 : decode cX4_make 260 = .ok (.idiv, 1) := by decide +kernel
theorem dX4_make_261 : decode cX4_make 261 = .ok (.putfield 85, 3) := by decide +kernel
theorem dX4_make_264 : decode cX4_make 264 = .ok (.aload_n 0, 1) := by decide +kernel
theorem dX4_make_265 : decode cX4_make 265 = .ok (.getfield 9, 3) := by decide +kernel
theorem dX4_make_268 : decode cX4_make 268 = .ok (.aload_n 0, 1) := by decide +kernel
theorem dX4_make_269 : decode cX4_make 269 = .ok (.getfield 9, 3) := by decide +kernel
theorem dX4_make_272 : decode cX4_make 272 = .ok (.invokevirtual 88, 3) := by decide +kernel
theorem dX4_make_275 : decode cX4_make 275 = .ok (.lconst 0, 1) := by decide +kernel
theorem dX4_make_276 : decode cX4_make 276 = .ok (.lcmp, 1) := by decide +kernel
theorem dX4_make_277 : decode cX4_make 277 = .ok (.ifCond .ne 7, 3) := by decide +kernel
theorem dX4_make_280 : decode cX4_make 280 = .ok (.iconst (-1), 1) := by decide +kernel
theorem dX4_make_281 : decode cX4_make 281 = .ok (.goto 10, 3) := by decide +kernel
theorem dX4_make_284 : decode cX4_make 284 = .ok (.aload_n 0, 1) := by decide +kernel
theorem dX4_make_285 : decode cX4_make 285 = .ok (.getfield 9, 3) := by decide +kernel
theorem dX4_make_288 : decode cX4_make 288 = .ok (.getfield 85, 3) := by decide +kernel
theorem dX4_make_291 : decode cX4_make 291 = .ok (.putfield 85, 3) := by decide +kernel
theorem dX4_make_294 : decode cX4_make 294 = .ok (.iload 5, 2) := by decide +kernel
theorem dX4_make_296 : decode cX4_make 296 = .ok (.ireturn, 1) := by decide +kernel
theorem dX4_takeBack_0 : decode cX4_takeBack 0 = .ok (.aload_n 0, 1) := by decide +kernel
theorem dX4_takeBack_1 : decode cX4_takeBack 1 = .ok (.dup, 1) := by decide +kernel
theorem dX4_takeBack_2 : decode cX4_takeBack 2 = .ok (.getfield 25, 3) := by decide +kernel
theorem dX4_takeBack_5 : decode cX4_takeBack 5 = .ok (.iconst 1, 1) := by decide +kernel
theorem dX4_takeBack_6 : decode cX4_takeBack 6 = .ok (.isub, 1) := by decide +kernel
theorem dX4_takeBack_7 : decode cX4_takeBack 7 = .ok (.putfield 25, 3) := by decide +kernel
theorem dX4_takeBack_10 : decode cX4_takeBack 10 = .ok (.aload_n 0, 1) := by decide +kernel
theorem dX4_takeBack_11 : decode cX4_takeBack 11 = .ok (.getfield 15, 3) := by decide +kernel
theorem dX4_takeBack_14 : decode cX4_takeBack 14 = .ok (.aload_n 0, 1) := by decide +kernel
theorem dX4_takeBack_15 : decode cX4_takeBack 15 = .ok (.getfield 25, 3) := by decide +kernel
theorem dX4_takeBack_18 : decode cX4_takeBack 18 = .ok (.iaload, 1) := by decide +kernel
theorem dX4_takeBack_19 : decode cX4_takeBack 19 = .ok (.istore_n 1, 1) := by decide +kernel
theorem dX4_takeBack_20 : decode cX4_takeBack 20 = .ok (.aload_n 0, 1) := by decide +kernel
theorem dX4_takeBack_21 : decode cX4_takeBack 21 = .ok (.getfield 19, 3) := by decide +kernel
theorem dX4_takeBack_24 : decode cX4_takeBack 24 = .ok (.aload_n 0, 1) := by decide +kernel
theorem dX4_takeBack_25 : decode cX4_takeBack 25 = .ok (.getfield 25, 3) := by decide +kernel
theorem dX4_takeBack_28 : decode cX4_takeBack 28 = .ok (.iaload, 1) := by decide +kernel
theorem dX4_takeBack_29 : decode cX4_takeBack 29 = .ok (.istore_n 2, 1) := by decide +kernel
theorem dX4_takeBack_30 : decode cX4_takeBack 30 = .ok (.iload_n 1, 1) := by decide +kernel
theorem dX4_takeBack_31 : decode cX4_takeBack 31 = .ok (.invokestatic 29, 3) := by decide +kernel
theorem dX4_takeBack_34 : decode cX4_takeBack 34 = .ok (.istore_n 3, 1) := by decide +kernel
theorem dX4_takeBack_35 : decode cX4_takeBack 35 = .ok (.iload_n 1, 1) := by decide +kernel
theorem dX4_takeBack_36 : decode cX4_takeBack 36 = .ok (.invokestatic 33, 3) := by decide +kernel
theorem dX4_takeBack_39 : decode cX4_takeBack 39 = .ok (.istore 4, 2) := by decide +kernel
theorem dX4_takeBack_41 : decode cX4_takeBack 41 = .ok (.aload_n 0, 1) := by decide +kernel
theorem dX4_takeBack_42 : decode cX4_takeBack 42 = .ok (.getfield 9, 3) := by decide +kernel
theorem dX4_takeBack_45 : decode cX4_takeBack 45 = .ok (.iconst 1, 1) := by decide +kernel
theorem dX4_takeBack_46 : decode cX4_takeBack 46 = .ok (.aload_n 0, 1) := by decide +kernel
theorem dX4_takeBack_47 : decode cX4_takeBack 47 = .ok (.getfield 9, 3) := by decide +kernel
theorem dX4_takeBack_50 : decode cX4_takeBack 50 = .ok (.getfield 82, 3) := by decide +kernel
theorem dX4_takeBack_53 : decode cX4_takeBack 53 = .ok (.isub, 1) := by decide +kernel
theorem dX4_takeBack_54 : decode cX4_takeBack 54 = .ok (.putfield 82, 3) := by decide +kernel
theorem dX4_takeBack_57 : decode cX4_takeBack 57 = .ok (.aload_n 0, 1) := by decide +kernel
theorem dX4_takeBack_58 : decode cX4_takeBack 58 = .ok (.getfield 9, 3) := by decide +kernel
theorem dX4_takeBack_61 : decode cX4_takeBack 61 = .ok (.dup, 1) := by decide +kernel
theorem dX4_takeBack_62 : decode cX4_takeBack 62 = .ok (.getfield 79, 3) := by decide +kernel
theorem dX4_takeBack_65 : decode cX4_takeBack 65 = .ok (.aload_n 0, 1) := by decide +kernel
theorem dX4_takeBack_66 : decode cX4_takeBack 66 = .ok (.getfield 9, 3) := by decide +kernel
theorem dX4_takeBack_69 : decode cX4_takeBack 69 = .ok (.getfield 82, 3) := by decide +kernel
theorem dX4_takeBack_72 : decode cX4_takeBack 72 = .ok (.isub, 1) := by decide +kernel
theorem dX4_takeBack_73 : decode cX4_takeBack 73 = .ok (.putfield 79, 3) := by decide +kernel
theorem dX4_takeBack_76 : decode cX4_takeBack 76 = .ok (.aload_n 0, 1) := by decide +kernel
theorem dX4_takeBack_77 : decode cX4_takeBack 77 = .ok (.getfield 9, 3) := by decide +kernel
theorem dX4_takeBack_80 : decode cX4_takeBack 80 = .ok (.iload_n 2, 1) := by decide +kernel
theorem dX4_takeBack_81 : decode cX4_takeBack 81 = .ok (.invokestatic 92, 3) := by decide +kernel
theorem dX4_takeBack_84 : decode cX4_takeBack 84 = .ok (.putfield 70, 3) := by decide +kernel
theorem dX4_takeBack_87 : decode cX4_takeBack 87 = .ok (.aload_n 0, 1) := by decide +kernel
theorem dX4_takeBack_88 : decode cX4_takeBack 88 = .ok (.getfield 9, 3) := by decide +kernel
theorem dX4_takeBack_91 : decode cX4_takeBack 91 = .ok (.iload_n 2, 1) := by decide +kernel
theorem dX4_takeBack_92 : decode cX4_takeBack 92 = .ok (.invokestatic 95, 3) := by decide +kernel
theorem dX4_takeBack_95 : decode cX4_takeBack 95 = .ok (.putfield 85, 3) := by decide +kernel
theorem dX4_takeBack_98 : decode cX4_takeBack 98 = .ok (.aload_n 0, 1) := by decide +kernel
theorem dX4_takeBack_99 : decode cX4_takeBack 99 = .ok (.getfield 9, 3) := by decide +kernel
theorem dX4_takeBack_102 : decode cX4_takeBack 102 = .ok (.iload_n 2, 1) := by decide +kernel
theorem dX4_takeBack_103 : decode cX4_takeBack 103 = .ok (.bipush 14, 2) := by decide +kernel
theorem dX4_takeBack_105 : decode cX4_takeBack 105 = .ok (.ishr, 1) := by decide +kernel
theorem dX4_takeBack_106 : decode cX4_takeBack 106 = .ok (.putfield 76, 3) := by decide +kernel
theorem dX4_takeBack_109 : decode cX4_takeBack 109 = .ok (.aload_n 0, 1) := by decide +kernel
theorem dX4_takeBack_110 : decode cX4_takeBack 110 = .ok (.getfield 9, 3) := by decide +kernel
theorem dX4_takeBack_113 : decode cX4_takeBack 113 = .ok (.getfield 82, 3) := by decide +kernel
theorem dX4_takeBack_116 : decode cX4_takeBack 116 = .ok (.ifCond .ne 7, 3) := by decide +kernel
theorem dX4_takeBack_119 : decode cX4_takeBack 119 = .ok (.iconst 1, 1) := by decide +kernel
theorem dX4_takeBack_120 : decode cX4_takeBack 120 = .ok (.goto 4, 3) := by decide +kernel
theorem dX4_takeBack_123 : decode cX4_takeBack 123 = .ok (.iconst (-1), 1) := by decide +kernel
theorem dX4_takeBack_124 : decode cX4_takeBack 124 = .ok (.istore 5, 2) := by decide +kernel
theorem dX4_takeBack_126 : decode cX4_takeBack 126 = .ok (.aload_n 0, 1) := by decide +kernel
theorem dX4_takeBack_127 : decode cX4_takeBack 127 = .ok (.getfield 9, 3) := by decide +kernel
theorem dX4_takeBack_130 : decode cX4_takeBack 130 = .ok (.iload 4, 2) := by decide +kernel
theorem dX4_takeBack_132 : decode cX4_takeBack 132 = .ok (.invokevirtual 53, 3) := by decide +kernel
theorem dX4_takeBack_135 : decode cX4_takeBack 135 = .ok (.istore 6, 2) := by decide +kernel
theorem dX4_takeBack_137 : decode cX4_takeBack 137 = .ok (.aload_n 0, 1) := by decide +kernel
theorem dX4_takeBack_138 : decode cX4_takeBack 138 = .ok (.getfield 9, 3) := by decide +kernel
theorem dX4_takeBack_141 : decode cX4_takeBack 141 = .ok (.iload_n 3, 1) := by decide +kernel
theorem dX4_takeBack_142 : decode cX4_takeBack 142 = .ok (.iload_n 1, 1) := by decide +kernel
theorem dX4_takeBack_143 : decode cX4_takeBack 143 = .ok (.invokestatic 56, 3) := by decide +kernel
theorem dX4_takeBack_146 : decode cX4_takeBack 146 = .ok (.ifCond .ne 8, 3) := by decide +kernel
theorem dX4_takeBack_149 : decode cX4_takeBack 149 = .ok (.iload 6, 2) := by decide +kernel
theorem dX4_takeBack_151 : decode cX4_takeBack 151 = .ok (.goto 7, 3) := by decide +kernel
theorem dX4_takeBack_154 : decode cX4_takeBack 154 = .ok (.iload 5, 2) := by decide +kernel
theorem dX4_takeBack_156 : decode cX4_takeBack 156 = .ok (.iconst 1, 1) := by decide +kernel
theorem dX4_takeBack_157 : decode cX4_takeBack 157 = .ok (.imul, 1) := by decide +kernel
theorem dX4_takeBack_158 : decode cX4_takeBack 158 = .ok (.invokevirtual 59, 3) := by decide +kernel
theorem dX4_takeBack_161 : decode cX4_takeBack 161 = .ok (.iload_n 2, 1) := by decide +kernel
theorem dX4_takeBack_162 : decode cX4_takeBack 162 = .ok (.bipush 7, 2) := by decide +kernel
theorem dX4_takeBack_164 : decode cX4_takeBack 164 = .ok (.iand, 1) := by decide +kernel
theorem dX4_takeBack_165 : decode cX4_takeBack 165 = .ok (.ifCond .eq 26, 3) := by decide +kernel
theorem dX4_takeBack_168 : decode cX4_takeBack 168 = .ok (.aload_n 0, 1) := by decide +kernel
theorem dX4_takeBack_169 : decode cX4_takeBack 169 = .ok (.getfield 9, 3) := by decide +kernel
theorem dX4_takeBack_172 : decode cX4_takeBack 172 = .ok (.aload_n 0, 1) := by decide +kernel
theorem dX4_takeBack_173 : decode cX4_takeBack 173 = .ok (.getfield 9, 3) := by decide +kernel
theorem dX4_takeBack_176 : decode cX4_takeBack 176 = .ok (.iload_n 1, 1) := by decide +kernel
theorem dX4_takeBack_177 : decode cX4_takeBack 177 = .ok (.invokevirtual 36, 3) := by decide +kernel
theorem dX4_takeBack_180 : decode cX4_takeBack 180 = .ok (.iload 5, 2) := by decide +kernel
theorem dX4_takeBack_182 : decode cX4_takeBack 182 = .ok (.ineg, 1) := by decide +kernel
theorem dX4_takeBack_183 : decode cX4_takeBack 183 = .ok (.iload_n 2, 1) := by decide +kernel
theorem dX4_takeBack_184 : decode cX4_takeBack 184 = .ok (.bipush 7, 2) := by decide +kernel
theorem dX4_takeBack_186 : decode cX4_takeBack 186 = .ok (.iand, 1) := by decide +kernel
theorem dX4_takeBack_187 : decode cX4_takeBack 187 = .ok (.imul, 1) := by decide +kernel
theorem dX4_takeBack_188 : decode cX4_takeBack 188 = .ok (.invokevirtual 59, 3) := by decide +kernel
theorem dX4_takeBack_191 : decode cX4_takeBack 191 = .ok (.iload 6, 2) := by decide +kernel
theorem dX4_takeBack_193 : decode cX4_takeBack 193 = .ok (.invokestatic 44, 3) := by decide +kernel
theorem dX4_takeBack_196 : decode cX4_takeBack 196 = .ok (.bipush 6, 2) := by decide +kernel
theorem dX4_takeBack_198 : decode cX4_takeBack 198 = .ok (.if_icmp .ne 38, 3) := by decide +kernel
theorem dX4_takeBack_201 : decode cX4_takeBack 201 = .ok (.iload_n 3, 1) := by decide +kernel
theorem dX4_takeBack_202 : decode cX4_takeBack 202 = .ok (.iload 4, 2) := by decide +kernel
theorem dX4_takeBack_204 : decode cX4_takeBack 204 = .ok (.invokestatic 62, 3) := by decide +kernel
theorem dX4_takeBack_207 : decode cX4_takeBack 207 = .ok (.ifCond .eq 29, 3) := by decide +kernel
theorem dX4_takeBack_210 : decode cX4_takeBack 210 = .ok (.aload_n 0, 1) := by decide +kernel
theorem dX4_takeBack_211 : decode cX4_takeBack 211 = .ok (.getfield 9, 3) := by decide +kernel
theorem dX4_takeBack_214 : decode cX4_takeBack 214 = .ok (.iload_n 3, 1) := by decide +kernel
theorem dX4_takeBack_215 : decode cX4_takeBack 215 = .ok (.iload 4, 2) := by decide +kernel
theorem dX4_takeBack_217 : decode cX4_takeBack 217 = .ok (.invokestatic 66, 3) := by decide +kernel
theorem dX4_takeBack_220 : decode cX4_takeBack 220 = .ok (.aload_n 0, 1) := by decide +kernel
theorem dX4_takeBack_221 : decode cX4_takeBack 221 = .ok (.getfield 9, 3) := by decide +kernel
theorem dX4_takeBack_224 : decode cX4_takeBack 224 = .ok (.iload_n 3, 1) := by decide +kernel
theorem dX4_takeBack_225 : decode cX4_takeBack 225 = .ok (.iload 4, 2) := by decide +kernel
theorem dX4_takeBack_227 : decode cX4_takeBack 227 = .ok (.iadd, 1) := by decide +kernel
theorem dX4_takeBack_228 : decode cX4_takeBack 228 = .ok (.iconst 2, 1) := by decide +kernel
theorem dX4_takeBack_229 : decode cX4_takeBack 229 = .ok (.idiv, 1) := by decide +kernel
theorem dX4_takeBack_230 : decode cX4_takeBack 230 = .ok (.invokevirtual 53, 3) := by decide +kernel
theorem dX4_takeBack_233 : decode cX4_takeBack 233 = .ok (.invokevirtual 59, 3) := by decide +kernel
theorem dX4_takeBack_236 : decode cX4_takeBack 236 = .ok (.return_, 1) := by decide +kernel
theorem dX4_remember_0 : decode cX4_remember 0 = .ok (.aload_n 0, 1) := by decide +kernel
theorem dX4_remember_1 : decode cX4_remember 1 = .ok (.getfield 15, 3) := by decide +kernel
theorem dX4_remember_4 : decode cX4_remember 4 = .ok (.aload_n 0, 1) := by decide +kernel
theorem dX4_remember_5 : decode cX4_remember 5 = .ok (.getfield 25, 3) := by decide +kernel
theorem dX4_remember_8 : decode cX4_remember 8 = .ok (.iload_n 1, 1) := by decide +kernel
theorem dX4_remember_9 : decode cX4_remember 9 = .ok (.iastore, 1) := by decide +kernel
theorem dX4_remember_10 : decode cX4_remember 10 = .ok (.aload_n 0, 1) := by decide +kernel
theorem dX4_remember_11 : decode cX4_remember 11 = .ok (.getfield 19, 3) := by decide +kernel
theorem dX4_remember_14 : decode cX4_remember 14 = .ok (.aload_n 0, 1) := by decide +kernel
theorem dX4_remember_15 : decode cX4_remember 15 = .ok (.getfield 25, 3) := by decide +kernel
theorem dX4_remember_18 : decode cX4_remember 18 = .ok (.iload_n 2, 1) := by decide +kernel
theorem dX4_remember_19 : decode cX4_remember 19 = .ok (.aload_n 0, 1) := by decide +kernel
theorem dX4_remember_20 : decode cX4_remember 20 = .ok (.getfield 9, 3) := by decide +kernel
theorem dX4_remember_23 : decode cX4_remember 23 = .ok (.getfield 70, 3) := by decide +kernel
theorem dX4_remember_26 : decode cX4_remember 26 = .ok (.iconst 3, 1) := by decide +kernel
theorem dX4_remember_27 : decode cX4_remember 27 = .ok (.ishl, 1) := by decide +kernel
theorem dX4_remember_28 : decode cX4_remember 28 = .ok (.ior, 1) := by decide +kernel
theorem dX4_remember_29 : decode cX4_remember 29 = .ok (.aload_n 0, 1) := by decide +kernel
theorem dX4_remember_30 : decode cX4_remember 30 = .ok (.getfield 9, 3) := by decide +kernel
theorem dX4_remember_33 : decode cX4_remember 33 = .ok (.getfield 85, 3) := by decide +kernel
theorem dX4_remember_36 : decode cX4_remember 36 = .ok (.iconst 1, 1) := by decide +kernel
theorem dX4_remember_37 : decode cX4_remember 37 = .ok (.iadd, 1) := by decide +kernel
theorem dX4_remember_38 : decode cX4_remember 38 = .ok (.bipush 7, 2) := by decide +kernel
theorem dX4_remember_40 : decode cX4_remember 40 = .ok (.ishl, 1) := by decide +kernel
theorem dX4_remember_41 : decode cX4_remember 41 = .ok (.ior, 1) := by decide +kernel
theorem dX4_remember_42 : decode cX4_remember 42 = .ok (.aload_n 0, 1) := by decide +kernel
theorem dX4_remember_43 : decode cX4_remember 43 = .ok (.getfield 9, 3) := by decide +kernel
theorem dX4_remember_46 : decode cX4_remember 46 = .ok (.getfield 76, 3) := by decide +kernel
theorem dX4_remember_49 : decode cX4_remember 49 = .ok (.bipush 14, 2) := by decide +kernel
theorem dX4_remember_51 : decode cX4_remember 51 = .ok (.ishl, 1) := by decide +kernel
theorem dX4_remember_52 : decode cX4_remember 52 = .ok (.ior, 1) := by decide +kernel
theorem dX4_remember_53 : decode cX4_remember 53 = .ok (.iastore, 1) := by decide +kernel
theorem dX4_remember_54 : decode cX4_remember 54 = .ok (.aload_n 0, 1) := by decide +kernel
theorem dX4_remember_55 : decode cX4_remember 55 = .ok (.dup, 1) := by decide +kernel
theorem dX4_remember_56 : decode cX4_remember 56 = .ok (.getfield 25, 3) := by decide +kernel
theorem dX4_remember_59 : decode cX4_remember 59 = .ok (.iconst 1, 1) := by decide +kernel
theorem dX4_remember_60 : decode cX4_remember 60 = .ok (.iadd, 1) := by decide +kernel
theorem dX4_remember_61 : decode cX4_remember 61 = .ok (.putfield 25, 3) := by decide +kernel
theorem dX4_remember_64 : decode cX4_remember 64 = .ok (.return_, 1) := by decide +kernel
theorem dX4_rightsIn_0 : decode cX4_rightsIn 0 = .ok (.iload_n 0, 1) := by decide +kernel
theorem dX4_rightsIn_1 : decode cX4_rightsIn 1 = .ok (.iconst 3, 1) := by decide +kernel
theorem dX4_rightsIn_2 : decode cX4_rightsIn 2 = .ok (.ishr, 1) := by decide +kernel
theorem dX4_rightsIn_3 : decode cX4_rightsIn 3 = .ok (.bipush 15, 2) := by decide +kernel
theorem dX4_rightsIn_5 : decode cX4_rightsIn 5 = .ok (.iand, 1) := by decide +kernel
theorem dX4_rightsIn_6 : decode cX4_rightsIn 6 = .ok (.ireturn, 1) := by decide +kernel
theorem dX4_passedIn_0 : decode cX4_passedIn 0 = .ok (.iload_n 0, 1) := by decide +kernel
theorem dX4_passedIn_1 : decode cX4_passedIn 1 = .ok (.bipush 7, 2) := by decide +kernel
theorem dX4_passedIn_3 : decode cX4_passedIn 3 = .ok (.ishr, 1) := by decide +kernel
theorem dX4_passedIn_4 : decode cX4_passedIn 4 = .ok (.bipush 127, 2) := by decide +kernel
theorem dX4_passedIn_6 : decode cX4_passedIn 6 = .ok (.iand, 1) := by decide +kernel
theorem dX4_passedIn_7 : decode cX4_passedIn 7 = .ok (.iconst 1, 1) := by decide +kernel
theorem dX4_passedIn_8 : decode cX4_passedIn 8 = .ok (.isub, 1) := by decide +kernel
theorem dX4_passedIn_9 : decode cX4_passedIn 9 = .ok (.ireturn, 1) := by decide +kernel
theorem dX4_isByRight_0 : decode cX4_isByRight 0 = .ok (.iload_n 0, 1) := by decide +kernel
theorem dX4_isByRight_1 : decode cX4_isByRight 1 = .ok (.iload_n 1, 1) := by decide +kernel
theorem dX4_isByRight_2 : decode cX4_isByRight 2 = .ok (.isub, 1) := by decide +kernel
theorem dX4_isByRight_3 : decode cX4_isByRight 3 = .ok (.invokestatic 44, 3) := by decide +kernel
theorem dX4_isByRight_6 : decode cX4_isByRight 6 = .ok (.iconst 2, 1) := by decide +kernel
theorem dX4_isByRight_7 : decode cX4_isByRight 7 = .ok (.if_icmp .ne 7, 3) := by decide +kernel
theorem dX4_isByRight_10 : decode cX4_isByRight 10 = .ok (.iconst 1, 1) := by decide +kernel
theorem dX4_isByRight_11 : decode cX4_isByRight 11 = .ok (.goto 4, 3) := by decide +kernel
theorem dX4_isByRight_14 : decode cX4_isByRight 14 = .ok (.iconst 0, 1) := by decide +kernel
theorem dX4_isByRight_15 : decode cX4_isByRight 15 = .ok (.ireturn, 1) := by decide +kernel
theorem dX4_cornerOf_0 : decode cX4_cornerOf 0 = .ok (.iload_n 1, 1) := by decide +kernel
theorem dX4_cornerOf_1 : decode cX4_cornerOf 1 = .ok (.iload_n 0, 1) := by decide +kernel
theorem dX4_cornerOf_2 : decode cX4_cornerOf 2 = .ok (.if_icmp .le 9, 3) := by decide +kernel
theorem dX4_cornerOf_5 : decode cX4_cornerOf 5 = .ok (.iload_n 1, 1) := by decide +kernel
theorem dX4_cornerOf_6 : decode cX4_cornerOf 6 = .ok (.iconst 1, 1) := by decide +kernel
theorem dX4_cornerOf_7 : decode cX4_cornerOf 7 = .ok (.iadd, 1) := by decide +kernel
theorem dX4_cornerOf_8 : decode cX4_cornerOf 8 = .ok (.goto 6, 3) := by decide +kernel
theorem dX4_cornerOf_11 : decode cX4_cornerOf 11 = .ok (.iload_n 1, 1) := by decide +kernel
theorem dX4_cornerOf_12 : decode cX4_cornerOf 12 = .ok (.iconst 2, 1) := by decide +kernel
theorem dX4_cornerOf_13 : decode cX4_cornerOf 13 = .ok (.isub, 1) := by decide +kernel
theorem dX4_cornerOf_14 : decode cX4_cornerOf 14 = .ok (.ireturn, 1) := by decide +kernel
theorem dX4_keptBy_0 : decode cX4_keptBy 0 = .ok (.iload_n 0, 1) := by decide +kernel
theorem dX4_keptBy_1 : decode cX4_keptBy 1 = .ok (.lookupswitch 76 #[(0, 59), (4, 62), (7, 65), (56, 68), (60, 71), (63, 73)], 59) := by decide +kernel
theorem dX4_keptBy_60 : decode cX4_keptBy 60 = .ok (.bipush 13, 2) := by decide +kernel
theorem dX4_keptBy_62 : decode cX4_keptBy 62 = .ok (.ireturn, 1) := by decide +kernel
theorem dX4_keptBy_63 : decode cX4_keptBy 63 = .ok (.bipush 12, 2) := by decide +kernel
theorem dX4_keptBy_65 : decode cX4_keptBy 65 = .ok (.ireturn, 1) := by decide +kernel
theorem dX4_keptBy_66 : decode cX4_keptBy 66 = .ok (.bipush 14, 2) := by decide +kernel
theorem dX4_keptBy_68 : decode cX4_keptBy 68 = .ok (.ireturn, 1) := by decide +kernel
theorem dX4_keptBy_69 : decode cX4_keptBy 69 = .ok (.bipush 7, 2) := by decide +kernel
theorem dX4_keptBy_71 : decode cX4_keptBy 71 = .ok (.ireturn, 1) := by decide +kernel
theorem dX4_keptBy_72 : decode cX4_keptBy 72 = .ok (.iconst 3, 1) := by decide +kernel
theorem dX4_keptBy_73 : decode cX4_keptBy 73 = .ok (.ireturn, 1) := by decide +kernel
theorem dX4_keptBy_74 : decode cX4_keptBy 74 = .ok (.bipush 11, 2) := by decide +kernel
theorem dX4_keptBy_76 : decode cX4_keptBy 76 = .ok (.ireturn, 1) := by decide +kernel
theorem dX4_keptBy_77 : decode cX4_keptBy 77 = .ok (.bipush 15, 2) := by decide +kernel
theorem dX4_keptBy_79 : decode cX4_keptBy 79 = .ok (.ireturn, 1) := by decide +kernel
theorem dX4_isThrice_0 : decode cX4_isThrice 0 = .ok (.aload_n 0, 1) := by decide +kernel
theorem dX4_isThrice_1 : decode cX4_isThrice 1 = .ok (.getfield 9, 3) := by decide +kernel
theorem dX4_isThrice_4 : decode cX4_isThrice 4 = .ok (.getfield 41, 3) := by decide +kernel
theorem dX4_isThrice_7 : decode cX4_isThrice 7 = .ok (.iconst 0, 1) := by decide +kernel
theorem dX4_isThrice_8 : decode cX4_isThrice 8 = .ok (.aload_n 0, 1) := by decide +kernel
theorem dX4_isThrice_9 : decode cX4_isThrice 9 = .ok (.getfield 22, 3) := by decide +kernel
theorem dX4_isThrice_12 : decode cX4_isThrice 12 = .ok (.iconst 0, 1) := by decide +kernel
theorem dX4_isThrice_13 : decode cX4_isThrice 13 = .ok (.bipush 64, 2) := by decide +kernel
theorem dX4_isThrice_15 : decode cX4_isThrice 15 = .ok (.invokestatic 98, 3) := by decide +kernel
theorem dX4_isThrice_18 : decode cX4_isThrice 18 = .ok (.aload_n 0, 1) := by decide +kernel
theorem dX4_isThrice_19 : decode cX4_isThrice 19 = .ok (.getfield 25, 3) := by decide +kernel
theorem dX4_isThrice_22 : decode cX4_isThrice 22 = .ok (.aload_n 0, 1) := by decide +kernel
theorem dX4_isThrice_23 : decode cX4_isThrice 23 = .ok (.getfield 9, 3) := by decide +kernel
theorem dX4_isThrice_26 : decode cX4_isThrice 26 = .ok (.getfield 76, 3) := by decide +kernel
theorem dX4_isThrice_29 : decode cX4_isThrice 29 = .ok (.invokestatic 104, 3) := by decide +kernel
theorem dX4_isThrice_32 : decode cX4_isThrice 32 = .ok (.istore_n 1, 1) := by decide +kernel
theorem dX4_isThrice_33 : decode cX4_isThrice 33 = .ok (.iconst 0, 1) := by decide +kernel
theorem dX4_isThrice_34 : decode cX4_isThrice 34 = .ok (.istore_n 2, 1) := by decide +kernel
theorem dX4_isThrice_35 : decode cX4_isThrice 35 = .ok (.iconst 0, 1) := by decide +kernel
theorem dX4_isThrice_36 : decode cX4_isThrice 36 = .ok (.istore_n 3, 1) := by decide +kernel
theorem dX4_isThrice_37 : decode cX4_isThrice 37 = .ok (.iconst 1, 1) := by decide +kernel
theorem dX4_isThrice_38 : decode cX4_isThrice 38 = .ok (.istore 4, 2) := by decide +kernel
theorem dX4_isThrice_40 : decode cX4_isThrice 40 = .ok (.iload 4, 2) := by decide +kernel
theorem dX4_isThrice_42 : decode cX4_isThrice 42 = .ok (.iload_n 1, 1) := by decide +kernel
theorem dX4_isThrice_43 : decode cX4_isThrice 43 = .ok (.if_icmp .gt 152, 3) := by decide +kernel
theorem dX4_isThrice_46 : decode cX4_isThrice 46 = .ok (.aload_n 0, 1) := by decide +kernel
theorem dX4_isThrice_47 : decode cX4_isThrice 47 = .ok (.getfield 15, 3) := by decide +kernel
theorem dX4_isThrice_50 : decode cX4_isThrice 50 = .ok (.aload_n 0, 1) := by decide +kernel
theorem dX4_isThrice_51 : decode cX4_isThrice 51 = .ok (.getfield 25, 3) := by decide +kernel
theorem dX4_isThrice_54 : decode cX4_isThrice 54 = .ok (.iload 4, 2) := by decide +kernel
theorem dX4_isThrice_56 : decode cX4_isThrice 56 = .ok (.isub, 1) := by decide +kernel
theorem dX4_isThrice_57 : decode cX4_isThrice 57 = .ok (.iaload, 1) := by decide +kernel
theorem dX4_isThrice_58 : decode cX4_isThrice 58 = .ok (.istore 5, 2) := by decide +kernel
theorem dX4_isThrice_60 : decode cX4_isThrice 60 = .ok (.aload_n 0, 1) := by decide +kernel
theorem dX4_isThrice_61 : decode cX4_isThrice 61 = .ok (.getfield 19, 3) := by decide +kernel
theorem dX4_isThrice_64 : decode cX4_isThrice 64 = .ok (.aload_n 0, 1) := by decide +kernel
theorem dX4_isThrice_65 : decode cX4_isThrice 65 = .ok (.getfield 25, 3) := by decide +kernel
theorem dX4_isThrice_68 : decode cX4_isThrice 68 = .ok (.iload 4, 2) := by decide +kernel
theorem dX4_isThrice_70 : decode cX4_isThrice 70 = .ok (.isub, 1) := by decide +kernel
theorem dX4_isThrice_71 : decode cX4_isThrice 71 = .ok (.iaload, 1) := by decide +kernel
theorem dX4_isThrice_72 : decode cX4_isThrice 72 = .ok (.istore 6, 2) := by decide +kernel
theorem dX4_isThrice_74 : decode cX4_isThrice 74 = .ok (.iload 6, 2) := by decide +kernel
theorem dX4_isThrice_76 : decode cX4_isThrice 76 = .ok (.invokestatic 92, 3) := by decide +kernel
theorem dX4_isThrice_79 : decode cX4_isThrice 79 = .ok (.aload_n 0, 1) := by decide +kernel
theorem dX4_isThrice_80 : decode cX4_isThrice 80 = .ok (.getfield 9, 3) := by decide +kernel
theorem dX4_isThrice_83 : decode cX4_isThrice 83 = .ok (.getfield 70, 3) := by decide +kernel
theorem dX4_isThrice_86 : decode cX4_isThrice 86 = .ok (.if_icmp .eq 6, 3) := by decide +kernel
theorem dX4_isThrice_89 : decode cX4_isThrice 89 = .ok (.goto 106, 3) := by decide +kernel
theorem dX4_isThrice_92 : decode cX4_isThrice 92 = .ok (.iload 5, 2) := by decide +kernel
theorem dX4_isThrice_94 : decode cX4_isThrice 94 = .ok (.invokestatic 29, 3) := by decide +kernel
theorem dX4_isThrice_97 : decode cX4_isThrice 97 = .ok (.istore 7, 2) := by decide +kernel
theorem dX4_isThrice_99 : decode cX4_isThrice 99 = .ok (.iload 5, 2) := by decide +kernel
theorem dX4_isThrice_101 : decode cX4_isThrice 101 = .ok (.invokestatic 33, 3) := by decide +kernel
theorem dX4_isThrice_104 : decode cX4_isThrice 104 = .ok (.istore 8, 2) := by decide +kernel
theorem dX4_isThrice_106 : decode cX4_isThrice 106 = .ok (.iload_n 2, 1) := by decide +kernel
theorem dX4_isThrice_107 : decode cX4_isThrice 107 = .ok (.aload_n 0, 1) := by decide +kernel
theorem dX4_isThrice_108 : decode cX4_isThrice 108 = .ok (.iload 7, 2) := by decide +kernel
theorem dX4_isThrice_110 : decode cX4_isThrice 110 = .ok (.invokevirtual 107, 3) := by decide +kernel
theorem dX4_isThrice_113 : decode cX4_isThrice 113 = .ok (.aload_n 0, 1) := by decide +kernel
theorem dX4_isThrice_114 : decode cX4_isThrice 114 = .ok (.iload 8, 2) := by decide +kernel
theorem dX4_isThrice_116 : decode cX4_isThrice 116 = .ok (.invokevirtual 107, 3) := by decide +kernel
theorem dX4_isThrice_119 : decode cX4_isThrice 119 = .ok (.iadd, 1) := by decide +kernel
theorem dX4_isThrice_120 : decode cX4_isThrice 120 = .ok (.isub, 1) := by decide +kernel
theorem dX4_isThrice_121 : decode cX4_isThrice 121 = .ok (.istore_n 2, 1) := by decide +kernel
theorem dX4_isThrice_122 : decode cX4_isThrice 122 = .ok (.aload_n 0, 1) := by decide +kernel
theorem dX4_isThrice_123 : decode cX4_isThrice 123 = .ok (.getfield 22, 3) := by decide +kernel
theorem dX4_isThrice_126 : decode cX4_isThrice 126 = .ok (.iload 7, 2) := by decide +kernel
theorem dX4_isThrice_128 : decode cX4_isThrice 128 = .ok (.aload_n 0, 1) := by decide +kernel
theorem dX4_isThrice_129 : decode cX4_isThrice 129 = .ok (.getfield 22, 3) := by decide +kernel
theorem dX4_isThrice_132 : decode cX4_isThrice 132 = .ok (.iload 8, 2) := by decide +kernel
theorem dX4_isThrice_134 : decode cX4_isThrice 134 = .ok (.iaload, 1) := by decide +kernel
theorem dX4_isThrice_135 : decode cX4_isThrice 135 = .ok (.iastore, 1) := by decide +kernel
theorem dX4_isThrice_136 : decode cX4_isThrice 136 = .ok (.aload_n 0, 1) := by decide +kernel
theorem dX4_isThrice_137 : decode cX4_isThrice 137 = .ok (.getfield 22, 3) := by decide +kernel
theorem dX4_isThrice_140 : decode cX4_isThrice 140 = .ok (.iload 8, 2) := by decide +kernel
theorem dX4_isThrice_142 : decode cX4_isThrice 142 = .ok (.iconst 0, 1) := by decide +kernel
theorem dX4_isThrice_143 : decode cX4_isThrice 143 = .ok (.iastore, 1) := by decide +kernel
theorem dX4_isThrice_144 : decode cX4_isThrice 144 = .ok (.iload_n 2, 1) := by decide +kernel
theorem dX4_isThrice_145 : decode cX4_isThrice 145 = .ok (.aload_n 0, 1) := by decide +kernel
theorem dX4_isThrice_146 : decode cX4_isThrice 146 = .ok (.iload 7, 2) := by decide +kernel
theorem dX4_isThrice_148 : decode cX4_isThrice 148 = .ok (.invokevirtual 107, 3) := by decide +kernel
theorem dX4_isThrice_151 : decode cX4_isThrice 151 = .ok (.aload_n 0, 1) := by decide +kernel
theorem dX4_isThrice_152 : decode cX4_isThrice 152 = .ok (.iload 8, 2) := by decide +kernel
theorem dX4_isThrice_154 : decode cX4_isThrice 154 = .ok (.invokevirtual 107, 3) := by decide +kernel
theorem dX4_isThrice_157 : decode cX4_isThrice 157 = .ok (.iadd, 1) := by decide +kernel
theorem dX4_isThrice_158 : decode cX4_isThrice 158 = .ok (.iadd, 1) := by decide +kernel
theorem dX4_isThrice_159 : decode cX4_isThrice 159 = .ok (.istore_n 2, 1) := by decide +kernel
theorem dX4_isThrice_160 : decode cX4_isThrice 160 = .ok (.iload_n 2, 1) := by decide +kernel
theorem dX4_isThrice_161 : decode cX4_isThrice 161 = .ok (.ifCond .ne 28, 3) := by decide +kernel
theorem dX4_isThrice_164 : decode cX4_isThrice 164 = .ok (.iload 4, 2) := by decide +kernel
theorem dX4_isThrice_166 : decode cX4_isThrice 166 = .ok (.iconst 2, 1) := by decide +kernel
theorem dX4_isThrice_167 : decode cX4_isThrice 167 = .ok (.irem, 1) := by decide +kernel
theorem dX4_isThrice_168 : decode cX4_isThrice 168 = .ok (.ifCond .ne 21, 3) := by decide +kernel
theorem dX4_isThrice_171 : decode cX4_isThrice 171 = .ok (.iload 6, 2) := by decide +kernel
theorem dX4_isThrice_173 : decode cX4_isThrice 173 = .ok (.invokestatic 95, 3) := by decide +kernel
theorem dX4_isThrice_176 : decode cX4_isThrice 176 = .ok (.aload_n 0, 1) := by decide +kernel
theorem dX4_isThrice_177 : decode cX4_isThrice 177 = .ok (.getfield 9, 3) := by decide +kernel
theorem dX4_isThrice_180 : decode cX4_isThrice 180 = .ok (.getfield 85, 3) := by decide +kernel
theorem dX4_isThrice_183 : decode cX4_isThrice 183 = .ok (.if_icmp .ne 6, 3) := by decide +kernel
theorem dX4_isThrice_186 : decode cX4_isThrice 186 = .ok (.iinc 3 1, 3) := by decide +kernel
theorem dX4_isThrice_189 : decode cX4_isThrice 189 = .ok (.iinc 4 1, 3) := by decide +kernel
theorem dX4_isThrice_192 : decode cX4_isThrice 192 = .ok (.goto (-152), 3) := by decide +kernel
theorem dX4_isThrice_195 : decode cX4_isThrice 195 = .ok (.iload_n 3, 1) := by decide +kernel
theorem dX4_isThrice_196 : decode cX4_isThrice 196 = .ok (.iconst 2, 1) := by decide +kernel
theorem dX4_isThrice_197 : decode cX4_isThrice 197 = .ok (.if_icmp .lt 7, 3) := by decide +kernel
theorem dX4_isThrice_200 : decode cX4_isThrice 200 = .ok (.iconst 1, 1) := by decide +kernel
theorem dX4_isThrice_201 : decode cX4_isThrice 201 = .ok (.goto 4, 3) := by decide +kernel
theorem dX4_isThrice_204 : decode cX4_isThrice 204 = .ok (.iconst 0, 1) := by decide +kernel
theorem dX4_isThrice_205 : decode cX4_isThrice 205 = .ok (.ireturn, 1) := by decide +kernel
theorem dX4_unlikeAt_0 : decode cX4_unlikeAt 0 = .ok (.aload_n 0, 1) := by decide +kernel
theorem dX4_unlikeAt_1 : decode cX4_unlikeAt 1 = .ok (.getfield 22, 3) := by decide +kernel
theorem dX4_unlikeAt_4 : decode cX4_unlikeAt 4 = .ok (.iload_n 1, 1) := by decide +kernel
theorem dX4_unlikeAt_5 : decode cX4_unlikeAt 5 = .ok (.iaload, 1) := by decide +kernel
theorem dX4_unlikeAt_6 : decode cX4_unlikeAt 6 = .ok (.aload_n 0, 1) := by decide +kernel
theorem dX4_unlikeAt_7 : decode cX4_unlikeAt 7 = .ok (.getfield 9, 3) := by decide +kernel
theorem dX4_unlikeAt_10 : decode cX4_unlikeAt 10 = .ok (.getfield 41, 3) := by decide +kernel
theorem dX4_unlikeAt_13 : decode cX4_unlikeAt 13 = .ok (.iload_n 1, 1) := by decide +kernel
theorem dX4_unlikeAt_14 : decode cX4_unlikeAt 14 = .ok (.iaload, 1) := by decide +kernel
theorem dX4_unlikeAt_15 : decode cX4_unlikeAt 15 = .ok (.if_icmp .ne 7, 3) := by decide +kernel
theorem dX4_unlikeAt_18 : decode cX4_unlikeAt 18 = .ok (.iconst 0, 1) := by decide +kernel
theorem dX4_unlikeAt_19 : decode cX4_unlikeAt 19 = .ok (.goto 4, 3) := by decide +kernel
theorem dX4_unlikeAt_22 : decode cX4_unlikeAt 22 = .ok (.iconst 1, 1) := by decide +kernel
theorem dX4_unlikeAt_23 : decode cX4_unlikeAt 23 = .ok (.ireturn, 1) := by decide +kernel
theorem dX5_init_0 : decode cX5_init 0 = .ok (.aload_n 0, 1) := by decide +kernel
theorem dX5_init_1 : decode cX5_init 1 = .ok (.invokespecial 3, 3) := by decide +kernel
theorem dX5_init_4 : decode cX5_init 4 = .ok (.aload_n 0, 1) := by decide +kernel
theorem dX5_init_5 : decode cX5_init 5 = .ok (.aload_n 1, 1) := by decide +kernel
theorem dX5_init_6 : decode cX5_init 6 = .ok (.putfield 9, 3) := by decide +kernel
theorem dX5_init_9 : decode cX5_init 9 = .ok (.aload_n 0, 1) := by decide +kernel
theorem dX5_init_10 : decode cX5_init 10 = .ok (.iconst (-1), 1) := by decide +kernel
theorem dX5_init_11 : decode cX5_init 11 = .ok (.putfield 15, 3) := by decide +kernel
theorem dX5_init_14 : decode cX5_init 14 = .ok (.aload_n 0, 1) := by decide +kernel
theorem dX5_init_15 : decode cX5_init 15 = .ok (.sipush 128, 3) := by decide +kernel
theorem dX5_init_18 : decode cX5_init 18 = .ok (.newarray .char, 2) := by decide +kernel
theorem dX5_init_20 : decode cX5_init 20 = .ok (.putfield 19, 3) := by decide +kernel
theorem dX5_init_23 : decode cX5_init 23 = .ok (.return_, 1) := by decide +kernel
theorem dX5_canBeTyped_0 : decode cX5_canBeTyped 0 = .ok (.iconst 0, 1) := by decide +kernel
theorem dX5_canBeTyped_1 : decode cX5_canBeTyped 1 = .ok (.istore_n 3, 1) := by decide +kernel
theorem dX5_canBeTyped_2 : decode cX5_canBeTyped 2 = .ok (.iload_n 3, 1) := by decide +kernel
theorem dX5_canBeTyped_3 : decode cX5_canBeTyped 3 = .ok (.iload_n 2, 1) := by decide +kernel
theorem dX5_canBeTyped_4 : decode cX5_canBeTyped 4 = .ok (.if_icmp .ge 32, 3) := by decide +kernel
theorem dX5_canBeTyped_7 : decode cX5_canBeTyped 7 = .ok (.lload_n 0, 1) := by decide +kernel
theorem dX5_canBeTyped_8 : decode cX5_canBeTyped 8 = .ok (.iload_n 3, 1) := by decide +kernel
theorem dX5_canBeTyped_9 : decode cX5_canBeTyped 9 = .ok (.invokestatic 23, 3) := by decide +kernel
theorem dX5_canBeTyped_12 : decode cX5_canBeTyped 12 = .ok (.istore 4, 2) := by decide +kernel
theorem dX5_canBeTyped_14 : decode cX5_canBeTyped 14 = .ok (.iload 4, 2) := by decide +kernel
theorem dX5_canBeTyped_16 : decode cX5_canBeTyped 16 = .ok (.bipush 32, 2) := by decide +kernel
theorem dX5_canBeTyped_18 : decode cX5_canBeTyped 18 = .ok (.if_icmp .lt 10, 3) := by decide +kernel
theorem dX5_canBeTyped_21 : decode cX5_canBeTyped 21 = .ok (.iload 4, 2) := by decide +kernel
theorem dX5_canBeTyped_23 : decode cX5_canBeTyped 23 = .ok (.bipush 126, 2) := by decide +kernel
theorem dX5_canBeTyped_25 : decode cX5_canBeTyped 25 = .ok (.if_icmp .le 5, 3) := by decide +kernel
theorem dX5_canBeTyped_28 : decode cX5_canBeTyped 28 = .ok (.iconst 0, 1) := by decide +kernel
theorem dX5_canBeTyped_29 : decode cX5_canBeTyped 29 = .ok (.ireturn, 1) := by decide +kernel
theorem dX5_canBeTyped_30 : decode cX5_canBeTyped 30 = .ok (.iinc 3 1, 3) := by decide +kernel
theorem dX5_canBeTyped_33 : decode cX5_canBeTyped 33 = .ok (.goto (-31), 3) := by decide +kernel
theorem dX5_canBeTyped_36 : decode cX5_canBeTyped 36 = .ok (.iconst 1, 1) := by decide +kernel
theorem dX5_canBeTyped_37 : decode cX5_canBeTyped 37 = .ok (.ireturn, 1) := by decide +kernel
theorem dX5_byteOf_0 : decode cX5_byteOf 0 = .ok (.lload_n 0, 1) := by decide +kernel
theorem dX5_byteOf_1 : decode cX5_byteOf 1 = .ok (.bipush 8, 2) := by decide +kernel
theorem dX5_byteOf_3 : decode cX5_byteOf 3 = .ok (.iload_n 2, 1) := by decide +kernel
theorem dX5_byteOf_4 : decode cX5_byteOf 4 = .ok (.imul, 1) := by decide +kernel
theorem dX5_byteOf_5 : decode cX5_byteOf 5 = .ok (.lushr, 1) := by decide +kernel
theorem dX5_byteOf_6 : decode cX5_byteOf 6 = .ok (.ldc2_w 27, 3) := by decide +kernel
theorem dX5_byteOf_9 : decode cX5_byteOf 9 = .ok (.land, 1) := by decide +kernel
theorem dX5_byteOf_10 : decode cX5_byteOf 10 = .ok (.l2i, 1) := by decide +kernel
theorem dX5_byteOf_11 : decode cX5_byteOf 11 = .ok (.ireturn, 1) := by decide +kernel
theorem dX5_hasRoomFor_0 : decode cX5_hasRoomFor 0 = .ok (.aload_n 0, 1) := by decide +kernel
theorem dX5_hasRoomFor_1 : decode cX5_hasRoomFor 1 = .ok (.getfield 29, 3) := by decide +kernel
theorem dX5_hasRoomFor_4 : decode cX5_hasRoomFor 4 = .ok (.iload_n 1, 1) := by decide +kernel
theorem dX5_hasRoomFor_5 : decode cX5_hasRoomFor 5 = .ok (.iadd, 1) := by decide +kernel
theorem dX5_hasRoomFor_6 : decode cX5_hasRoomFor 6 = .ok (.sipush 128, 3) := by decide +kernel
theorem dX5_hasRoomFor_9 : decode cX5_hasRoomFor 9 = .ok (.if_icmp .gt 7, 3) := by decide +kernel
theorem dX5_hasRoomFor_12 : decode cX5_hasRoomFor 12 = .ok (.iconst 1, 1) := by decide +kernel
theorem dX5_hasRoomFor_13 : decode cX5_hasRoomFor 13 = .ok (.goto 4, 3) := by decide +kernel
theorem dX5_hasRoomFor_16 : decode cX5_hasRoomFor 16 = .ok (.iconst 0, 1) := by decide +kernel
theorem dX5_hasRoomFor_17 : decode cX5_hasRoomFor 17 = .ok (.ireturn, 1) := by decide +kernel
theorem dX5_add_0 : decode cX5_add 0 = .ok (.iconst 0, 1) := by decide +kernel
theorem dX5_add_1 : decode cX5_add 1 = .ok (.istore 4, 2) := by decide +kernel
theorem dX5_add_3 : decode cX5_add 3 = .ok (.iload 4, 2) := by decide +kernel
theorem dX5_add_5 : decode cX5_add 5 = .ok (.iload_n 3, 1) := by decide +kernel
theorem dX5_add_6 : decode cX5_add 6 = .ok (.if_icmp .ge 35, 3) := by decide +kernel
theorem dX5_add_9 : decode cX5_add 9 = .ok (.aload_n 0, 1) := by decide +kernel
theorem dX5_add_10 : decode cX5_add 10 = .ok (.getfield 19, 3) := by decide +kernel
theorem dX5_add_13 : decode cX5_add 13 = .ok (.aload_n 0, 1) := by decide +kernel
theorem dX5_add_14 : decode cX5_add 14 = .ok (.getfield 29, 3) := by decide +kernel
theorem dX5_add_17 : decode cX5_add 17 = .ok (.lload_n 1, 1) := by decide +kernel
theorem dX5_add_18 : decode cX5_add 18 = .ok (.iload 4, 2) := by decide +kernel
theorem dX5_add_20 : decode cX5_add 20 = .ok (.invokestatic 23, 3) := by decide +kernel
theorem dX5_add_23 : decode cX5_add 23 = .ok (.i2c, 1) := by decide +kernel
theorem dX5_add_24 : decode cX5_add 24 = .ok (.castore, 1) := by decide +kernel
theorem dX5_add_25 : decode cX5_add 25 = .ok (.aload_n 0, 1) := by decide +kernel
theorem dX5_add_26 : decode cX5_add 26 = .ok (.dup, 1) := by decide +kernel
theorem dX5_add_27 : decode cX5_add 27 = .ok (.getfield 29, 3) := by decide +kernel
theorem dX5_add_30 : decode cX5_add 30 = .ok (.iconst 1, 1) := by decide +kernel
theorem dX5_add_31 : decode cX5_add 31 = .ok (.iadd, 1) := by decide +kernel
theorem dX5_add_32 : decode cX5_add 32 = .ok (.putfield 29, 3) := by decide +kernel
theorem dX5_add_35 : decode cX5_add 35 = .ok (.iinc 4 1, 3) := by decide +kernel
theorem dX5_add_38 : decode cX5_add 38 = .ok (.goto (-35), 3) := by decide +kernel
theorem dX5_add_41 : decode cX5_add 41 = .ok (.aload_n 0, 1) := by decide +kernel
theorem dX5_add_42 : decode cX5_add 42 = .ok (.getfield 29, 3) := by decide +kernel
theorem dX5_add_45 : decode cX5_add 45 = .ok (.ireturn, 1) := by decide +kernel
theorem dX5_useUp_0 : decode cX5_useUp 0 = .ok (.aload_n 0, 1) := by decide +kernel
theorem dX5_useUp_1 : decode cX5_useUp 1 = .ok (.getfield 9, 3) := by decide +kernel
theorem dX5_useUp_4 : decode cX5_useUp 4 = .ok (.invokevirtual 32, 3) := by decide +kernel
theorem dX5_useUp_7 : decode cX5_useUp 7 = .ok (.aload_n 0, 1) := by decide +kernel
theorem dX5_useUp_8 : decode cX5_useUp 8 = .ok (.iconst 0, 1) := by decide +kernel
theorem dX5_useUp_9 : decode cX5_useUp 9 = .ok (.putfield 37, 3) := by decide +kernel
theorem dX5_useUp_12 : decode cX5_useUp 12 = .ok (.aload_n 0, 1) := by decide +kernel
theorem dX5_useUp_13 : decode cX5_useUp 13 = .ok (.invokevirtual 40, 3) := by decide +kernel
theorem dX5_useUp_16 : decode cX5_useUp 16 = .ok (.istore_n 1, 1) := by decide +kernel
theorem dX5_useUp_17 : decode cX5_useUp 17 = .ok (.aload_n 0, 1) := by decide +kernel
theorem dX5_useUp_18 : decode cX5_useUp 18 = .ok (.iload_n 1, 1) := by decide +kernel
theorem dX5_useUp_19 : decode cX5_useUp 19 = .ok (.ifCond .eq 7, 3) := by decide +kernel
theorem dX5_useUp_22 : decode cX5_useUp 22 = .ok (.iconst (-1), 1) := by decide +kernel
theorem dX5_useUp_23 : decode cX5_useUp 23 = .ok (.goto 7, 3) := by decide +kernel
theorem dX5_useUp_26 : decode cX5_useUp 26 = .ok (.aload_n 0, 1) := by decide +kernel
theorem dX5_useUp_27 : decode cX5_useUp 27 = .ok (.getfield 37, 3) := by decide +kernel
theorem dX5_useUp_30 : decode cX5_useUp 30 = .ok (.putfield 15, 3) := by decide +kernel
theorem dX5_useUp_33 : decode cX5_useUp 33 = .ok (.aload_n 0, 1) := by decide +kernel
theorem dX5_useUp_34 : decode cX5_useUp 34 = .ok (.iconst 0, 1) := by decide +kernel
theorem dX5_useUp_35 : decode cX5_useUp 35 = .ok (.putfield 29, 3) := by decide +kernel
theorem dX5_useUp_38 : decode cX5_useUp 38 = .ok (.iload_n 1, 1) := by decide +kernel
theorem dX5_useUp_39 : decode cX5_useUp 39 = .ok (.ifCond .ne 5, 3) := by decide +kernel
theorem dX5_useUp_42 : decode cX5_useUp 42 = .ok (.iconst 1, 1) := by decide +kernel
theorem dX5_useUp_43 : decode cX5_useUp 43 = .ok (.ireturn, 1) := by decide +kernel
theorem dX5_useUp_44 : decode cX5_useUp 44 = .ok (.aload_n 0, 1) := by decide +kernel
theorem dX5_useUp_45 : decode cX5_useUp 45 = .ok (.getfield 9, 3) := by decide +kernel
theorem dX5_useUp_48 : decode cX5_useUp 48 = .ok (.invokestatic 44, 3) := by decide +kernel
theorem dX5_useUp_51 : decode cX5_useUp 51 = .ok (.istore_n 2, 1) := by decide +kernel
theorem dX5_useUp_52 : decode cX5_useUp 52 = .ok (.iload_n 2, 1) := by decide +kernel
theorem dX5_useUp_53 : decode cX5_useUp 53 = .ok (.ifCond .ne 23, 3) := by decide +kernel
theorem dX5_useUp_56 : decode cX5_useUp 56 = .ok (.aload_n 0, 1) := by decide +kernel
theorem dX5_useUp_57 : decode cX5_useUp 57 = .ok (.getfield 9, 3) := by decide +kernel
theorem dX5_useUp_60 : decode cX5_useUp 60 = .ok (.invokevirtual 50, 3) := by decide +kernel
theorem dX5_useUp_63 : decode cX5_useUp 63 = .ok (.lconst 0, 1) := by decide +kernel
theorem dX5_useUp_64 : decode cX5_useUp 64 = .ok (.lcmp, 1) := by decide +kernel
theorem dX5_useUp_65 : decode cX5_useUp 65 = .ok (.ifCond .ne 11, 3) := by decide +kernel
theorem dX5_useUp_68 : decode cX5_useUp 68 = .ok (.aload_n 0, 1) := by decide +kernel
theorem dX5_useUp_69 : decode cX5_useUp 69 = .ok (.getfield 9, 3) := by decide +kernel
theorem dX5_useUp_72 : decode cX5_useUp 72 = .ok (.iconst (-1), 1) := by decide +kernel
theorem dX5_useUp_73 : decode cX5_useUp 73 = .ok (.putfield 54, 3) := by decide +kernel
theorem dX5_useUp_76 : decode cX5_useUp 76 = .ok (.iload_n 2, 1) := by decide +kernel
theorem dX5_useUp_77 : decode cX5_useUp 77 = .ok (.ireturn, 1) := by decide +kernel
theorem dX5_readAll_0 : decode cX5_readAll 0 = .ok (.aload_n 0, 1) := by decide +kernel
theorem dX5_readAll_1 : decode cX5_readAll 1 = .ok (.invokevirtual 57, 3) := by decide +kernel
theorem dX5_readAll_4 : decode cX5_readAll 4 = .ok (.ifCond .eq 95, 3) := by decide +kernel
theorem dX5_readAll_7 : decode cX5_readAll 7 = .ok (.aload_n 0, 1) := by decide +kernel
theorem dX5_readAll_8 : decode cX5_readAll 8 = .ok (.bipush 32, 2) := by decide +kernel
theorem dX5_readAll_10 : decode cX5_readAll 10 = .ok (.invokevirtual 60, 3) := by decide +kernel
theorem dX5_readAll_13 : decode cX5_readAll 13 = .ok (.ifCond .eq 86, 3) := by decide +kernel
theorem dX5_readAll_16 : decode cX5_readAll 16 = .ok (.aload_n 0, 1) := by decide +kernel
theorem dX5_readAll_17 : decode cX5_readAll 17 = .ok (.invokevirtual 64, 3) := by decide +kernel
theorem dX5_readAll_20 : decode cX5_readAll 20 = .ok (.ifCond .eq 79, 3) := by decide +kernel
theorem dX5_readAll_23 : decode cX5_readAll 23 = .ok (.aload_n 0, 1) := by decide +kernel
theorem dX5_readAll_24 : decode cX5_readAll 24 = .ok (.bipush 32, 2) := by decide +kernel
theorem dX5_readAll_26 : decode cX5_readAll 26 = .ok (.invokevirtual 60, 3) := by decide +kernel
theorem dX5_readAll_29 : decode cX5_readAll 29 = .ok (.ifCond .eq 70, 3) := by decide +kernel
theorem dX5_readAll_32 : decode cX5_readAll 32 = .ok (.aload_n 0, 1) := by decide +kernel
theorem dX5_readAll_33 : decode cX5_readAll 33 = .ok (.invokevirtual 67, 3) := by decide +kernel
theorem dX5_readAll_36 : decode cX5_readAll 36 = .ok (.ifCond .eq 63, 3) := by decide +kernel
theorem dX5_readAll_39 : decode cX5_readAll 39 = .ok (.aload_n 0, 1) := by decide +kernel
theorem dX5_readAll_40 : decode cX5_readAll 40 = .ok (.bipush 32, 2) := by decide +kernel
theorem dX5_readAll_42 : decode cX5_readAll 42 = .ok (.invokevirtual 60, 3) := by decide +kernel
theorem dX5_readAll_45 : decode cX5_readAll 45 = .ok (.ifCond .eq 54, 3) := by decide +kernel
theorem dX5_readAll_48 : decode cX5_readAll 48 = .ok (.aload_n 0, 1) := by decide +kernel
theorem dX5_readAll_49 : decode cX5_readAll 49 = .ok (.invokevirtual 70, 3) := by decide +kernel
theorem dX5_readAll_52 : decode cX5_readAll 52 = .ok (.ifCond .eq 47, 3) := by decide +kernel
theorem dX5_readAll_55 : decode cX5_readAll 55 = .ok (.aload_n 0, 1) := by decide +kernel
theorem dX5_readAll_56 : decode cX5_readAll 56 = .ok (.bipush 32, 2) := by decide +kernel
theorem dX5_readAll_58 : decode cX5_readAll 58 = .ok (.invokevirtual 60, 3) := by decide +kernel
theorem dX5_readAll_61 : decode cX5_readAll 61 = .ok (.ifCond .eq 38, 3) := by decide +kernel
theorem dX5_readAll_64 : decode cX5_readAll 64 = .ok (.aload_n 0, 1) := by decide +kernel
theorem dX5_readAll_65 : decode cX5_readAll 65 = .ok (.invokevirtual 73, 3) := by decide +kernel
theorem dX5_readAll_68 : decode cX5_readAll 68 = .ok (.ifCond .eq 31, 3) := by decide +kernel
theorem dX5_readAll_71 : decode cX5_readAll 71 = .ok (.aload_n 0, 1) := by decide +kernel
theorem dX5_readAll_72 : decode cX5_readAll 72 = .ok (.bipush 32, 2) := by decide +kernel
theorem dX5_readAll_74 : decode cX5_readAll 74 = .ok (.invokevirtual 60, 3) := by decide +kernel
theorem dX5_readAll_77 : decode cX5_readAll 77 = .ok (.ifCond .eq 22, 3) := by decide +kernel
theorem dX5_readAll_80 : decode cX5_readAll 80 = .ok (.aload_n 0, 1) := by decide +kernel
theorem dX5_readAll_81 : decode cX5_readAll 81 = .ok (.invokevirtual 76, 3) := by decide +kernel
theorem dX5_readAll_84 : decode cX5_readAll 84 = .ok (.ifCond .eq 15, 3) := by decide +kernel
theorem dX5_readAll_87 : decode cX5_readAll 87 = .ok (.aload_n 0, 1) := by decide +kernel
theorem dX5_readAll_88 : decode cX5_readAll 88 = .ok (.invokevirtual 79, 3) := by decide +kernel
theorem dX5_readAll_91 : decode cX5_readAll 91 = .ok (.iconst (-1), 1) := by decide +kernel
theorem dX5_readAll_92 : decode cX5_readAll 92 = .ok (.if_icmp .ne 7, 3) := by decide +kernel
theorem dX5_readAll_95 : decode cX5_readAll 95 = .ok (.iconst 1, 1) := by decide +kernel
theorem dX5_readAll_96 : decode cX5_readAll 96 = .ok (.goto 4, 3) := by decide +kernel
theorem dX5_readAll_99 : decode cX5_readAll 99 = .ok (.iconst 0, 1) := by decide +kernel
theorem dX5_readAll_100 : decode cX5_readAll 100 = .ok (.ireturn, 1) := by decide +kernel
theorem dX5_next_0 : decode cX5_next 0 = .ok (.aload_n 0, 1) := by decide +kernel
theorem dX5_next_1 : decode cX5_next 1 = .ok (.getfield 37, 3) := by decide +kernel
theorem dX5_next_4 : decode cX5_next 4 = .ok (.aload_n 0, 1) := by decide +kernel
theorem dX5_next_5 : decode cX5_next 5 = .ok (.getfield 29, 3) := by decide +kernel
theorem dX5_next_8 : decode cX5_next 8 = .ok (.if_icmp .ge 15, 3) := by decide +kernel
theorem dX5_next_11 : decode cX5_next 11 = .ok (.aload_n 0, 1) := by decide +kernel
theorem dX5_next_12 : decode cX5_next 12 = .ok (.getfield 19, 3) := by decide +kernel
theorem dX5_next_15 : decode cX5_next 15 = .ok (.aload_n 0, 1) := by decide +kernel
theorem dX5_next_16 : decode cX5_next 16 = .ok (.getfield 37, 3) := by decide +kernel
theorem dX5_next_19 : decode cX5_next 19 = .ok (.caload, 1) := by decide +kernel
theorem dX5_next_20 : decode cX5_next 20 = .ok (.goto 4, 3) := by decide +kernel
theorem dX5_next_23 : decode cX5_next 23 = .ok (.iconst (-1), 1) := by decide +kernel
theorem dX5_next_24 : decode cX5_next 24 = .ok (.ireturn, 1) := by decide +kernel
theorem dX5_skip_0 : decode cX5_skip 0 = .ok (.aload_n 0, 1) := by decide +kernel
theorem dX5_skip_1 : decode cX5_skip 1 = .ok (.invokevirtual 79, 3) := by decide +kernel
theorem dX5_skip_4 : decode cX5_skip 4 = .ok (.iload_n 1, 1) := by decide +kernel
theorem dX5_skip_5 : decode cX5_skip 5 = .ok (.if_icmp .eq 5, 3) := by decide +kernel
theorem dX5_skip_8 : decode cX5_skip 8 = .ok (.iconst 0, 1) := by decide +kernel
theorem dX5_skip_9 : decode cX5_skip 9 = .ok (.ireturn, 1) := by decide +kernel
theorem dX5_skip_10 : decode cX5_skip 10 = .ok (.aload_n 0, 1) := by decide +kernel
theorem dX5_skip_11 : decode cX5_skip 11 = .ok (.dup, 1) := by decide +kernel
theorem dX5_skip_12 : decode cX5_skip 12 = .ok (.getfield 37, 3) := by decide +kernel
theorem dX5_skip_15 : decode cX5_skip 15 = .ok (.iconst 1, 1) := by decide +kernel
theorem dX5_skip_16 : decode cX5_skip 16 = .ok (.iadd, 1) := by decide +kernel
theorem dX5_skip_17 : decode cX5_skip 17 = .ok (.putfield 37, 3) := by decide +kernel
theorem dX5_skip_20 : decode cX5_skip 20 = .ok (.iconst 1, 1) := by decide +kernel
theorem dX5_skip_21 : decode cX5_skip 21 = .ok (.ireturn, 1) := by decide +kernel
theorem dX5_readMen_0 : decode cX5_readMen 0 = .ok (.bipush 7, 2) := by decide +kernel
theorem dX5_readMen_2 : decode cX5_readMen 2 = .ok (.istore_n 1, 1) := by decide +kernel
theorem dX5_readMen_3 : decode cX5_readMen 3 = .ok (.iload_n 1, 1) := by decide +kernel
theorem dX5_readMen_4 : decode cX5_readMen 4 = .ok (.ifCond .lt 34, 3) := by decide +kernel
theorem dX5_readMen_7 : decode cX5_readMen 7 = .ok (.iload_n 1, 1) := by decide +kernel
theorem dX5_readMen_8 : decode cX5_readMen 8 = .ok (.bipush 7, 2) := by decide +kernel
theorem dX5_readMen_10 : decode cX5_readMen 10 = .ok (.if_icmp .ge 12, 3) := by decide +kernel
theorem dX5_readMen_13 : decode cX5_readMen 13 = .ok (.aload_n 0, 1) := by decide +kernel
theorem dX5_readMen_14 : decode cX5_readMen 14 = .ok (.bipush 47, 2) := by decide +kernel
theorem dX5_readMen_16 : decode cX5_readMen 16 = .ok (.invokevirtual 60, 3) := by decide +kernel
theorem dX5_readMen_19 : decode cX5_readMen 19 = .ok (.ifCond .eq 11, 3) := by decide +kernel
theorem dX5_readMen_22 : decode cX5_readMen 22 = .ok (.aload_n 0, 1) := by decide +kernel
theorem dX5_readMen_23 : decode cX5_readMen 23 = .ok (.iload_n 1, 1) := by decide +kernel
theorem dX5_readMen_24 : decode cX5_readMen 24 = .ok (.invokevirtual 83, 3) := by decide +kernel
theorem dX5_readMen_27 : decode cX5_readMen 27 = .ok (.ifCond .ne 5, 3) := by decide +kernel
theorem dX5_readMen_30 : decode cX5_readMen 30 = .ok (.iconst 0, 1) := by decide +kernel
theorem dX5_readMen_31 : decode cX5_readMen 31 = .ok (.ireturn, 1) := by decide +kernel
theorem dX5_readMen_32 : decode cX5_readMen 32 = .ok (.iinc 1 (-1), 3) := by decide +kernel
theorem dX5_readMen_35 : decode cX5_readMen 35 = .ok (.goto (-32), 3) := by decide +kernel
theorem dX5_readMen_38 : decode cX5_readMen 38 = .ok (.iconst 1, 1) := by decide +kernel
theorem dX5_readMen_39 : decode cX5_readMen 39 = .ok (.ireturn, 1) := by decide +kernel
theorem dX5_readRow_0 : decode cX5_readRow 0 = .ok (.iconst 0, 1) := by decide +kernel
theorem dX5_readRow_1 : decode cX5_readRow 1 = .ok (.istore_n 2, 1) := by decide +kernel
theorem dX5_readRow_2 : decode cX5_readRow 2 = .ok (.iconst 0, 1) := by decide +kernel
theorem dX5_readRow_3 : decode cX5_readRow 3 = .ok (.istore_n 3, 1) := by decide +kernel
theorem dX5_readRow_4 : decode cX5_readRow 4 = .ok (.iload_n 3, 1) := by decide +kernel
theorem dX5_readRow_5 : decode cX5_readRow 5 = .ok (.bipush 8, 2) := by decide +kernel
theorem dX5_readRow_7 : decode cX5_readRow 7 = .ok (.if_icmp .ge 100, 3) := by decide +kernel
theorem dX5_readRow_10 : decode cX5_readRow 10 = .ok (.aload_n 0, 1) := by decide +kernel
theorem dX5_readRow_11 : decode cX5_readRow 11 = .ok (.invokevirtual 79, 3) := by decide +kernel
theorem dX5_readRow_14 : decode cX5_readRow 14 = .ok (.bipush 48, 2) := by decide +kernel
theorem dX5_readRow_16 : decode cX5_readRow 16 = .ok (.isub, 1) := by decide +kernel
theorem dX5_readRow_17 : decode cX5_readRow 17 = .ok (.istore 4, 2) := by decide +kernel
theorem dX5_readRow_19 : decode cX5_readRow 19 = .ok (.aload_n 0, 1) := by decide +kernel
theorem dX5_readRow_20 : decode cX5_readRow 20 = .ok (.invokevirtual 79, 3) := by decide +kernel
theorem dX5_readRow_23 : decode cX5_readRow 23 = .ok (.invokestatic 87, 3) := by decide +kernel
theorem dX5_readRow_26 : decode cX5_readRow 26 = .ok (.istore 5, 2) := by decide +kernel
theorem dX5_readRow_28 : decode cX5_readRow 28 = .ok (.iload 5, 2) := by decide +kernel
theorem dX5_readRow_30 : decode cX5_readRow 30 = .ok (.ifCond .eq 24, 3) := by decide +kernel
theorem dX5_readRow_33 : decode cX5_readRow 33 = .ok (.aload_n 0, 1) := by decide +kernel
theorem dX5_readRow_34 : decode cX5_readRow 34 = .ok (.getfield 9, 3) := by decide +kernel
theorem dX5_readRow_37 : decode cX5_readRow 37 = .ok (.bipush 8, 2) := by decide +kernel
theorem dX5_readRow_39 : decode cX5_readRow 39 = .ok (.iload_n 1, 1) := by decide +kernel
theorem dX5_readRow_40 : decode cX5_readRow 40 = .ok (.imul, 1) := by decide +kernel
theorem dX5_readRow_41 : decode cX5_readRow 41 = .ok (.iload_n 3, 1) := by decide +kernel
theorem dX5_readRow_42 : decode cX5_readRow 42 = .ok (.iadd, 1) := by decide +kernel
theorem dX5_readRow_43 : decode cX5_readRow 43 = .ok (.iload 5, 2) := by decide +kernel
theorem dX5_readRow_45 : decode cX5_readRow 45 = .ok (.invokevirtual 91, 3) := by decide +kernel
theorem dX5_readRow_48 : decode cX5_readRow 48 = .ok (.iinc 3 1, 3) := by decide +kernel
theorem dX5_readRow_51 : decode cX5_readRow 51 = .ok (.goto 32, 3) := by decide +kernel
theorem dX5_readRow_54 : decode cX5_readRow 54 = .ok (.iload 4, 2) := by decide +kernel
theorem dX5_readRow_56 : decode cX5_readRow 56 = .ok (.iconst 1, 1) := by decide +kernel
theorem dX5_readRow_57 : decode cX5_readRow 57 = .ok (.if_icmp .lt 24, 3) := by decide +kernel
theorem dX5_readRow_60 : decode cX5_readRow 60 = .ok (.iload 4, 2) := by decide +kernel
theorem dX5_readRow_62 : decode cX5_readRow 62 = .ok (.bipush 8, 2) := by decide +kernel
theorem dX5_readRow_64 : decode cX5_readRow 64 = .ok (.iload_n 3, 1) := by decide +kernel
theorem dX5_readRow_65 : decode cX5_readRow 65 = .ok (.isub, 1) := by decide +kernel
theorem dX5_readRow_66 : decode cX5_readRow 66 = .ok (.if_icmp .gt 15, 3) := by decide +kernel
theorem dX5_readRow_69 : decode cX5_readRow 69 = .ok (.iload_n 2, 1) := by decide +kernel
theorem dX5_readRow_70 : decode cX5_readRow 70 = .ok (.ifCond .ne 11, 3) := by decide +kernel
theorem dX5_readRow_73 : decode cX5_readRow 73 = .ok (.iload_n 3, 1) := by decide +kernel
theorem dX5_readRow_74 : decode cX5_readRow 74 = .ok (.iload 4, 2) := by decide +kernel
theorem dX5_readRow_76 : decode cX5_readRow 76 = .ok (.iadd, 1) := by decide +kernel
theorem dX5_readRow_77 : decode cX5_readRow 77 = .ok (.istore_n 3, 1) := by decide +kernel
theorem dX5_readRow_78 : decode cX5_readRow 78 = .ok (.goto 5, 3) := by decide +kernel
theorem dX5_readRow_81 : decode cX5_readRow 81 = .ok (.iconst 0, 1) := by decide +kernel
theorem dX5_readRow_82 : decode cX5_readRow 82 = .ok (.ireturn, 1) := by decide +kernel
theorem dX5_readRow_83 : decode cX5_readRow 83 = .ok (.iload 5, 2) := by decide +kernel
theorem dX5_readRow_85 : decode cX5_readRow 85 = .ok (.ifCond .ne 7, 3) := by decide +kernel
theorem dX5_readRow_88 : decode cX5_readRow 88 = .ok (.iconst 1, 1) := by decide +kernel
theorem dX5_readRow_89 : decode cX5_readRow 89 = .ok (.goto 4, 3) := by decide +kernel
theorem dX5_readRow_92 : decode cX5_readRow 92 = .ok (.iconst 0, 1) := by decide +kernel
theorem dX5_readRow_93 : decode cX5_readRow 93 = .ok (.istore_n 2, 1) := by decide +kernel
theorem dX5_readRow_94 : decode cX5_readRow 94 = .ok (.aload_n 0, 1) := by decide +kernel
theorem dX5_readRow_95 : decode cX5_readRow 95 = .ok (.dup, 1) := by decide +kernel
theorem dX5_readRow_96 : decode cX5_readRow 96 = .ok (.getfield 37, 3) := by decide +kernel
theorem dX5_readRow_99 : decode cX5_readRow 99 = .ok (.iconst 1, 1) := by decide +kernel
theorem dX5_readRow_100 : decode cX5_readRow 100 = .ok (.iadd, 1) := by decide +kernel
theorem dX5_readRow_101 : decode cX5_readRow 101 = .ok (.putfield 37, 3) := by decide +kernel
theorem dX5_readRow_104 : decode cX5_readRow 104 = .ok (.goto (-100), 3) := by decide +kernel
theorem dX5_readRow_107 : decode cX5_readRow 107 = .ok (.iconst 1, 1) := by decide +kernel
theorem dX5_readRow_108 : decode cX5_readRow 108 = .ok (.ireturn, 1) := by decide +kernel
theorem dX5_manOf_0 : decode cX5_manOf 0 = .ok (.iload_n 0, 1) := by decide +kernel
theorem dX5_manOf_1 : decode cX5_manOf 1 = .ok (.iconst (-1), 1) := by decide +kernel
theorem dX5_manOf_2 : decode cX5_manOf 2 = .ok (.if_icmp .ne 7, 3) := by decide +kernel
theorem dX5_manOf_5 : decode cX5_manOf 5 = .ok (.iconst (-1), 1) := by decide +kernel
theorem dX5_manOf_6 : decode cX5_manOf 6 = .ok (.goto 10, 3) := by decide +kernel
theorem dX5_manOf_9 : decode cX5_manOf 9 = .ok (.ldc 95, 2) := by decide +kernel
theorem dX5_manOf_11 : decode cX5_manOf 11 = .ok (.iload_n 0, 1) := by decide +kernel
theorem dX5_manOf_12 : decode cX5_manOf 12 = .ok (.i2c, 1) := by decide +kernel
theorem dX5_manOf_13 : decode cX5_manOf 13 = .ok (.invokevirtual 97, 3) := by decide +kernel
theorem dX5_manOf_16 : decode cX5_manOf 16 = .ok (.istore_n 1, 1) := by decide +kernel
theorem dX5_manOf_17 : decode cX5_manOf 17 = .ok (.iload_n 1, 1) := by decide +kernel
theorem dX5_manOf_18 : decode cX5_manOf 18 = .ok (.bipush 6, 2) := by decide +kernel
theorem dX5_manOf_20 : decode cX5_manOf 20 = .ok (.if_icmp .ge 9, 3) := by decide +kernel
theorem dX5_manOf_23 : decode cX5_manOf 23 = .ok (.iload_n 1, 1) := by decide +kernel
theorem dX5_manOf_24 : decode cX5_manOf 24 = .ok (.iconst 1, 1) := by decide +kernel
theorem dX5_manOf_25 : decode cX5_manOf 25 = .ok (.iadd, 1) := by decide +kernel
theorem dX5_manOf_26 : decode cX5_manOf 26 = .ok (.goto 6, 3) := by decide +kernel
theorem dX5_manOf_29 : decode cX5_manOf 29 = .ok (.iconst 5, 1) := by decide +kernel
theorem dX5_manOf_30 : decode cX5_manOf 30 = .ok (.iload_n 1, 1) := by decide +kernel
theorem dX5_manOf_31 : decode cX5_manOf 31 = .ok (.isub, 1) := by decide +kernel
theorem dX5_manOf_32 : decode cX5_manOf 32 = .ok (.ireturn, 1) := by decide +kernel
theorem dX5_readMover_0 : decode cX5_readMover 0 = .ok (.aload_n 0, 1) := by decide +kernel
theorem dX5_readMover_1 : decode cX5_readMover 1 = .ok (.bipush 119, 2) := by decide +kernel
theorem dX5_readMover_3 : decode cX5_readMover 3 = .ok (.invokevirtual 60, 3) := by decide +kernel
theorem dX5_readMover_6 : decode cX5_readMover 6 = .ok (.ifCond .eq 5, 3) := by decide +kernel
theorem dX5_readMover_9 : decode cX5_readMover 9 = .ok (.iconst 1, 1) := by decide +kernel
theorem dX5_readMover_10 : decode cX5_readMover 10 = .ok (.ireturn, 1) := by decide +kernel
theorem dX5_readMover_11 : decode cX5_readMover 11 = .ok (.aload_n 0, 1) := by decide +kernel
theorem dX5_readMover_12 : decode cX5_readMover 12 = .ok (.getfield 9, 3) := by decide +kernel
theorem dX5_readMover_15 : decode cX5_readMover 15 = .ok (.iconst 1, 1) := by decide +kernel
theorem dX5_readMover_16 : decode cX5_readMover 16 = .ok (.putfield 102, 3) := by decide +kernel
theorem dX5_readMover_19 : decode cX5_readMover 19 = .ok (.aload_n 0, 1) := by decide +kernel
theorem dX5_readMover_20 : decode cX5_readMover 20 = .ok (.bipush 98, 2) := by decide +kernel
theorem dX5_readMover_22 : decode cX5_readMover 22 = .ok (.invokevirtual 60, 3) := by decide +kernel
theorem dX5_readMover_25 : decode cX5_readMover 25 = .ok (.ireturn, 1) := by decide +kernel
theorem dX5_readRights_0 : decode cX5_readRights 0 = .ok (.aload_n 0, 1) := by decide +kernel
theorem dX5_readRights_1 : decode cX5_readRights 1 = .ok (.bipush 45, 2) := by decide +kernel
theorem dX5_readRights_3 : decode cX5_readRights 3 = .ok (.invokevirtual 60, 3) := by decide +kernel
theorem dX5_readRights_6 : decode cX5_readRights 6 = .ok (.ifCond .eq 5, 3) := by decide +kernel
theorem dX5_readRights_9 : decode cX5_readRights 9 = .ok (.iconst 1, 1) := by decide +kernel
theorem dX5_readRights_10 : decode cX5_readRights 10 = .ok (.ireturn, 1) := by decide +kernel
theorem dX5_readRights_11 : decode cX5_readRights 11 = .ok (.iconst 0, 1) := by decide +kernel
theorem dX5_readRights_12 : decode cX5_readRights 12 = .ok (.istore_n 1, 1) := by decide +kernel
theorem dX5_readRights_13 : decode cX5_readRights 13 = .ok (.iload_n 1, 1) := by decide +kernel
theorem dX5_readRights_14 : decode cX5_readRights 14 = .ok (.iconst 4, 1) := by decide +kernel
theorem dX5_readRights_15 : decode cX5_readRights 15 = .ok (.if_icmp .ge 37, 3) := by decide +kernel
theorem dX5_readRights_18 : decode cX5_readRights 18 = .ok (.aload_n 0, 1) := by decide +kernel
theorem dX5_readRights_19 : decode cX5_readRights 19 = .ok (.ldc 105, 2) := by decide +kernel
theorem dX5_readRights_21 : decode cX5_readRights 21 = .ok (.iload_n 1, 1) := by decide +kernel
theorem dX5_readRights_22 : decode cX5_readRights 22 = .ok (.invokevirtual 107, 3) := by decide +kernel
theorem dX5_readRights_25 : decode cX5_readRights 25 = .ok (.invokevirtual 60, 3) := by decide +kernel
theorem dX5_readRights_28 : decode cX5_readRights 28 = .ok (.ifCond .eq 18, 3) := by decide +kernel
theorem dX5_readRights_31 : decode cX5_readRights 31 = .ok (.aload_n 0, 1) := by decide +kernel
theorem dX5_readRights_32 : decode cX5_readRights 32 = .ok (.getfield 9, 3) := by decide +kernel
theorem dX5_readRights_35 : decode cX5_readRights 35 = .ok (.dup, 1) := by decide +kernel
theorem dX5_readRights_36 : decode cX5_readRights 36 = .ok (.getfield 111, 3) := by decide +kernel
theorem dX5_readRights_39 : decode cX5_readRights 39 = .ok (.iconst 1, 1) := by decide +kernel
theorem dX5_readRights_40 : decode cX5_readRights 40 = .ok (.iload_n 1, 1) := by decide +kernel
theorem dX5_readRights_41 : decode cX5_readRights 41 = .ok (.ishl, 1) := by decide +kernel
theorem dX5_readRights_42 : decode cX5_readRights 42 = .ok (.ior, 1) := by decide +kernel
theorem dX5_readRights_43 : decode cX5_readRights 43 = .ok (.putfield 111, 3) := by decide +kernel
theorem dX5_readRights_46 : decode cX5_readRights 46 = .ok (.iinc 1 1, 3) := by decide +kernel
theorem dX5_readRights_49 : decode cX5_readRights 49 = .ok (.goto (-36), 3) := by decide +kernel
theorem dX5_readRights_52 : decode cX5_readRights 52 = .ok (.aload_n 0, 1) := by decide +kernel
theorem dX5_readRights_53 : decode cX5_readRights 53 = .ok (.getfield 9, 3) := by decide +kernel
theorem dX5_readRights_56 : decode cX5_readRights 56 = .ok (.getfield 111, 3) := by decide +kernel
theorem dX5_readRights_59 : decode cX5_readRights 59 = .ok (.ifCond .eq 7, 3) := by decide +kernel
theorem dX5_readRights_62 : decode cX5_readRights 62 = .ok (.iconst 1, 1) := by decide +kernel
theorem dX5_readRights_63 : decode cX5_readRights 63 = .ok (.goto 4, 3) := by decide +kernel
theorem dX5_readRights_66 : decode cX5_readRights 66 = .ok (.iconst 0, 1) := by decide +kernel
theorem dX5_readRights_67 : decode cX5_readRights 67 = .ok (.ireturn, 1) := by decide +kernel
theorem dX5_readPassed_0 : decode cX5_readPassed 0 = .ok (.aload_n 0, 1) := by decide +kernel
theorem dX5_readPassed_1 : decode cX5_readPassed 1 = .ok (.bipush 45, 2) := by decide +kernel
theorem dX5_readPassed_3 : decode cX5_readPassed 3 = .ok (.invokevirtual 60, 3) := by decide +kernel
theorem dX5_readPassed_6 : decode cX5_readPassed 6 = .ok (.ifCond .eq 5, 3) := by decide +kernel
theorem dX5_readPassed_9 : decode cX5_readPassed 9 = .ok (.iconst 1, 1) := by decide +kernel
theorem dX5_readPassed_10 : decode cX5_readPassed 10 = .ok (.ireturn, 1) := by decide +kernel
theorem dX5_readPassed_11 : decode cX5_readPassed 11 = .ok (.aload_n 0, 1) := by decide +kernel
theorem dX5_readPassed_12 : decode cX5_readPassed 12 = .ok (.invokevirtual 79, 3) := by decide +kernel
theorem dX5_readPassed_15 : decode cX5_readPassed 15 = .ok (.bipush 97, 2) := by decide +kernel
theorem dX5_readPassed_17 : decode cX5_readPassed 17 = .ok (.isub, 1) := by decide +kernel
theorem dX5_readPassed_18 : decode cX5_readPassed 18 = .ok (.istore_n 1, 1) := by decide +kernel
theorem dX5_readPassed_19 : decode cX5_readPassed 19 = .ok (.iload_n 1, 1) := by decide +kernel
theorem dX5_readPassed_20 : decode cX5_readPassed 20 = .ok (.ifCond .lt 9, 3) := by decide +kernel
theorem dX5_readPassed_23 : decode cX5_readPassed 23 = .ok (.iload_n 1, 1) := by decide +kernel
theorem dX5_readPassed_24 : decode cX5_readPassed 24 = .ok (.bipush 7, 2) := by decide +kernel
theorem dX5_readPassed_26 : decode cX5_readPassed 26 = .ok (.if_icmp .le 5, 3) := by decide +kernel
theorem dX5_readPassed_29 : decode cX5_readPassed 29 = .ok (.iconst 0, 1) := by decide +kernel
theorem dX5_readPassed_30 : decode cX5_readPassed 30 = .ok (.ireturn, 1) := by decide +kernel
theorem dX5_readPassed_31 : decode cX5_readPassed 31 = .ok (.aload_n 0, 1) := by decide +kernel
theorem dX5_readPassed_32 : decode cX5_readPassed 32 = .ok (.dup, 1) := by decide +kernel
theorem dX5_readPassed_33 : decode cX5_readPassed 33 = .ok (.getfield 37, 3) := by decide +kernel
theorem dX5_readPassed_36 : decode cX5_readPassed 36 = .ok (.iconst 1, 1) := by decide +kernel
theorem dX5_readPassed_37 : decode cX5_readPassed 37 = .ok (.iadd, 1) := by decide +kernel
theorem dX5_readPassed_38 : decode cX5_readPassed 38 = .ok (.putfield 37, 3) := by decide +kernel
theorem dX5_readPassed_41 : decode cX5_readPassed 41 = .ok (.aload_n 0, 1) := by decide +kernel
theorem dX5_readPassed_42 : decode cX5_readPassed 42 = .ok (.invokevirtual 79, 3) := by decide +kernel
theorem dX5_readPassed_45 : decode cX5_readPassed 45 = .ok (.bipush 49, 2) := by decide +kernel
theorem dX5_readPassed_47 : decode cX5_readPassed 47 = .ok (.isub, 1) := by decide +kernel
theorem dX5_readPassed_48 : decode cX5_readPassed 48 = .ok (.istore_n 2, 1) := by decide +kernel
theorem dX5_readPassed_49 : decode cX5_readPassed 49 = .ok (.iload_n 2, 1) := by decide +kernel
theorem dX5_readPassed_50 : decode cX5_readPassed 50 = .ok (.ifCond .lt 9, 3) := by decide +kernel
theorem dX5_readPassed_53 : decode cX5_readPassed 53 = .ok (.iload_n 2, 1) := by decide +kernel
theorem dX5_readPassed_54 : decode cX5_readPassed 54 = .ok (.bipush 7, 2) := by decide +kernel
theorem dX5_readPassed_56 : decode cX5_readPassed 56 = .ok (.if_icmp .le 5, 3) := by decide +kernel
theorem dX5_readPassed_59 : decode cX5_readPassed 59 = .ok (.iconst 0, 1) := by decide +kernel
theorem dX5_readPassed_60 : decode cX5_readPassed 60 = .ok (.ireturn, 1) := by decide +kernel
theorem dX5_readPassed_61 : decode cX5_readPassed 61 = .ok (.aload_n 0, 1) := by decide +kernel
theorem dX5_readPassed_62 : decode cX5_readPassed 62 = .ok (.dup, 1) := by decide +kernel
theorem dX5_readPassed_63 : decode cX5_readPassed 63 = .ok (.getfield 37, 3) := by decide +kernel
theorem dX5_readPassed_66 : decode cX5_readPassed 66 = .ok (.iconst 1, 1) := by decide +kernel
theorem dX5_readPassed_67 : decode cX5_readPassed 67 = .ok (.iadd, 1) := by decide +kernel
theorem dX5_readPassed_68 : decode cX5_readPassed 68 = .ok (.putfield 37, 3) := by decide +kernel
theorem dX5_readPassed_71 : decode cX5_readPassed 71 = .ok (.aload_n 0, 1) := by decide +kernel
theorem dX5_readPassed_72 : decode cX5_readPassed 72 = .ok (.getfield 9, 3) := by decide +kernel
theorem dX5_readPassed_75 : decode cX5_readPassed 75 = .ok (.bipush 8, 2) := by decide +kernel
theorem dX5_readPassed_77 : decode cX5_readPassed 77 = .ok (.iload_n 2, 1) := by decide +kernel
theorem dX5_readPassed_78 : decode cX5_readPassed 78 = .ok (.imul, 1) := by decide +kernel
theorem dX5_readPassed_79 : decode cX5_readPassed 79 = .ok (.iload_n 1, 1) := by decide +kernel
theorem dX5_readPassed_80 : decode cX5_readPassed 80 = .ok (.iadd, 1) := by decide +kernel
theorem dX5_readPassed_81 : decode cX5_readPassed 81 = .ok (.putfield 54, 3) := by decide +kernel
theorem dX5_readPassed_84 : decode cX5_readPassed 84 = .ok (.iconst 1, 1) := by decide +kernel
theorem dX5_readPassed_85 : decode cX5_readPassed 85 = .ok (.ireturn, 1) := by decide +kernel
theorem dX5_readHalves_0 : decode cX5_readHalves 0 = .ok (.aload_n 0, 1) := by decide +kernel
theorem dX5_readHalves_1 : decode cX5_readHalves 1 = .ok (.getfield 9, 3) := by decide +kernel
theorem dX5_readHalves_4 : decode cX5_readHalves 4 = .ok (.aload_n 0, 1) := by decide +kernel
theorem dX5_readHalves_5 : decode cX5_readHalves 5 = .ok (.iconst 0, 1) := by decide +kernel
theorem dX5_readHalves_6 : decode cX5_readHalves 6 = .ok (.invokevirtual 114, 3) := by decide +kernel
theorem dX5_readHalves_9 : decode cX5_readHalves 9 = .ok (.putfield 117, 3) := by decide +kernel
theorem dX5_readHalves_12 : decode cX5_readHalves 12 = .ok (.aload_n 0, 1) := by decide +kernel
theorem dX5_readHalves_13 : decode cX5_readHalves 13 = .ok (.getfield 9, 3) := by decide +kernel
theorem dX5_readHalves_16 : decode cX5_readHalves 16 = .ok (.getfield 117, 3) := by decide +kernel
theorem dX5_readHalves_19 : decode cX5_readHalves 19 = .ok (.iconst (-1), 1) := by decide +kernel
theorem dX5_readHalves_20 : decode cX5_readHalves 20 = .ok (.if_icmp .eq 7, 3) := by decide +kernel
theorem dX5_readHalves_23 : decode cX5_readHalves 23 = .ok (.iconst 1, 1) := by decide +kernel
theorem dX5_readHalves_24 : decode cX5_readHalves 24 = .ok (.goto 4, 3) := by decide +kernel
theorem dX5_readHalves_27 : decode cX5_readHalves 27 = .ok (.iconst 0, 1) := by decide +kernel
theorem dX5_readHalves_28 : decode cX5_readHalves 28 = .ok (.ireturn, 1) := by decide +kernel
theorem dX5_readNumber_0 : decode cX5_readNumber 0 = .ok (.aload_n 0, 1) := by decide +kernel
theorem dX5_readNumber_1 : decode cX5_readNumber 1 = .ok (.getfield 9, 3) := by decide +kernel
theorem dX5_readNumber_4 : decode cX5_readNumber 4 = .ok (.aload_n 0, 1) := by decide +kernel
theorem dX5_readNumber_5 : decode cX5_readNumber 5 = .ok (.iconst 1, 1) := by decide +kernel
theorem dX5_readNumber_6 : decode cX5_readNumber 6 = .ok (.invokevirtual 114, 3) := by decide +kernel
theorem dX5_readNumber_9 : decode cX5_readNumber 9 = .ok (.putfield 120, 3) := by decide +kernel
theorem dX5_readNumber_12 : decode cX5_readNumber 12 = .ok (.aload_n 0, 1) := by decide +kernel
theorem dX5_readNumber_13 : decode cX5_readNumber 13 = .ok (.getfield 9, 3) := by decide +kernel
theorem dX5_readNumber_16 : decode cX5_readNumber 16 = .ok (.getfield 120, 3) := by decide +kernel
theorem dX5_readNumber_19 : decode cX5_readNumber 19 = .ok (.iconst (-1), 1) := by decide +kernel
theorem dX5_readNumber_20 : decode cX5_readNumber 20 = .ok (.if_icmp .eq 7, 3) := by decide +kernel
theorem dX5_readNumber_23 : decode cX5_readNumber 23 = .ok (.iconst 1, 1) := by decide +kernel
theorem dX5_readNumber_24 : decode cX5_readNumber 24 = .ok (.goto 4, 3) := by decide +kernel
theorem dX5_readNumber_27 : decode cX5_readNumber 27 = .ok (.iconst 0, 1) := by decide +kernel
theorem dX5_readNumber_28 : decode cX5_readNumber 28 = .ok (.ireturn, 1) := by decide +kernel
theorem dX5_readUpwards_0 : decode cX5_readUpwards 0 = .ok (.aload_n 0, 1) := by decide +kernel
theorem dX5_readUpwards_1 : decode cX5_readUpwards 1 = .ok (.invokevirtual 123, 3) := by decide +kernel
theorem dX5_readUpwards_4 : decode cX5_readUpwards 4 = .ok (.istore_n 2, 1) := by decide +kernel
theorem dX5_readUpwards_5 : decode cX5_readUpwards 5 = .ok (.iload_n 2, 1) := by decide +kernel
theorem dX5_readUpwards_6 : decode cX5_readUpwards 6 = .ok (.iload_n 1, 1) := by decide +kernel
theorem dX5_readUpwards_7 : decode cX5_readUpwards 7 = .ok (.if_icmp .ge 5, 3) := by decide +kernel
theorem dX5_readUpwards_10 : decode cX5_readUpwards 10 = .ok (.iconst (-1), 1) := by decide +kernel
theorem dX5_readUpwards_11 : decode cX5_readUpwards 11 = .ok (.ireturn, 1) := by decide +kernel
theorem dX5_readUpwards_12 : decode cX5_readUpwards 12 = .ok (.aload_n 0, 1) := by decide +kernel
theorem dX5_readUpwards_13 : decode cX5_readUpwards 13 = .ok (.dup, 1) := by decide +kernel
theorem dX5_readUpwards_14 : decode cX5_readUpwards 14 = .ok (.getfield 37, 3) := by decide +kernel
theorem dX5_readUpwards_17 : decode cX5_readUpwards 17 = .ok (.iconst 1, 1) := by decide +kernel
theorem dX5_readUpwards_18 : decode cX5_readUpwards 18 = .ok (.iadd, 1) := by decide +kernel
theorem dX5_readUpwards_19 : decode cX5_readUpwards 19 = .ok (.putfield 37, 3) := by decide +kernel
theorem dX5_readUpwards_22 : decode cX5_readUpwards 22 = .ok (.iload_n 2, 1) := by decide +kernel
theorem dX5_readUpwards_23 : decode cX5_readUpwards 23 = .ok (.ifCond .eq 54, 3) := by decide +kernel
theorem dX5_readUpwards_26 : decode cX5_readUpwards 26 = .ok (.aload_n 0, 1) := by decide +kernel
theorem dX5_readUpwards_27 : decode cX5_readUpwards 27 = .ok (.getfield 37, 3) := by decide +kernel
theorem dX5_readUpwards_30 : decode cX5_readUpwards 30 = .ok (.aload_n 0, 1) := by decide +kernel
theorem dX5_readUpwards_31 : decode cX5_readUpwards 31 = .ok (.getfield 29, 3) := by decide +kernel
theorem dX5_readUpwards_34 : decode cX5_readUpwards 34 = .ok (.if_icmp .ge 43, 3) := by decide +kernel
theorem dX5_readUpwards_37 : decode cX5_readUpwards 37 = .ok (.aload_n 0, 1) := by decide +kernel
theorem dX5_readUpwards_38 : decode cX5_readUpwards 38 = .ok (.invokevirtual 123, 3) := by decide +kernel
theorem dX5_readUpwards_41 : decode cX5_readUpwards 41 = .ok (.iconst (-1), 1) := by decide +kernel
theorem dX5_readUpwards_42 : decode cX5_readUpwards 42 = .ok (.if_icmp .eq 35, 3) := by decide +kernel
theorem dX5_readUpwards_45 : decode cX5_readUpwards 45 = .ok (.bipush 10, 2) := by decide +kernel
theorem dX5_readUpwards_47 : decode cX5_readUpwards 47 = .ok (.iload_n 2, 1) := by decide +kernel
theorem dX5_readUpwards_48 : decode cX5_readUpwards 48 = .ok (.imul, 1) := by decide +kernel
theorem dX5_readUpwards_49 : decode cX5_readUpwards 49 = .ok (.aload_n 0, 1) := by decide +kernel
theorem dX5_readUpwards_50 : decode cX5_readUpwards 50 = .ok (.invokevirtual 123, 3) := by decide +kernel
theorem dX5_readUpwards_53 : decode cX5_readUpwards 53 = .ok (.iadd, 1) := by decide +kernel
theorem dX5_readUpwards_54 : decode cX5_readUpwards 54 = .ok (.istore_n 2, 1) := by decide +kernel
theorem dX5_readUpwards_55 : decode cX5_readUpwards 55 = .ok (.iload_n 2, 1) := by decide +kernel
theorem dX5_readUpwards_56 : decode cX5_readUpwards 56 = .ok (.sipush 9999, 3) := by decide +kernel
theorem dX5_readUpwards_59 : decode cX5_readUpwards 59 = .ok (.if_icmp .le 5, 3) := by decide +kernel
theorem dX5_readUpwards_62 : decode cX5_readUpwards 62 = .ok (.iconst (-1), 1) := by decide +kernel
theorem dX5_readUpwards_63 : decode cX5_readUpwards 63 = .ok (.ireturn, 1) := by decide +kernel
theorem dX5_readUpwards_64 : decode cX5_readUpwards 64 = .ok (.aload_n 0, 1) := by decide +kernel
theorem dX5_readUpwards_65 : decode cX5_readUpwards 65 = .ok (.dup, 1) := by decide +kernel
theorem dX5_readUpwards_66 : decode cX5_readUpwards 66 = .ok (.getfield 37, 3) := by decide +kernel
theorem dX5_readUpwards_69 : decode cX5_readUpwards 69 = .ok (.iconst 1, 1) := by decide +kernel
theorem dX5_readUpwards_70 : decode cX5_readUpwards 70 = .ok (.iadd, 1) := by decide +kernel
theorem dX5_readUpwards_71 : decode cX5_readUpwards 71 = .ok (.putfield 37, 3) := by decide +kernel
theorem dX5_readUpwards_74 : decode cX5_readUpwards 74 = .ok (.goto (-52), 3) := by decide +kernel
theorem dX5_readUpwards_77 : decode cX5_readUpwards 77 = .ok (.iload_n 2, 1) := by decide +kernel
theorem dX5_readUpwards_78 : decode cX5_readUpwards 78 = .ok (.ireturn, 1) := by decide +kernel
theorem dX5_nextDigit_0 : decode cX5_nextDigit 0 = .ok (.aload_n 0, 1) := by decide +kernel
theorem dX5_nextDigit_1 : decode cX5_nextDigit 1 = .ok (.invokevirtual 79, 3) := by decide +kernel
theorem dX5_nextDigit_4 : decode cX5_nextDigit 4 = .ok (.bipush 48, 2) := by decide +kernel
theorem dX5_nextDigit_6 : decode cX5_nextDigit 6 = .ok (.isub, 1) := by decide +kernel
theorem dX5_nextDigit_7 : decode cX5_nextDigit 7 = .ok (.istore_n 1, 1) := by decide +kernel
theorem dX5_nextDigit_8 : decode cX5_nextDigit 8 = .ok (.iload_n 1, 1) := by decide +kernel
theorem dX5_nextDigit_9 : decode cX5_nextDigit 9 = .ok (.ifCond .lt 13, 3) := by decide +kernel
theorem dX5_nextDigit_12 : decode cX5_nextDigit 12 = .ok (.iload_n 1, 1) := by decide +kernel
theorem dX5_nextDigit_13 : decode cX5_nextDigit 13 = .ok (.bipush 9, 2) := by decide +kernel
theorem dX5_nextDigit_15 : decode cX5_nextDigit 15 = .ok (.if_icmp .gt 7, 3) := by decide +kernel
theorem dX5_nextDigit_18 : decode cX5_nextDigit 18 = .ok (.iload_n 1, 1) := by decide +kernel
theorem dX5_nextDigit_19 : decode cX5_nextDigit 19 = .ok (.goto 4, 3) := by decide +kernel
theorem dX5_nextDigit_22 : decode cX5_nextDigit 22 = .ok (.iconst (-1), 1) := by decide +kernel
theorem dX5_nextDigit_23 : decode cX5_nextDigit 23 = .ok (.ireturn, 1) := by decide +kernel
theorem dX6_init_0 : decode cX6_init 0 = .ok (.aload_n 0, 1) := by decide +kernel
theorem dX6_init_1 : decode cX6_init 1 = .ok (.invokespecial 3, 3) := by decide +kernel
theorem dX6_init_4 : decode cX6_init 4 = .ok (.aload_n 0, 1) := by decide +kernel
theorem dX6_init_5 : decode cX6_init 5 = .ok (.aload_n 1, 1) := by decide +kernel
theorem dX6_init_6 : decode cX6_init 6 = .ok (.putfield 9, 3) := by decide +kernel
theorem dX6_init_9 : decode cX6_init 9 = .ok (.aload_n 0, 1) := by decide +kernel
theorem dX6_init_10 : decode cX6_init 10 = .ok (.aload_n 2, 1) := by decide +kernel
theorem dX6_init_11 : decode cX6_init 11 = .ok (.putfield 15, 3) := by decide +kernel
theorem dX6_init_14 : decode cX6_init 14 = .ok (.aload_n 0, 1) := by decide +kernel
theorem dX6_init_15 : decode cX6_init 15 = .ok (.aload_n 3, 1) := by decide +kernel
theorem dX6_init_16 : decode cX6_init 16 = .ok (.putfield 19, 3) := by decide +kernel
theorem dX6_init_19 : decode cX6_init 19 = .ok (.aload_n 0, 1) := by decide +kernel
theorem dX6_init_20 : decode cX6_init 20 = .ok (.iconst 3, 1) := by decide +kernel
theorem dX6_init_21 : decode cX6_init 21 = .ok (.sipush 432, 3) := by decide +kernel
theorem dX6_init_24 : decode cX6_init 24 = .ok (.multianewarray 23 2, 4) := by decide +kernel
theorem dX6_init_28 : decode cX6_init 28 = .ok (.putfield 25, 3) := by decide +kernel
theorem dX6_init_31 : decode cX6_init 31 = .ok (.return_, 1) := by decide +kernel
theorem dX6_countWays_0 : decode cX6_countWays 0 = .ok (.iload_n 1, 1) := by decide +kernel
theorem dX6_countWays_1 : decode cX6_countWays 1 = .ok (.ifCond .gt 5, 3) := by decide +kernel
theorem dX6_countWays_4 : decode cX6_countWays 4 = .ok (.iconst 1, 1) := by decide +kernel
theorem dX6_countWays_5 : decode cX6_countWays 5 = .ok (.ireturn, 1) := by decide +kernel
theorem dX6_countWays_6 : decode cX6_countWays 6 = .ok (.aload_n 0, 1) := by decide +kernel
theorem dX6_countWays_7 : decode cX6_countWays 7 = .ok (.getfield 15, 3) := by decide +kernel
theorem dX6_countWays_10 : decode cX6_countWays 10 = .ok (.invokevirtual 28, 3) := by decide +kernel
theorem dX6_countWays_13 : decode cX6_countWays 13 = .ok (.iload_n 1, 1) := by decide +kernel
theorem dX6_countWays_14 : decode cX6_countWays 14 = .ok (.iconst 1, 1) := by decide +kernel
theorem dX6_countWays_15 : decode cX6_countWays 15 = .ok (.if_icmp .eq 8, 3) := by decide +kernel
theorem dX6_countWays_18 : decode cX6_countWays 18 = .ok (.iload_n 1, 1) := by decide +kernel
theorem dX6_countWays_19 : decode cX6_countWays 19 = .ok (.iconst 3, 1) := by decide +kernel
theorem dX6_countWays_20 : decode cX6_countWays 20 = .ok (.if_icmp .le 11, 3) := by decide +kernel
theorem dX6_countWays_23 : decode cX6_countWays 23 = .ok (.aload_n 0, 1) := by decide +kernel
theorem dX6_countWays_24 : decode cX6_countWays 24 = .ok (.getfield 15, 3) := by decide +kernel
theorem dX6_countWays_27 : decode cX6_countWays 27 = .ok (.invokevirtual 33, 3) := by decide +kernel
theorem dX6_countWays_30 : decode cX6_countWays 30 = .ok (.ireturn, 1) := by decide +kernel
theorem dX6_countWays_31 : decode cX6_countWays 31 = .ok (.aload_n 0, 1) := by decide +kernel
theorem dX6_countWays_32 : decode cX6_countWays 32 = .ok (.getfield 25, 3) := by decide +kernel
theorem dX6_countWays_35 : decode cX6_countWays 35 = .ok (.iload_n 1, 1) := by decide +kernel
theorem dX6_countWays_36 : decode cX6_countWays 36 = .ok (.iconst 1, 1) := by decide +kernel
theorem dX6_countWays_37 : decode cX6_countWays 37 = .ok (.isub, 1) := by decide +kernel
theorem dX6_countWays_38 : decode cX6_countWays 38 = .ok (.aaload, 1) := by decide +kernel
theorem dX6_countWays_39 : decode cX6_countWays 39 = .ok (.astore_n 2, 1) := by decide +kernel
theorem dX6_countWays_40 : decode cX6_countWays 40 = .ok (.aload_n 0, 1) := by decide +kernel
theorem dX6_countWays_41 : decode cX6_countWays 41 = .ok (.getfield 15, 3) := by decide +kernel
theorem dX6_countWays_44 : decode cX6_countWays 44 = .ok (.aload_n 2, 1) := by decide +kernel
theorem dX6_countWays_45 : decode cX6_countWays 45 = .ok (.iconst 0, 1) := by decide +kernel
theorem dX6_countWays_46 : decode cX6_countWays 46 = .ok (.ldc2_w 37, 3) := by decide +kernel
theorem dX6_countWays_49 : decode cX6_countWays 49 = .ok (.invokevirtual 39, 3) := by decide +kernel
theorem dX6_countWays_52 : decode cX6_countWays 52 = .ok (.istore_n 3, 1) := by decide +kernel
theorem dX6_countWays_53 : decode cX6_countWays 53 = .ok (.iconst 0, 1) := by decide +kernel
theorem dX6_countWays_54 : decode cX6_countWays 54 = .ok (.istore 4, 2) := by decide +kernel
theorem dX6_countWays_56 : decode cX6_countWays 56 = .ok (.iconst 0, 1) := by decide +kernel
theorem dX6_countWays_57 : decode cX6_countWays 57 = .ok (.istore 5, 2) := by decide +kernel
theorem dX6_countWays_59 : decode cX6_countWays 59 = .ok (.iload 5, 2) := by decide +kernel
theorem dX6_countWays_61 : decode cX6_countWays 61 = .ok (.iload_n 3, 1) := by decide +kernel
theorem dX6_countWays_62 : decode cX6_countWays 62 = .ok (.if_icmp .ge 40, 3) := by decide +kernel
theorem dX6_countWays_65 : decode cX6_countWays 65 = .ok (.aload_n 0, 1) := by decide +kernel
theorem dX6_countWays_66 : decode cX6_countWays 66 = .ok (.getfield 19, 3) := by decide +kernel
theorem dX6_countWays_69 : decode cX6_countWays 69 = .ok (.aload_n 2, 1) := by decide +kernel
theorem dX6_countWays_70 : decode cX6_countWays 70 = .ok (.iload 5, 2) := by decide +kernel
theorem dX6_countWays_72 : decode cX6_countWays 72 = .ok (.iaload, 1) := by decide +kernel
theorem dX6_countWays_73 : decode cX6_countWays 73 = .ok (.invokevirtual 43, 3) := by decide +kernel
theorem dX6_countWays_76 : decode cX6_countWays 76 = .ok (.pop, 1) := by decide +kernel
theorem dX6_countWays_77 : decode cX6_countWays 77 = .ok (.iload 4, 2) := by decide +kernel
theorem dX6_countWays_79 : decode cX6_countWays 79 = .ok (.aload_n 0, 1) := by decide +kernel
theorem dX6_countWays_80 : decode cX6_countWays 80 = .ok (.iload_n 1, 1) := by decide +kernel
theorem dX6_countWays_81 : decode cX6_countWays 81 = .ok (.iconst 1, 1) := by decide +kernel
theorem dX6_countWays_82 : decode cX6_countWays 82 = .ok (.isub, 1) := by decide +kernel
theorem dX6_countWays_83 : decode cX6_countWays 83 = .ok (.invokevirtual 49, 3) := by decide +kernel
theorem dX6_countWays_86 : decode cX6_countWays 86 = .ok (.iadd, 1) := by decide +kernel
theorem dX6_countWays_87 : decode cX6_countWays 87 = .ok (.istore 4, 2) := by decide +kernel
theorem dX6_countWays_89 : decode cX6_countWays 89 = .ok (.aload_n 0, 1) := by decide +kernel
theorem dX6_countWays_90 : decode cX6_countWays 90 = .ok (.getfield 19, 3) := by decide +kernel
theorem dX6_countWays_93 : decode cX6_countWays 93 = .ok (.invokevirtual 52, 3) := by decide +kernel
theorem dX6_countWays_96 : decode cX6_countWays 96 = .ok (.iinc 5 1, 3) := by decide +kernel
theorem dX6_countWays_99 : decode cX6_countWays 99 = .ok (.goto (-40), 3) := by decide +kernel
theorem dX6_countWays_102 : decode cX6_countWays 102 = .ok (.iload 4, 2) := by decide +kernel
theorem dX6_countWays_104 : decode cX6_countWays 104 = .ok (.ireturn, 1) := by decide +kernel
theorem dX6_choose_0 : decode cX6_choose 0 = .ok (.ldc 55, 2) := by decide +kernel
theorem dX6_choose_2 : decode cX6_choose 2 = .ok (.istore 4, 2) := by decide +kernel
theorem dX6_choose_4 : decode cX6_choose 4 = .ok (.iconst 0, 1) := by decide +kernel
theorem dX6_choose_5 : decode cX6_choose 5 = .ok (.istore 5, 2) := by decide +kernel
theorem dX6_choose_7 : decode cX6_choose 7 = .ok (.iload 5, 2) := by decide +kernel
theorem dX6_choose_9 : decode cX6_choose 9 = .ok (.iload_n 2, 1) := by decide +kernel
theorem dX6_choose_10 : decode cX6_choose 10 = .ok (.if_icmp .ge 62, 3) := by decide +kernel
theorem dX6_choose_13 : decode cX6_choose 13 = .ok (.aload_n 0, 1) := by decide +kernel
theorem dX6_choose_14 : decode cX6_choose 14 = .ok (.getfield 19, 3) := by decide +kernel
theorem dX6_choose_17 : decode cX6_choose 17 = .ok (.aload_n 1, 1) := by decide +kernel
theorem dX6_choose_18 : decode cX6_choose 18 = .ok (.iload 5, 2) := by decide +kernel
theorem dX6_choose_20 : decode cX6_choose 20 = .ok (.iaload, 1) := by decide +kernel
theorem dX6_choose_21 : decode cX6_choose 21 = .ok (.invokevirtual 43, 3) := by decide +kernel
theorem dX6_choose_24 : decode cX6_choose 24 = .ok (.pop, 1) := by decide +kernel
theorem dX6_choose_25 : decode cX6_choose 25 = .ok (.aload_n 0, 1) := by decide +kernel
theorem dX6_choose_26 : decode cX6_choose 26 = .ok (.iload_n 3, 1) := by decide +kernel
theorem dX6_choose_27 : decode cX6_choose 27 = .ok (.iconst 1, 1) := by decide +kernel
theorem dX6_choose_28 : decode cX6_choose 28 = .ok (.isub, 1) := by decide +kernel
theorem dX6_choose_29 : decode cX6_choose 29 = .ok (.ldc 55, 2) := by decide +kernel
theorem dX6_choose_31 : decode cX6_choose 31 = .ok (.iload 4, 2) := by decide +kernel
theorem dX6_choose_33 : decode cX6_choose 33 = .ok (.ineg, 1) := by decide +kernel
theorem dX6_choose_34 : decode cX6_choose 34 = .ok (.invokevirtual 56, 3) := by decide +kernel
theorem dX6_choose_37 : decode cX6_choose 37 = .ok (.ineg, 1) := by decide +kernel
theorem dX6_choose_38 : decode cX6_choose 38 = .ok (.istore 6, 2) := by decide +kernel
theorem dX6_choose_40 : decode cX6_choose 40 = .ok (.aload_n 0, 1) := by decide +kernel
theorem dX6_choose_41 : decode cX6_choose 41 = .ok (.getfield 19, 3) := by decide +kernel
theorem dX6_choose_44 : decode cX6_choose 44 = .ok (.invokevirtual 52, 3) := by decide +kernel
theorem dX6_choose_47 : decode cX6_choose 47 = .ok (.iload 6, 2) := by decide +kernel
theorem dX6_choose_49 : decode cX6_choose 49 = .ok (.iload 4, 2) := by decide +kernel
theorem dX6_choose_51 : decode cX6_choose 51 = .ok (.if_icmp .le 15, 3) := by decide +kernel
theorem dX6_choose_54 : decode cX6_choose 54 = .ok (.iload 6, 2) := by decide +kernel
theorem dX6_choose_56 : decode cX6_choose 56 = .ok (.istore 4, 2) := by decide +kernel
theorem dX6_choose_58 : decode cX6_choose 58 = .ok (.aload_n 0, 1) := by decide +kernel
theorem dX6_choose_59 : decode cX6_choose 59 = .ok (.aload_n 1, 1) := by decide +kernel
theorem dX6_choose_60 : decode cX6_choose 60 = .ok (.iload 5, 2) := by decide +kernel
theorem dX6_choose_62 : decode cX6_choose 62 = .ok (.iaload, 1) := by decide +kernel
theorem dX6_choose_63 : decode cX6_choose 63 = .ok (.putfield 60, 3) := by decide +kernel
theorem dX6_choose_66 : decode cX6_choose 66 = .ok (.iinc 5 1, 3) := by decide +kernel
theorem dX6_choose_69 : decode cX6_choose 69 = .ok (.goto (-62), 3) := by decide +kernel
theorem dX6_choose_72 : decode cX6_choose 72 = .ok (.iload 4, 2) := by decide +kernel
theorem dX6_choose_74 : decode cX6_choose 74 = .ok (.ireturn, 1) := by decide +kernel
theorem dX6_valueWithoutMoves_0 : decode cX6_valueWithoutMoves 0 = .ok (.aload_n 0, 1) := by decide +kernel
theorem dX6_valueWithoutMoves_1 : decode cX6_valueWithoutMoves 1 = .ok (.getfield 9, 3) := by decide +kernel
theorem dX6_valueWithoutMoves_4 : decode cX6_valueWithoutMoves 4 = .ok (.aload_n 0, 1) := by decide +kernel
theorem dX6_valueWithoutMoves_5 : decode cX6_valueWithoutMoves 5 = .ok (.getfield 9, 3) := by decide +kernel
theorem dX6_valueWithoutMoves_8 : decode cX6_valueWithoutMoves 8 = .ok (.getfield 64, 3) := by decide +kernel
theorem dX6_valueWithoutMoves_11 : decode cX6_valueWithoutMoves 11 = .ok (.invokevirtual 69, 3) := by decide +kernel
theorem dX6_valueWithoutMoves_14 : decode cX6_valueWithoutMoves 14 = .ok (.ifCond .eq 11, 3) := by decide +kernel
theorem dX6_valueWithoutMoves_17 : decode cX6_valueWithoutMoves 17 = .ok (.sipush (-30000), 3) := by decide +kernel
theorem dX6_valueWithoutMoves_20 : decode cX6_valueWithoutMoves 20 = .ok (.iload_n 1, 1) := by decide +kernel
theorem dX6_valueWithoutMoves_21 : decode cX6_valueWithoutMoves 21 = .ok (.isub, 1) := by decide +kernel
theorem dX6_valueWithoutMoves_22 : decode cX6_valueWithoutMoves 22 = .ok (.goto 4, 3) := by decide +kernel
theorem dX6_valueWithoutMoves_25 : decode cX6_valueWithoutMoves 25 = .ok (.iconst 0, 1) := by decide +kernel
theorem dX6_valueWithoutMoves_26 : decode cX6_valueWithoutMoves 26 = .ok (.ireturn, 1) := by decide +kernel
theorem dX6_valueWithin_0 : decode cX6_valueWithin 0 = .ok (.iload_n 1, 1) := by decide +kernel
theorem dX6_valueWithin_1 : decode cX6_valueWithin 1 = .ok (.ifCond .le 8, 3) := by decide +kernel
theorem dX6_valueWithin_4 : decode cX6_valueWithin 4 = .ok (.iload_n 1, 1) := by decide +kernel
theorem dX6_valueWithin_5 : decode cX6_valueWithin 5 = .ok (.iconst 3, 1) := by decide +kernel
theorem dX6_valueWithin_6 : decode cX6_valueWithin 6 = .ok (.if_icmp .le 11, 3) := by decide +kernel
theorem dX6_valueWithin_9 : decode cX6_valueWithin 9 = .ok (.aload_n 0, 1) := by decide +kernel
theorem dX6_valueWithin_10 : decode cX6_valueWithin 10 = .ok (.getfield 9, 3) := by decide +kernel
theorem dX6_valueWithin_13 : decode cX6_valueWithin 13 = .ok (.invokevirtual 73, 3) := by decide +kernel
theorem dX6_valueWithin_16 : decode cX6_valueWithin 16 = .ok (.ireturn, 1) := by decide +kernel
theorem dX6_valueWithin_17 : decode cX6_valueWithin 17 = .ok (.aload_n 0, 1) := by decide +kernel
theorem dX6_valueWithin_18 : decode cX6_valueWithin 18 = .ok (.getfield 15, 3) := by decide +kernel
theorem dX6_valueWithin_21 : decode cX6_valueWithin 21 = .ok (.invokevirtual 28, 3) := by decide +kernel
theorem dX6_valueWithin_24 : decode cX6_valueWithin 24 = .ok (.aload_n 0, 1) := by decide +kernel
theorem dX6_valueWithin_25 : decode cX6_valueWithin 25 = .ok (.getfield 15, 3) := by decide +kernel
theorem dX6_valueWithin_28 : decode cX6_valueWithin 28 = .ok (.invokevirtual 76, 3) := by decide +kernel
theorem dX6_valueWithin_31 : decode cX6_valueWithin 31 = .ok (.ifCond .eq 9, 3) := by decide +kernel
theorem dX6_valueWithin_34 : decode cX6_valueWithin 34 = .ok (.aload_n 0, 1) := by decide +kernel
theorem dX6_valueWithin_35 : decode cX6_valueWithin 35 = .ok (.iload_n 1, 1) := by decide +kernel
theorem dX6_valueWithin_36 : decode cX6_valueWithin 36 = .ok (.invokevirtual 80, 3) := by decide +kernel
theorem dX6_valueWithin_39 : decode cX6_valueWithin 39 = .ok (.ireturn, 1) := by decide +kernel
theorem dX6_valueWithin_40 : decode cX6_valueWithin 40 = .ok (.aload_n 0, 1) := by decide +kernel
theorem dX6_valueWithin_41 : decode cX6_valueWithin 41 = .ok (.getfield 9, 3) := by decide +kernel
theorem dX6_valueWithin_44 : decode cX6_valueWithin 44 = .ok (.invokevirtual 83, 3) := by decide +kernel
theorem dX6_valueWithin_47 : decode cX6_valueWithin 47 = .ok (.ifCond .ne 13, 3) := by decide +kernel
theorem dX6_valueWithin_50 : decode cX6_valueWithin 50 = .ok (.aload_n 0, 1) := by decide +kernel
theorem dX6_valueWithin_51 : decode cX6_valueWithin 51 = .ok (.getfield 9, 3) := by decide +kernel
theorem dX6_valueWithin_54 : decode cX6_valueWithin 54 = .ok (.invokevirtual 86, 3) := by decide +kernel
theorem dX6_valueWithin_57 : decode cX6_valueWithin 57 = .ok (.ifCond .eq 5, 3) := by decide +kernel
theorem dX6_valueWithin_60 : decode cX6_valueWithin 60 = .ok (.iconst 0, 1) := by decide +kernel
theorem dX6_valueWithin_61 : decode cX6_valueWithin 61 = .ok (.ireturn, 1) := by decide +kernel
theorem dX6_valueWithin_62 : decode cX6_valueWithin 62 = .ok (.aload_n 0, 1) := by decide +kernel
theorem dX6_valueWithin_63 : decode cX6_valueWithin 63 = .ok (.getfield 25, 3) := by decide +kernel
theorem dX6_valueWithin_66 : decode cX6_valueWithin 66 = .ok (.iload_n 1, 1) := by decide +kernel
theorem dX6_valueWithin_67 : decode cX6_valueWithin 67 = .ok (.iconst 1, 1) := by decide +kernel
theorem dX6_valueWithin_68 : decode cX6_valueWithin 68 = .ok (.isub, 1) := by decide +kernel
theorem dX6_valueWithin_69 : decode cX6_valueWithin 69 = .ok (.aaload, 1) := by decide +kernel
theorem dX6_valueWithin_70 : decode cX6_valueWithin 70 = .ok (.astore 4, 2) := by decide +kernel
theorem dX6_valueWithin_72 : decode cX6_valueWithin 72 = .ok (.aload_n 0, 1) := by decide +kernel
theorem dX6_valueWithin_73 : decode cX6_valueWithin 73 = .ok (.aload 4, 2) := by decide +kernel
theorem dX6_valueWithin_75 : decode cX6_valueWithin 75 = .ok (.invokevirtual 89, 3) := by decide +kernel
theorem dX6_valueWithin_78 : decode cX6_valueWithin 78 = .ok (.istore 5, 2) := by decide +kernel
theorem dX6_valueWithin_80 : decode cX6_valueWithin 80 = .ok (.iload_n 1, 1) := by decide +kernel
theorem dX6_valueWithin_81 : decode cX6_valueWithin 81 = .ok (.iconst 1, 1) := by decide +kernel
theorem dX6_valueWithin_82 : decode cX6_valueWithin 82 = .ok (.if_icmp .ne 14, 3) := by decide +kernel
theorem dX6_valueWithin_85 : decode cX6_valueWithin 85 = .ok (.aload_n 0, 1) := by decide +kernel
theorem dX6_valueWithin_86 : decode cX6_valueWithin 86 = .ok (.aload 4, 2) := by decide +kernel
theorem dX6_valueWithin_88 : decode cX6_valueWithin 88 = .ok (.iload 5, 2) := by decide +kernel
theorem dX6_valueWithin_90 : decode cX6_valueWithin 90 = .ok (.iload_n 2, 1) := by decide +kernel
theorem dX6_valueWithin_91 : decode cX6_valueWithin 91 = .ok (.iload_n 3, 1) := by decide +kernel
theorem dX6_valueWithin_92 : decode cX6_valueWithin 92 = .ok (.invokevirtual 93, 3) := by decide +kernel
theorem dX6_valueWithin_95 : decode cX6_valueWithin 95 = .ok (.ireturn, 1) := by decide +kernel
theorem dX6_valueWithin_96 : decode cX6_valueWithin 96 = .ok (.iload_n 2, 1) := by decide +kernel
theorem dX6_valueWithin_97 : decode cX6_valueWithin 97 = .ok (.istore 6, 2) := by decide +kernel
theorem dX6_valueWithin_99 : decode cX6_valueWithin 99 = .ok (.iconst 0, 1) := by decide +kernel
theorem dX6_valueWithin_100 : decode cX6_valueWithin 100 = .ok (.istore 7, 2) := by decide +kernel
theorem dX6_valueWithin_102 : decode cX6_valueWithin 102 = .ok (.iload 7, 2) := by decide +kernel
theorem dX6_valueWithin_104 : decode cX6_valueWithin 104 = .ok (.iload 5, 2) := by decide +kernel
theorem dX6_valueWithin_106 : decode cX6_valueWithin 106 = .ok (.if_icmp .ge 55, 3) := by decide +kernel
theorem dX6_valueWithin_109 : decode cX6_valueWithin 109 = .ok (.iload 6, 2) := by decide +kernel
theorem dX6_valueWithin_111 : decode cX6_valueWithin 111 = .ok (.iload_n 3, 1) := by decide +kernel
theorem dX6_valueWithin_112 : decode cX6_valueWithin 112 = .ok (.if_icmp .ge 49, 3) := by decide +kernel
theorem dX6_valueWithin_115 : decode cX6_valueWithin 115 = .ok (.aload_n 0, 1) := by decide +kernel
theorem dX6_valueWithin_116 : decode cX6_valueWithin 116 = .ok (.getfield 19, 3) := by decide +kernel
theorem dX6_valueWithin_119 : decode cX6_valueWithin 119 = .ok (.aload 4, 2) := by decide +kernel
theorem dX6_valueWithin_121 : decode cX6_valueWithin 121 = .ok (.iload 7, 2) := by decide +kernel
theorem dX6_valueWithin_123 : decode cX6_valueWithin 123 = .ok (.iaload, 1) := by decide +kernel
theorem dX6_valueWithin_124 : decode cX6_valueWithin 124 = .ok (.invokevirtual 43, 3) := by decide +kernel
theorem dX6_valueWithin_127 : decode cX6_valueWithin 127 = .ok (.pop, 1) := by decide +kernel
theorem dX6_valueWithin_128 : decode cX6_valueWithin 128 = .ok (.iload 6, 2) := by decide +kernel
theorem dX6_valueWithin_130 : decode cX6_valueWithin 130 = .ok (.aload_n 0, 1) := by decide +kernel
theorem dX6_valueWithin_131 : decode cX6_valueWithin 131 = .ok (.iload_n 1, 1) := by decide +kernel
theorem dX6_valueWithin_132 : decode cX6_valueWithin 132 = .ok (.iconst 1, 1) := by decide +kernel
theorem dX6_valueWithin_133 : decode cX6_valueWithin 133 = .ok (.isub, 1) := by decide +kernel
theorem dX6_valueWithin_134 : decode cX6_valueWithin 134 = .ok (.iload_n 3, 1) := by decide +kernel
theorem dX6_valueWithin_135 : decode cX6_valueWithin 135 = .ok (.ineg, 1) := by decide +kernel
theorem dX6_valueWithin_136 : decode cX6_valueWithin 136 = .ok (.iload 6, 2) := by decide +kernel
theorem dX6_valueWithin_138 : decode cX6_valueWithin 138 = .ok (.ineg, 1) := by decide +kernel
theorem dX6_valueWithin_139 : decode cX6_valueWithin 139 = .ok (.invokevirtual 56, 3) := by decide +kernel
theorem dX6_valueWithin_142 : decode cX6_valueWithin 142 = .ok (.ineg, 1) := by decide +kernel
theorem dX6_valueWithin_143 : decode cX6_valueWithin 143 = .ok (.invokestatic 97, 3) := by decide +kernel
theorem dX6_valueWithin_146 : decode cX6_valueWithin 146 = .ok (.istore 6, 2) := by decide +kernel
theorem dX6_valueWithin_148 : decode cX6_valueWithin 148 = .ok (.aload_n 0, 1) := by decide +kernel
theorem dX6_valueWithin_149 : decode cX6_valueWithin 149 = .ok (.getfield 19, 3) := by decide +kernel
theorem dX6_valueWithin_152 : decode cX6_valueWithin 152 = .ok (.invokevirtual 52, 3) := by decide +kernel
theorem dX6_valueWithin_155 : decode cX6_valueWithin 155 = .ok (.iinc 7 1, 3) := by decide +kernel
theorem dX6_valueWithin_158 : decode cX6_valueWithin 158 = .ok (.goto (-56), 3) := by decide +kernel
theorem dX6_valueWithin_161 : decode cX6_valueWithin 161 = .ok (.iload 6, 2) := by decide +kernel
theorem dX6_valueWithin_163 : decode cX6_valueWithin 163 = .ok (.ireturn, 1) := by decide +kernel
theorem dX6_listTakingFirst_0 : decode cX6_listTakingFirst 0 = .ok (.aload_n 0, 1) := by decide +kernel
theorem dX6_listTakingFirst_1 : decode cX6_listTakingFirst 1 = .ok (.getfield 9, 3) := by decide +kernel
theorem dX6_listTakingFirst_4 : decode cX6_listTakingFirst 4 = .ok (.getfield 103, 3) := by decide +kernel
theorem dX6_listTakingFirst_7 : decode cX6_listTakingFirst 7 = .ok (.iconst 1, 1) := by decide +kernel
theorem dX6_listTakingFirst_8 : decode cX6_listTakingFirst 8 = .ok (.aload_n 0, 1) := by decide +kernel
theorem dX6_listTakingFirst_9 : decode cX6_listTakingFirst 9 = .ok (.getfield 9, 3) := by decide +kernel
theorem dX6_listTakingFirst_12 : decode cX6_listTakingFirst 12 = .ok (.getfield 64, 3) := by decide +kernel
theorem dX6_listTakingFirst_15 : decode cX6_listTakingFirst 15 = .ok (.isub, 1) := by decide +kernel
theorem dX6_listTakingFirst_16 : decode cX6_listTakingFirst 16 = .ok (.laload, 1) := by decide +kernel
theorem dX6_listTakingFirst_17 : decode cX6_listTakingFirst 17 = .ok (.lstore_n 2, 1) := by decide +kernel
theorem dX6_listTakingFirst_18 : decode cX6_listTakingFirst 18 = .ok (.aload_n 0, 1) := by decide +kernel
theorem dX6_listTakingFirst_19 : decode cX6_listTakingFirst 19 = .ok (.getfield 15, 3) := by decide +kernel
theorem dX6_listTakingFirst_22 : decode cX6_listTakingFirst 22 = .ok (.aload_n 1, 1) := by decide +kernel
theorem dX6_listTakingFirst_23 : decode cX6_listTakingFirst 23 = .ok (.iconst 0, 1) := by decide +kernel
theorem dX6_listTakingFirst_24 : decode cX6_listTakingFirst 24 = .ok (.lload_n 2, 1) := by decide +kernel
theorem dX6_listTakingFirst_25 : decode cX6_listTakingFirst 25 = .ok (.invokevirtual 39, 3) := by decide +kernel
theorem dX6_listTakingFirst_28 : decode cX6_listTakingFirst 28 = .ok (.istore 4, 2) := by decide +kernel
theorem dX6_listTakingFirst_30 : decode cX6_listTakingFirst 30 = .ok (.aload_n 0, 1) := by decide +kernel
theorem dX6_listTakingFirst_31 : decode cX6_listTakingFirst 31 = .ok (.getfield 15, 3) := by decide +kernel
theorem dX6_listTakingFirst_34 : decode cX6_listTakingFirst 34 = .ok (.aload_n 1, 1) := by decide +kernel
theorem dX6_listTakingFirst_35 : decode cX6_listTakingFirst 35 = .ok (.iload 4, 2) := by decide +kernel
theorem dX6_listTakingFirst_37 : decode cX6_listTakingFirst 37 = .ok (.lload_n 2, 1) := by decide +kernel
theorem dX6_listTakingFirst_38 : decode cX6_listTakingFirst 38 = .ok (.ldc2_w 37, 3) := by decide +kernel
theorem dX6_listTakingFirst_41 : decode cX6_listTakingFirst 41 = .ok (.lxor, 1) := by decide +kernel
theorem dX6_listTakingFirst_42 : decode cX6_listTakingFirst 42 = .ok (.invokevirtual 39, 3) := by decide +kernel
theorem dX6_listTakingFirst_45 : decode cX6_listTakingFirst 45 = .ok (.ireturn, 1) := by decide +kernel
theorem dX6_bestGain_0 : decode cX6_bestGain 0 = .ok (.aload_n 0, 1) := by decide +kernel
theorem dX6_bestGain_1 : decode cX6_bestGain 1 = .ok (.getfield 9, 3) := by decide +kernel
theorem dX6_bestGain_4 : decode cX6_bestGain 4 = .ok (.invokevirtual 73, 3) := by decide +kernel
theorem dX6_bestGain_7 : decode cX6_bestGain 7 = .ok (.istore 5, 2) := by decide +kernel
theorem dX6_bestGain_9 : decode cX6_bestGain 9 = .ok (.iload_n 3, 1) := by decide +kernel
theorem dX6_bestGain_10 : decode cX6_bestGain 10 = .ok (.istore 6, 2) := by decide +kernel
theorem dX6_bestGain_12 : decode cX6_bestGain 12 = .ok (.iconst 0, 1) := by decide +kernel
theorem dX6_bestGain_13 : decode cX6_bestGain 13 = .ok (.istore 7, 2) := by decide +kernel
theorem dX6_bestGain_15 : decode cX6_bestGain 15 = .ok (.iload 7, 2) := by decide +kernel
theorem dX6_bestGain_17 : decode cX6_bestGain 17 = .ok (.iload_n 2, 1) := by decide +kernel
theorem dX6_bestGain_18 : decode cX6_bestGain 18 = .ok (.if_icmp .ge 37, 3) := by decide +kernel
theorem dX6_bestGain_21 : decode cX6_bestGain 21 = .ok (.iload 6, 2) := by decide +kernel
theorem dX6_bestGain_23 : decode cX6_bestGain 23 = .ok (.iload 4, 2) := by decide +kernel
theorem dX6_bestGain_25 : decode cX6_bestGain 25 = .ok (.if_icmp .ge 30, 3) := by decide +kernel
theorem dX6_bestGain_28 : decode cX6_bestGain 28 = .ok (.iload 6, 2) := by decide +kernel
theorem dX6_bestGain_30 : decode cX6_bestGain 30 = .ok (.iload 5, 2) := by decide +kernel
theorem dX6_bestGain_32 : decode cX6_bestGain 32 = .ok (.aload_n 0, 1) := by decide +kernel
theorem dX6_bestGain_33 : decode cX6_bestGain 33 = .ok (.getfield 9, 3) := by decide +kernel
theorem dX6_bestGain_36 : decode cX6_bestGain 36 = .ok (.aload_n 1, 1) := by decide +kernel
theorem dX6_bestGain_37 : decode cX6_bestGain 37 = .ok (.iload 7, 2) := by decide +kernel
theorem dX6_bestGain_39 : decode cX6_bestGain 39 = .ok (.iaload, 1) := by decide +kernel
theorem dX6_bestGain_40 : decode cX6_bestGain 40 = .ok (.invokevirtual 107, 3) := by decide +kernel
theorem dX6_bestGain_43 : decode cX6_bestGain 43 = .ok (.iadd, 1) := by decide +kernel
theorem dX6_bestGain_44 : decode cX6_bestGain 44 = .ok (.invokestatic 97, 3) := by decide +kernel
theorem dX6_bestGain_47 : decode cX6_bestGain 47 = .ok (.istore 6, 2) := by decide +kernel
theorem dX6_bestGain_49 : decode cX6_bestGain 49 = .ok (.iinc 7 1, 3) := by decide +kernel
theorem dX6_bestGain_52 : decode cX6_bestGain 52 = .ok (.goto (-37), 3) := by decide +kernel
theorem dX6_bestGain_55 : decode cX6_bestGain 55 = .ok (.iload 6, 2) := by decide +kernel
theorem dX6_bestGain_57 : decode cX6_bestGain 57 = .ok (.ireturn, 1) := by decide +kernel
theorem dX8_init_0 : decode cX8_init 0 = .ok (.aload_n 0, 1) := by decide +kernel
theorem dX8_init_1 : decode cX8_init 1 = .ok (.invokespecial 3, 3) := by decide +kernel
theorem dX8_init_4 : decode cX8_init 4 = .ok (.aload_n 0, 1) := by decide +kernel
theorem dX8_init_5 : decode cX8_init 5 = .ok (.sipush 128, 3) := by decide +kernel
theorem dX8_init_8 : decode cX8_init 8 = .ok (.newarray .char, 2) := by decide +kernel
theorem dX8_init_10 : decode cX8_init 10 = .ok (.putfield 9, 3) := by decide +kernel
theorem dX8_init_13 : decode cX8_init 13 = .ok (.return_, 1) := by decide +kernel
theorem dX8_put_0 : decode cX8_put 0 = .ok (.aload_n 0, 1) := by decide +kernel
theorem dX8_put_1 : decode cX8_put 1 = .ok (.iconst 0, 1) := by decide +kernel
theorem dX8_put_2 : decode cX8_put 2 = .ok (.putfield 15, 3) := by decide +kernel
theorem dX8_put_5 : decode cX8_put 5 = .ok (.bipush 7, 2) := by decide +kernel
theorem dX8_put_7 : decode cX8_put 7 = .ok (.istore_n 2, 1) := by decide +kernel
theorem dX8_put_8 : decode cX8_put 8 = .ok (.iload_n 2, 1) := by decide +kernel
theorem dX8_put_9 : decode cX8_put 9 = .ok (.ifCond .lt 30, 3) := by decide +kernel
theorem dX8_put_12 : decode cX8_put 12 = .ok (.aload_n 0, 1) := by decide +kernel
theorem dX8_put_13 : decode cX8_put 13 = .ok (.aload_n 1, 1) := by decide +kernel
theorem dX8_put_14 : decode cX8_put 14 = .ok (.iload_n 2, 1) := by decide +kernel
theorem dX8_put_15 : decode cX8_put 15 = .ok (.invokevirtual 19, 3) := by decide +kernel
theorem dX8_put_18 : decode cX8_put 18 = .ok (.aload_n 0, 1) := by decide +kernel
theorem dX8_put_19 : decode cX8_put 19 = .ok (.iload_n 2, 1) := by decide +kernel
theorem dX8_put_20 : decode cX8_put 20 = .ok (.ifCond .le 8, 3) := by decide +kernel
theorem dX8_put_23 : decode cX8_put 23 = .ok (.bipush 47, 2) := by decide +kernel
theorem dX8_put_25 : decode cX8_put 25 = .ok (.goto 5, 3) := by decide +kernel
theorem dX8_put_28 : decode cX8_put 28 = .ok (.bipush 32, 2) := by decide +kernel
theorem dX8_put_30 : decode cX8_put 30 = .ok (.invokevirtual 23, 3) := by decide +kernel
theorem dX8_put_33 : decode cX8_put 33 = .ok (.iinc 2 (-1), 3) := by decide +kernel
theorem dX8_put_36 : decode cX8_put 36 = .ok (.goto (-28), 3) := by decide +kernel
theorem dX8_put_39 : decode cX8_put 39 = .ok (.aload_n 0, 1) := by decide +kernel
theorem dX8_put_40 : decode cX8_put 40 = .ok (.aload_n 1, 1) := by decide +kernel
theorem dX8_put_41 : decode cX8_put 41 = .ok (.getfield 27, 3) := by decide +kernel
theorem dX8_put_44 : decode cX8_put 44 = .ok (.ifCond .ne 8, 3) := by decide +kernel
theorem dX8_put_47 : decode cX8_put 47 = .ok (.bipush 119, 2) := by decide +kernel
theorem dX8_put_49 : decode cX8_put 49 = .ok (.goto 5, 3) := by decide +kernel
theorem dX8_put_52 : decode cX8_put 52 = .ok (.bipush 98, 2) := by decide +kernel
theorem dX8_put_54 : decode cX8_put 54 = .ok (.invokevirtual 23, 3) := by decide +kernel
theorem dX8_put_57 : decode cX8_put 57 = .ok (.aload_n 0, 1) := by decide +kernel
theorem dX8_put_58 : decode cX8_put 58 = .ok (.bipush 32, 2) := by decide +kernel
theorem dX8_put_60 : decode cX8_put 60 = .ok (.invokevirtual 23, 3) := by decide +kernel
theorem dX8_put_63 : decode cX8_put 63 = .ok (.aload_n 0, 1) := by decide +kernel
theorem dX8_put_64 : decode cX8_put 64 = .ok (.aload_n 1, 1) := by decide +kernel
theorem dX8_put_65 : decode cX8_put 65 = .ok (.getfield 32, 3) := by decide +kernel
theorem dX8_put_68 : decode cX8_put 68 = .ok (.invokevirtual 35, 3) := by decide +kernel
theorem dX8_put_71 : decode cX8_put 71 = .ok (.aload_n 0, 1) := by decide +kernel
theorem dX8_put_72 : decode cX8_put 72 = .ok (.bipush 32, 2) := by decide +kernel
theorem dX8_put_74 : decode cX8_put 74 = .ok (.invokevirtual 23, 3) := by decide +kernel
theorem dX8_put_77 : decode cX8_put 77 = .ok (.aload_n 0, 1) := by decide +kernel
theorem dX8_put_78 : decode cX8_put 78 = .ok (.aload_n 1, 1) := by decide +kernel
theorem dX8_put_79 : decode cX8_put 79 = .ok (.getfield 39, 3) := by decide +kernel
theorem dX8_put_82 : decode cX8_put 82 = .ok (.invokevirtual 42, 3) := by decide +kernel
theorem dX8_put_85 : decode cX8_put 85 = .ok (.aload_n 0, 1) := by decide +kernel
theorem dX8_put_86 : decode cX8_put 86 = .ok (.bipush 32, 2) := by decide +kernel
theorem dX8_put_88 : decode cX8_put 88 = .ok (.invokevirtual 23, 3) := by decide +kernel
theorem dX8_put_91 : decode cX8_put 91 = .ok (.aload_n 0, 1) := by decide +kernel
theorem dX8_put_92 : decode cX8_put 92 = .ok (.aload_n 1, 1) := by decide +kernel
theorem dX8_put_93 : decode cX8_put 93 = .ok (.getfield 45, 3) := by decide +kernel
theorem dX8_put_96 : decode cX8_put 96 = .ok (.invokevirtual 48, 3) := by decide +kernel
theorem dX8_put_99 : decode cX8_put 99 = .ok (.aload_n 0, 1) := by decide +kernel
theorem dX8_put_100 : decode cX8_put 100 = .ok (.bipush 32, 2) := by decide +kernel
theorem dX8_put_102 : decode cX8_put 102 = .ok (.invokevirtual 23, 3) := by decide +kernel
theorem dX8_put_105 : decode cX8_put 105 = .ok (.aload_n 0, 1) := by decide +kernel
theorem dX8_put_106 : decode cX8_put 106 = .ok (.aload_n 1, 1) := by decide +kernel
theorem dX8_put_107 : decode cX8_put 107 = .ok (.getfield 51, 3) := by decide +kernel
theorem dX8_put_110 : decode cX8_put 110 = .ok (.invokevirtual 48, 3) := by decide +kernel
theorem dX8_put_113 : decode cX8_put 113 = .ok (.aload_n 0, 1) := by decide +kernel
theorem dX8_put_114 : decode cX8_put 114 = .ok (.getfield 15, 3) := by decide +kernel
theorem dX8_put_117 : decode cX8_put 117 = .ok (.ireturn, 1) := by decide +kernel
theorem dX8_add_0 : decode cX8_add 0 = .ok (.aload_n 0, 1) := by decide +kernel
theorem dX8_add_1 : decode cX8_add 1 = .ok (.getfield 15, 3) := by decide +kernel
theorem dX8_add_4 : decode cX8_add 4 = .ok (.aload_n 0, 1) := by decide +kernel
theorem dX8_add_5 : decode cX8_add 5 = .ok (.getfield 9, 3) := by decide +kernel
theorem dX8_add_8 : decode cX8_add 8 = .ok (.arraylength, 1) := by decide +kernel
theorem dX8_add_9 : decode cX8_add 9 = .ok (.if_icmp .ge 23, 3) := by decide +kernel
theorem dX8_add_12 : decode cX8_add 12 = .ok (.aload_n 0, 1) := by decide +kernel
theorem dX8_add_13 : decode cX8_add 13 = .ok (.getfield 9, 3) := by decide +kernel
theorem dX8_add_16 : decode cX8_add 16 = .ok (.aload_n 0, 1) := by decide +kernel
theorem dX8_add_17 : decode cX8_add 17 = .ok (.getfield 15, 3) := by decide +kernel
theorem dX8_add_20 : decode cX8_add 20 = .ok (.iload_n 1, 1) := by decide +kernel
theorem dX8_add_21 : decode cX8_add 21 = .ok (.castore, 1) := by decide +kernel
theorem dX8_add_22 : decode cX8_add 22 = .ok (.aload_n 0, 1) := by decide +kernel
theorem dX8_add_23 : decode cX8_add 23 = .ok (.dup, 1) := by decide +kernel
theorem dX8_add_24 : decode cX8_add 24 = .ok (.getfield 15, 3) := by decide +kernel
theorem dX8_add_27 : decode cX8_add 27 = .ok (.iconst 1, 1) := by decide +kernel
theorem dX8_add_28 : decode cX8_add 28 = .ok (.iadd, 1) := by decide +kernel
theorem dX8_add_29 : decode cX8_add 29 = .ok (.putfield 15, 3) := by decide +kernel
theorem dX8_add_32 : decode cX8_add 32 = .ok (.return_, 1) := by decide +kernel
theorem dX8_addRow_0 : decode cX8_addRow 0 = .ok (.iconst 0, 1) := by decide +kernel
theorem dX8_addRow_1 : decode cX8_addRow 1 = .ok (.istore_n 3, 1) := by decide +kernel
theorem dX8_addRow_2 : decode cX8_addRow 2 = .ok (.iconst 0, 1) := by decide +kernel
theorem dX8_addRow_3 : decode cX8_addRow 3 = .ok (.istore 4, 2) := by decide +kernel
theorem dX8_addRow_5 : decode cX8_addRow 5 = .ok (.iload 4, 2) := by decide +kernel
theorem dX8_addRow_7 : decode cX8_addRow 7 = .ok (.bipush 8, 2) := by decide +kernel
theorem dX8_addRow_9 : decode cX8_addRow 9 = .ok (.if_icmp .ge 68, 3) := by decide +kernel
theorem dX8_addRow_12 : decode cX8_addRow 12 = .ok (.aload_n 1, 1) := by decide +kernel
theorem dX8_addRow_13 : decode cX8_addRow 13 = .ok (.getfield 54, 3) := by decide +kernel
theorem dX8_addRow_16 : decode cX8_addRow 16 = .ok (.bipush 8, 2) := by decide +kernel
theorem dX8_addRow_18 : decode cX8_addRow 18 = .ok (.iload_n 2, 1) := by decide +kernel
theorem dX8_addRow_19 : decode cX8_addRow 19 = .ok (.imul, 1) := by decide +kernel
theorem dX8_addRow_20 : decode cX8_addRow 20 = .ok (.iload 4, 2) := by decide +kernel
theorem dX8_addRow_22 : decode cX8_addRow 22 = .ok (.iadd, 1) := by decide +kernel
theorem dX8_addRow_23 : decode cX8_addRow 23 = .ok (.iaload, 1) := by decide +kernel
theorem dX8_addRow_24 : decode cX8_addRow 24 = .ok (.istore 5, 2) := by decide +kernel
theorem dX8_addRow_26 : decode cX8_addRow 26 = .ok (.iload 5, 2) := by decide +kernel
theorem dX8_addRow_28 : decode cX8_addRow 28 = .ok (.ifCond .ne 9, 3) := by decide +kernel
theorem dX8_addRow_31 : decode cX8_addRow 31 = .ok (.iinc 3 1, 3) := by decide +kernel
theorem dX8_addRow_34 : decode cX8_addRow 34 = .ok (.goto 37, 3) := by decide +kernel
theorem dX8_addRow_37 : decode cX8_addRow 37 = .ok (.aload_n 0, 1) := by decide +kernel
theorem dX8_addRow_38 : decode cX8_addRow 38 = .ok (.iload_n 3, 1) := by decide +kernel
theorem dX8_addRow_39 : decode cX8_addRow 39 = .ok (.invokevirtual 58, 3) := by decide +kernel
theorem dX8_addRow_42 : decode cX8_addRow 42 = .ok (.iconst 0, 1) := by decide +kernel
theorem dX8_addRow_43 : decode cX8_addRow 43 = .ok (.istore_n 3, 1) := by decide +kernel
theorem dX8_addRow_44 : decode cX8_addRow 44 = .ok (.aload_n 0, 1) := by decide +kernel
theorem dX8_addRow_45 : decode cX8_addRow 45 = .ok (.iload 5, 2) := by decide +kernel
theorem dX8_addRow_47 : decode cX8_addRow 47 = .ok (.ifCond .le 13, 3) := by decide +kernel
theorem dX8_addRow_50 : decode cX8_addRow 50 = .ok (.ldc 61, 2) := by decide +kernel
theorem dX8_addRow_52 : decode cX8_addRow 52 = .ok (.iload 5, 2) := by decide +kernel
theorem dX8_addRow_54 : decode cX8_addRow 54 = .ok (.invokevirtual 63, 3) := by decide +kernel
theorem dX8_addRow_57 : decode cX8_addRow 57 = .ok (.goto 11, 3) := by decide +kernel
theorem dX8_addRow_60 : decode cX8_addRow 60 = .ok (.ldc 69, 2) := by decide +kernel
theorem dX8_addRow_62 : decode cX8_addRow 62 = .ok (.iload 5, 2) := by decide +kernel
theorem dX8_addRow_64 : decode cX8_addRow 64 = .ok (.ineg, 1) := by decide +kernel
theorem dX8_addRow_65 : decode cX8_addRow 65 = .ok (.invokevirtual 63, 3) := by decide +kernel
theorem dX8_addRow_68 : decode cX8_addRow 68 = .ok (.invokevirtual 23, 3) := by decide +kernel
theorem dX8_addRow_71 : decode cX8_addRow 71 = .ok (.iinc 4 1, 3) := by decide +kernel
theorem dX8_addRow_74 : decode cX8_addRow 74 = .ok (.goto (-69), 3) := by decide +kernel
theorem dX8_addRow_77 : decode cX8_addRow 77 = .ok (.aload_n 0, 1) := by decide +kernel
theorem dX8_addRow_78 : decode cX8_addRow 78 = .ok (.iload_n 3, 1) := by decide +kernel
theorem dX8_addRow_79 : decode cX8_addRow 79 = .ok (.invokevirtual 58, 3) := by decide +kernel
theorem dX8_addRow_82 : decode cX8_addRow 82 = .ok (.return_, 1) := by decide +kernel
theorem dX8_addFree_0 : decode cX8_addFree 0 = .ok (.iload_n 1, 1) := by decide +kernel
theorem dX8_addFree_1 : decode cX8_addFree 1 = .ok (.ifCond .le 12, 3) := by decide +kernel
theorem dX8_addFree_4 : decode cX8_addFree 4 = .ok (.aload_n 0, 1) := by decide +kernel
theorem dX8_addFree_5 : decode cX8_addFree 5 = .ok (.bipush 48, 2) := by decide +kernel
theorem dX8_addFree_7 : decode cX8_addFree 7 = .ok (.iload_n 1, 1) := by decide +kernel
theorem dX8_addFree_8 : decode cX8_addFree 8 = .ok (.iadd, 1) := by decide +kernel
theorem dX8_addFree_9 : decode cX8_addFree 9 = .ok (.i2c, 1) := by decide +kernel
theorem dX8_addFree_10 : decode cX8_addFree 10 = .ok (.invokevirtual 23, 3) := by decide +kernel
theorem dX8_addFree_13 : decode cX8_addFree 13 = .ok (.return_, 1) := by decide +kernel
theorem dX8_addRights_0 : decode cX8_addRights 0 = .ok (.iconst 0, 1) := by decide +kernel
theorem dX8_addRights_1 : decode cX8_addRights 1 = .ok (.istore_n 2, 1) := by decide +kernel
theorem dX8_addRights_2 : decode cX8_addRights 2 = .ok (.iload_n 2, 1) := by decide +kernel
theorem dX8_addRights_3 : decode cX8_addRights 3 = .ok (.iconst 4, 1) := by decide +kernel
theorem dX8_addRights_4 : decode cX8_addRights 4 = .ok (.if_icmp .ge 27, 3) := by decide +kernel
theorem dX8_addRights_7 : decode cX8_addRights 7 = .ok (.iload_n 1, 1) := by decide +kernel
theorem dX8_addRights_8 : decode cX8_addRights 8 = .ok (.iload_n 2, 1) := by decide +kernel
theorem dX8_addRights_9 : decode cX8_addRights 9 = .ok (.ishr, 1) := by decide +kernel
theorem dX8_addRights_10 : decode cX8_addRights 10 = .ok (.iconst 1, 1) := by decide +kernel
theorem dX8_addRights_11 : decode cX8_addRights 11 = .ok (.iand, 1) := by decide +kernel
theorem dX8_addRights_12 : decode cX8_addRights 12 = .ok (.ifCond .eq 13, 3) := by decide +kernel
theorem dX8_addRights_15 : decode cX8_addRights 15 = .ok (.aload_n 0, 1) := by decide +kernel
theorem dX8_addRights_16 : decode cX8_addRights 16 = .ok (.ldc 71, 2) := by decide +kernel
theorem dX8_addRights_18 : decode cX8_addRights 18 = .ok (.iload_n 2, 1) := by decide +kernel
theorem dX8_addRights_19 : decode cX8_addRights 19 = .ok (.invokevirtual 63, 3) := by decide +kernel
theorem dX8_addRights_22 : decode cX8_addRights 22 = .ok (.invokevirtual 23, 3) := by decide +kernel
theorem dX8_addRights_25 : decode cX8_addRights 25 = .ok (.iinc 2 1, 3) := by decide +kernel
theorem dX8_addRights_28 : decode cX8_addRights 28 = .ok (.goto (-26), 3) := by decide +kernel
theorem dX8_addRights_31 : decode cX8_addRights 31 = .ok (.iload_n 1, 1) := by decide +kernel
theorem dX8_addRights_32 : decode cX8_addRights 32 = .ok (.ifCond .ne 9, 3) := by decide +kernel
theorem dX8_addRights_35 : decode cX8_addRights 35 = .ok (.aload_n 0, 1) := by decide +kernel
theorem dX8_addRights_36 : decode cX8_addRights 36 = .ok (.bipush 45, 2) := by decide +kernel
theorem dX8_addRights_38 : decode cX8_addRights 38 = .ok (.invokevirtual 23, 3) := by decide +kernel
theorem dX8_addRights_41 : decode cX8_addRights 41 = .ok (.return_, 1) := by decide +kernel
theorem dX8_addPassed_0 : decode cX8_addPassed 0 = .ok (.iload_n 1, 1) := by decide +kernel
theorem dX8_addPassed_1 : decode cX8_addPassed 1 = .ok (.iconst (-1), 1) := by decide +kernel
theorem dX8_addPassed_2 : decode cX8_addPassed 2 = .ok (.if_icmp .ne 10, 3) := by decide +kernel
theorem dX8_addPassed_5 : decode cX8_addPassed 5 = .ok (.aload_n 0, 1) := by decide +kernel
theorem dX8_addPassed_6 : decode cX8_addPassed 6 = .ok (.bipush 45, 2) := by decide +kernel
theorem dX8_addPassed_8 : decode cX8_addPassed 8 = .ok (.invokevirtual 23, 3) := by decide +kernel
theorem dX8_addPassed_11 : decode cX8_addPassed 11 = .ok (.return_, 1) := by decide +kernel
theorem dX8_addPassed_12 : decode cX8_addPassed 12 = .ok (.aload_n 0, 1) := by decide +kernel
theorem dX8_addPassed_13 : decode cX8_addPassed 13 = .ok (.bipush 97, 2) := by decide +kernel
theorem dX8_addPassed_15 : decode cX8_addPassed 15 = .ok (.iload_n 1, 1) := by decide +kernel
theorem dX8_addPassed_16 : decode cX8_addPassed 16 = .ok (.bipush 8, 2) := by decide +kernel
theorem dX8_addPassed_18 : decode cX8_addPassed 18 = .ok (.irem, 1) := by decide +kernel
theorem dX8_addPassed_19 : decode cX8_addPassed 19 = .ok (.iadd, 1) := by decide +kernel
theorem dX8_addPassed_20 : decode cX8_addPassed 20 = .ok (.i2c, 1) := by decide +kernel
theorem dX8_addPassed_21 : decode cX8_addPassed 21 = .ok (.invokevirtual 23, 3) := by decide +kernel
theorem dX8_addPassed_24 : decode cX8_addPassed 24 = .ok (.aload_n 0, 1) := by decide +kernel
theorem dX8_addPassed_25 : decode cX8_addPassed 25 = .ok (.bipush 49, 2) := by decide +kernel
theorem dX8_addPassed_27 : decode cX8_addPassed 27 = .ok (.iload_n 1, 1) := by decide +kernel
theorem dX8_addPassed_28 : decode cX8_addPassed 28 = .ok (.bipush 8, 2) := by decide +kernel
theorem dX8_addPassed_30 : decode cX8_addPassed 30 = .ok (.idiv, 1) := by decide +kernel
theorem dX8_addPassed_31 : decode cX8_addPassed 31 = .ok (.iadd, 1) := by decide +kernel
theorem dX8_addPassed_32 : decode cX8_addPassed 32 = .ok (.i2c, 1) := by decide +kernel
theorem dX8_addPassed_33 : decode cX8_addPassed 33 = .ok (.invokevirtual 23, 3) := by decide +kernel
theorem dX8_addPassed_36 : decode cX8_addPassed 36 = .ok (.return_, 1) := by decide +kernel
theorem dX8_addNumber_0 : decode cX8_addNumber 0 = .ok (.iconst 1, 1) := by decide +kernel
theorem dX8_addNumber_1 : decode cX8_addNumber 1 = .ok (.istore_n 2, 1) := by decide +kernel
theorem dX8_addNumber_2 : decode cX8_addNumber 2 = .ok (.iload_n 2, 1) := by decide +kernel
theorem dX8_addNumber_3 : decode cX8_addNumber 3 = .ok (.iload_n 1, 1) := by decide +kernel
theorem dX8_addNumber_4 : decode cX8_addNumber 4 = .ok (.bipush 10, 2) := by decide +kernel
theorem dX8_addNumber_6 : decode cX8_addNumber 6 = .ok (.idiv, 1) := by decide +kernel
theorem dX8_addNumber_7 : decode cX8_addNumber 7 = .ok (.if_icmp .gt 11, 3) := by decide +kernel
theorem dX8_addNumber_10 : decode cX8_addNumber 10 = .ok (.iload_n 2, 1) := by decide +kernel
theorem dX8_addNumber_11 : decode cX8_addNumber 11 = .ok (.bipush 10, 2) := by decide +kernel
theorem dX8_addNumber_13 : decode cX8_addNumber 13 = .ok (.imul, 1) := by decide +kernel
theorem dX8_addNumber_14 : decode cX8_addNumber 14 = .ok (.istore_n 2, 1) := by decide +kernel
theorem dX8_addNumber_15 : decode cX8_addNumber 15 = .ok (.goto (-13), 3) := by decide +kernel
theorem dX8_addNumber_18 : decode cX8_addNumber 18 = .ok (.iload_n 2, 1) := by decide +kernel
theorem dX8_addNumber_19 : decode cX8_addNumber 19 = .ok (.ifCond .le 25, 3) := by decide +kernel
theorem dX8_addNumber_22 : decode cX8_addNumber 22 = .ok (.aload_n 0, 1) := by decide +kernel
theorem dX8_addNumber_23 : decode cX8_addNumber 23 = .ok (.bipush 48, 2) := by decide +kernel
theorem dX8_addNumber_25 : decode cX8_addNumber 25 = .ok (.iload_n 1, 1) := by decide +kernel
theorem dX8_addNumber_26 : decode cX8_addNumber 26 = .ok (.iload_n 2, 1) := by decide +kernel
theorem dX8_addNumber_27 : decode cX8_addNumber 27 = .ok (.idiv, 1) := by decide +kernel
theorem dX8_addNumber_28 : decode cX8_addNumber 28 = .ok (.bipush 10, 2) := by decide +kernel
theorem dX8_addNumber_30 : decode cX8_addNumber 30 = .ok (.irem, 1) := by decide +kernel
theorem dX8_addNumber_31 : decode cX8_addNumber 31 = .ok (.iadd, 1) := by decide +kernel
theorem dX8_addNumber_32 : decode cX8_addNumber 32 = .ok (.i2c, 1) := by decide +kernel
theorem dX8_addNumber_33 : decode cX8_addNumber 33 = .ok (.invokevirtual 23, 3) := by decide +kernel
theorem dX8_addNumber_36 : decode cX8_addNumber 36 = .ok (.iload_n 2, 1) := by decide +kernel
theorem dX8_addNumber_37 : decode cX8_addNumber 37 = .ok (.bipush 10, 2) := by decide +kernel
theorem dX8_addNumber_39 : decode cX8_addNumber 39 = .ok (.idiv, 1) := by decide +kernel
theorem dX8_addNumber_40 : decode cX8_addNumber 40 = .ok (.istore_n 2, 1) := by decide +kernel
theorem dX8_addNumber_41 : decode cX8_addNumber 41 = .ok (.goto (-23), 3) := by decide +kernel
theorem dX8_addNumber_44 : decode cX8_addNumber 44 = .ok (.return_, 1) := by decide +kernel
theorem dX9_init_0 : decode cX9_init 0 = .ok (.aload_n 0, 1) := by decide +kernel
theorem dX9_init_1 : decode cX9_init 1 = .ok (.invokespecial 3, 3) := by decide +kernel
theorem dX9_init_4 : decode cX9_init 4 = .ok (.new 9, 3) := by decide +kernel
theorem dX9_init_7 : decode cX9_init 7 = .ok (.dup, 1) := by decide +kernel
theorem dX9_init_8 : decode cX9_init 8 = .ok (.invokespecial 11, 3) := by decide +kernel
theorem dX9_init_11 : decode cX9_init 11 = .ok (.astore_n 1, 1) := by decide +kernel
theorem dX9_init_12 : decode cX9_init 12 = .ok (.new 12, 3) := by decide +kernel
theorem dX9_init_15 : decode cX9_init 15 = .ok (.dup, 1) := by decide +kernel
theorem dX9_init_16 : decode cX9_init 16 = .ok (.invokespecial 14, 3) := by decide +kernel
theorem dX9_init_19 : decode cX9_init 19 = .ok (.astore_n 2, 1) := by decide +kernel
theorem dX9_init_20 : decode cX9_init 20 = .ok (.aload_n 0, 1) := by decide +kernel
theorem dX9_init_21 : decode cX9_init 21 = .ok (.new 15, 3) := by decide +kernel
theorem dX9_init_24 : decode cX9_init 24 = .ok (.dup, 1) := by decide +kernel
theorem dX9_init_25 : decode cX9_init 25 = .ok (.aload_n 1, 1) := by decide +kernel
theorem dX9_init_26 : decode cX9_init 26 = .ok (.aload_n 2, 1) := by decide +kernel
theorem dX9_init_27 : decode cX9_init 27 = .ok (.invokespecial 17, 3) := by decide +kernel
theorem dX9_init_30 : decode cX9_init 30 = .ok (.putfield 20, 3) := by decide +kernel
theorem dX9_init_33 : decode cX9_init 33 = .ok (.aload_n 0, 1) := by decide +kernel
theorem dX9_init_34 : decode cX9_init 34 = .ok (.getfield 20, 3) := by decide +kernel
theorem dX9_init_37 : decode cX9_init 37 = .ok (.invokevirtual 24, 3) := by decide +kernel
theorem dX9_init_40 : decode cX9_init 40 = .ok (.aload_n 0, 1) := by decide +kernel
theorem dX9_init_41 : decode cX9_init 41 = .ok (.new 27, 3) := by decide +kernel
theorem dX9_init_44 : decode cX9_init 44 = .ok (.dup, 1) := by decide +kernel
theorem dX9_init_45 : decode cX9_init 45 = .ok (.aload_n 0, 1) := by decide +kernel
theorem dX9_init_46 : decode cX9_init 46 = .ok (.getfield 20, 3) := by decide +kernel
theorem dX9_init_49 : decode cX9_init 49 = .ok (.aload_n 1, 1) := by decide +kernel
theorem dX9_init_50 : decode cX9_init 50 = .ok (.invokespecial 29, 3) := by decide +kernel
theorem dX9_init_53 : decode cX9_init 53 = .ok (.putfield 32, 3) := by decide +kernel
theorem dX9_init_56 : decode cX9_init 56 = .ok (.aload_n 0, 1) := by decide +kernel
theorem dX9_init_57 : decode cX9_init 57 = .ok (.new 36, 3) := by decide +kernel
theorem dX9_init_60 : decode cX9_init 60 = .ok (.dup, 1) := by decide +kernel
theorem dX9_init_61 : decode cX9_init 61 = .ok (.aload_n 0, 1) := by decide +kernel
theorem dX9_init_62 : decode cX9_init 62 = .ok (.getfield 20, 3) := by decide +kernel
theorem dX9_init_65 : decode cX9_init 65 = .ok (.invokespecial 38, 3) := by decide +kernel
theorem dX9_init_68 : decode cX9_init 68 = .ok (.putfield 41, 3) := by decide +kernel
theorem dX9_init_71 : decode cX9_init 71 = .ok (.aload_n 0, 1) := by decide +kernel
theorem dX9_init_72 : decode cX9_init 72 = .ok (.new 45, 3) := by decide +kernel
theorem dX9_init_75 : decode cX9_init 75 = .ok (.dup, 1) := by decide +kernel
theorem dX9_init_76 : decode cX9_init 76 = .ok (.aload_n 0, 1) := by decide +kernel
theorem dX9_init_77 : decode cX9_init 77 = .ok (.getfield 20, 3) := by decide +kernel
theorem dX9_init_80 : decode cX9_init 80 = .ok (.aload_n 0, 1) := by decide +kernel
theorem dX9_init_81 : decode cX9_init 81 = .ok (.getfield 32, 3) := by decide +kernel
theorem dX9_init_84 : decode cX9_init 84 = .ok (.aload_n 0, 1) := by decide +kernel
theorem dX9_init_85 : decode cX9_init 85 = .ok (.getfield 41, 3) := by decide +kernel
theorem dX9_init_88 : decode cX9_init 88 = .ok (.invokespecial 47, 3) := by decide +kernel
theorem dX9_init_91 : decode cX9_init 91 = .ok (.putfield 50, 3) := by decide +kernel
theorem dX9_init_94 : decode cX9_init 94 = .ok (.aload_n 0, 1) := by decide +kernel
theorem dX9_init_95 : decode cX9_init 95 = .ok (.new 54, 3) := by decide +kernel
theorem dX9_init_98 : decode cX9_init 98 = .ok (.dup, 1) := by decide +kernel
theorem dX9_init_99 : decode cX9_init 99 = .ok (.new 15, 3) := by decide +kernel
theorem dX9_init_102 : decode cX9_init 102 = .ok (.dup, 1) := by decide +kernel
theorem dX9_init_103 : decode cX9_init 103 = .ok (.aload_n 1, 1) := by decide +kernel
theorem dX9_init_104 : decode cX9_init 104 = .ok (.aload_n 2, 1) := by decide +kernel
theorem dX9_init_105 : decode cX9_init 105 = .ok (.invokespecial 17, 3) := by decide +kernel
theorem dX9_init_108 : decode cX9_init 108 = .ok (.invokespecial 56, 3) := by decide +kernel
theorem dX9_init_111 : decode cX9_init 111 = .ok (.putfield 57, 3) := by decide +kernel
theorem dX9_init_114 : decode cX9_init 114 = .ok (.aload_n 0, 1) := by decide +kernel
theorem dX9_init_115 : decode cX9_init 115 = .ok (.new 61, 3) := by decide +kernel
theorem dX9_init_118 : decode cX9_init 118 = .ok (.dup, 1) := by decide +kernel
theorem dX9_init_119 : decode cX9_init 119 = .ok (.invokespecial 63, 3) := by decide +kernel
theorem dX9_init_122 : decode cX9_init 122 = .ok (.putfield 64, 3) := by decide +kernel
theorem dX9_init_125 : decode cX9_init 125 = .ok (.aload_n 0, 1) := by decide +kernel
theorem dX9_init_126 : decode cX9_init 126 = .ok (.sipush 432, 3) := by decide +kernel
theorem dX9_init_129 : decode cX9_init 129 = .ok (.newarray .int, 2) := by decide +kernel
theorem dX9_init_131 : decode cX9_init 131 = .ok (.putfield 68, 3) := by decide +kernel
theorem dX9_init_134 : decode cX9_init 134 = .ok (.aload_n 0, 1) := by decide +kernel
theorem dX9_init_135 : decode cX9_init 135 = .ok (.iconst (-1), 1) := by decide +kernel
theorem dX9_init_136 : decode cX9_init 136 = .ok (.putfield 72, 3) := by decide +kernel
theorem dX9_init_139 : decode cX9_init 139 = .ok (.aload_n 0, 1) := by decide +kernel
theorem dX9_init_140 : decode cX9_init 140 = .ok (.iconst (-1), 1) := by decide +kernel
theorem dX9_init_141 : decode cX9_init 141 = .ok (.putfield 76, 3) := by decide +kernel
theorem dX9_init_144 : decode cX9_init 144 = .ok (.return_, 1) := by decide +kernel
theorem dX9_type_0 : decode cX9_type 0 = .ok (.iload_n 3, 1) := by decide +kernel
theorem dX9_type_1 : decode cX9_type 1 = .ok (.iconst 1, 1) := by decide +kernel
theorem dX9_type_2 : decode cX9_type 2 = .ok (.if_icmp .lt 17, 3) := by decide +kernel
theorem dX9_type_5 : decode cX9_type 5 = .ok (.iload_n 3, 1) := by decide +kernel
theorem dX9_type_6 : decode cX9_type 6 = .ok (.bipush 8, 2) := by decide +kernel
theorem dX9_type_8 : decode cX9_type 8 = .ok (.if_icmp .gt 11, 3) := by decide +kernel
theorem dX9_type_11 : decode cX9_type 11 = .ok (.lload_n 1, 1) := by decide +kernel
theorem dX9_type_12 : decode cX9_type 12 = .ok (.iload_n 3, 1) := by decide +kernel
theorem dX9_type_13 : decode cX9_type 13 = .ok (.invokestatic 79, 3) := by decide +kernel
theorem dX9_type_16 : decode cX9_type 16 = .ok (.ifCond .ne 11, 3) := by decide +kernel
theorem dX9_type_19 : decode cX9_type 19 = .ok (.new 83, 3) := by decide +kernel
theorem dX9_type_22 : decode cX9_type 22 = .ok (.dup, 1) := by decide +kernel
theorem dX9_type_23 : decode cX9_type 23 = .ok (.invokespecial 85, 3) := by decide +kernel
theorem dX9_type_26 : decode cX9_type 26 = .ok (.athrow, 1) := by decide +kernel
theorem dX9_type_27 : decode cX9_type 27 = .ok (.aload_n 0, 1) := by decide +kernel
theorem dX9_type_28 : decode cX9_type 28 = .ok (.getfield 57, 3) := by decide +kernel
theorem dX9_type_31 : decode cX9_type 31 = .ok (.iload_n 3, 1) := by decide +kernel
theorem dX9_type_32 : decode cX9_type 32 = .ok (.invokevirtual 86, 3) := by decide +kernel
theorem dX9_type_35 : decode cX9_type 35 = .ok (.ifCond .ne 11, 3) := by decide +kernel
theorem dX9_type_38 : decode cX9_type 38 = .ok (.new 90, 3) := by decide +kernel
theorem dX9_type_41 : decode cX9_type 41 = .ok (.dup, 1) := by decide +kernel
theorem dX9_type_42 : decode cX9_type 42 = .ok (.invokespecial 92, 3) := by decide +kernel
theorem dX9_type_45 : decode cX9_type 45 = .ok (.athrow, 1) := by decide +kernel
theorem dX9_type_46 : decode cX9_type 46 = .ok (.aload_n 0, 1) := by decide +kernel
theorem dX9_type_47 : decode cX9_type 47 = .ok (.getfield 57, 3) := by decide +kernel
theorem dX9_type_50 : decode cX9_type 50 = .ok (.lload_n 1, 1) := by decide +kernel
theorem dX9_type_51 : decode cX9_type 51 = .ok (.iload_n 3, 1) := by decide +kernel
theorem dX9_type_52 : decode cX9_type 52 = .ok (.invokevirtual 93, 3) := by decide +kernel
theorem dX9_type_55 : decode cX9_type 55 = .ok (.ireturn, 1) := by decide +kernel
theorem dX9_read_0 : decode cX9_read 0 = .ok (.aload_n 0, 1) := by decide +kernel
theorem dX9_read_1 : decode cX9_read 1 = .ok (.getfield 57, 3) := by decide +kernel
theorem dX9_read_4 : decode cX9_read 4 = .ok (.invokevirtual 97, 3) := by decide +kernel
theorem dX9_read_7 : decode cX9_read 7 = .ok (.istore_n 1, 1) := by decide +kernel
theorem dX9_read_8 : decode cX9_read 8 = .ok (.iload_n 1, 1) := by decide +kernel
theorem dX9_read_9 : decode cX9_read 9 = .ok (.ifCond .ne 29, 3) := by decide +kernel
theorem dX9_read_12 : decode cX9_read 12 = .ok (.aload_n 0, 1) := by decide +kernel
theorem dX9_read_13 : decode cX9_read 13 = .ok (.getfield 20, 3) := by decide +kernel
theorem dX9_read_16 : decode cX9_read 16 = .ok (.aload_n 0, 1) := by decide +kernel
theorem dX9_read_17 : decode cX9_read 17 = .ok (.getfield 57, 3) := by decide +kernel
theorem dX9_read_20 : decode cX9_read 20 = .ok (.getfield 101, 3) := by decide +kernel
theorem dX9_read_23 : decode cX9_read 23 = .ok (.invokevirtual 104, 3) := by decide +kernel
theorem dX9_read_26 : decode cX9_read 26 = .ok (.aload_n 0, 1) := by decide +kernel
theorem dX9_read_27 : decode cX9_read 27 = .ok (.getfield 41, 3) := by decide +kernel
theorem dX9_read_30 : decode cX9_read 30 = .ok (.invokevirtual 107, 3) := by decide +kernel
theorem dX9_read_33 : decode cX9_read 33 = .ok (.aload_n 0, 1) := by decide +kernel
theorem dX9_read_34 : decode cX9_read 34 = .ok (.iconst (-1), 1) := by decide +kernel
theorem dX9_read_35 : decode cX9_read 35 = .ok (.putfield 72, 3) := by decide +kernel
theorem dX9_read_38 : decode cX9_read 38 = .ok (.iload_n 1, 1) := by decide +kernel
theorem dX9_read_39 : decode cX9_read 39 = .ok (.ireturn, 1) := by decide +kernel
theorem dX9_place_0 : decode cX9_place 0 = .ok (.aload_n 0, 1) := by decide +kernel
theorem dX9_place_1 : decode cX9_place 1 = .ok (.getfield 57, 3) := by decide +kernel
theorem dX9_place_4 : decode cX9_place 4 = .ok (.getfield 110, 3) := by decide +kernel
theorem dX9_place_7 : decode cX9_place 7 = .ok (.ireturn, 1) := by decide +kernel
theorem dX9_write_0 : decode cX9_write 0 = .ok (.aload_n 0, 1) := by decide +kernel
theorem dX9_write_1 : decode cX9_write 1 = .ok (.getfield 64, 3) := by decide +kernel
theorem dX9_write_4 : decode cX9_write 4 = .ok (.aload_n 0, 1) := by decide +kernel
theorem dX9_write_5 : decode cX9_write 5 = .ok (.getfield 20, 3) := by decide +kernel
theorem dX9_write_8 : decode cX9_write 8 = .ok (.invokevirtual 113, 3) := by decide +kernel
theorem dX9_write_11 : decode cX9_write 11 = .ok (.ireturn, 1) := by decide +kernel
theorem dX9_written_0 : decode cX9_written 0 = .ok (.iload_n 1, 1) := by decide +kernel
theorem dX9_written_1 : decode cX9_written 1 = .ok (.ifCond .lt 14, 3) := by decide +kernel
theorem dX9_written_4 : decode cX9_written 4 = .ok (.iload_n 1, 1) := by decide +kernel
theorem dX9_written_5 : decode cX9_written 5 = .ok (.aload_n 0, 1) := by decide +kernel
theorem dX9_written_6 : decode cX9_written 6 = .ok (.getfield 64, 3) := by decide +kernel
theorem dX9_written_9 : decode cX9_written 9 = .ok (.getfield 117, 3) := by decide +kernel
theorem dX9_written_12 : decode cX9_written 12 = .ok (.if_icmp .lt 11, 3) := by decide +kernel
theorem dX9_written_15 : decode cX9_written 15 = .ok (.new 120, 3) := by decide +kernel
theorem dX9_written_18 : decode cX9_written 18 = .ok (.dup, 1) := by decide +kernel
theorem dX9_written_19 : decode cX9_written 19 = .ok (.invokespecial 122, 3) := by decide +kernel
theorem dX9_written_22 : decode cX9_written 22 = .ok (.athrow, 1) := by decide +kernel
theorem dX9_written_23 : decode cX9_written 23 = .ok (.aload_n 0, 1) := by decide +kernel
theorem dX9_written_24 : decode cX9_written 24 = .ok (.getfield 64, 3) := by decide +kernel
theorem dX9_written_27 : decode cX9_written 27 = .ok (.getfield 123, 3) := by decide +kernel
theorem dX9_written_30 : decode cX9_written 30 = .ok (.iload_n 1, 1) := by decide +kernel
theorem dX9_written_31 : decode cX9_written 31 = .ok (.caload, 1) := by decide +kernel
theorem dX9_written_32 : decode cX9_written 32 = .ok (.ireturn, 1) := by decide +kernel
theorem dX9_man_0 : decode cX9_man 0 = .ok (.iload_n 1, 1) := by decide +kernel
theorem dX9_man_1 : decode cX9_man 1 = .ok (.invokestatic 127, 3) := by decide +kernel
theorem dX9_man_4 : decode cX9_man 4 = .ok (.ifCond .ne 11, 3) := by decide +kernel
theorem dX9_man_7 : decode cX9_man 7 = .ok (.new 120, 3) := by decide +kernel
theorem dX9_man_10 : decode cX9_man 10 = .ok (.dup, 1) := by decide +kernel
theorem dX9_man_11 : decode cX9_man 11 = .ok (.invokespecial 122, 3) := by decide +kernel
theorem dX9_man_14 : decode cX9_man 14 = .ok (.athrow, 1) := by decide +kernel
theorem dX9_man_15 : decode cX9_man 15 = .ok (.aload_n 0, 1) := by decide +kernel
theorem dX9_man_16 : decode cX9_man 16 = .ok (.getfield 20, 3) := by decide +kernel
theorem dX9_man_19 : decode cX9_man 19 = .ok (.getfield 130, 3) := by decide +kernel
theorem dX9_man_22 : decode cX9_man 22 = .ok (.iload_n 1, 1) := by decide +kernel
theorem dX9_man_23 : decode cX9_man 23 = .ok (.iaload, 1) := by decide +kernel
theorem dX9_man_24 : decode cX9_man 24 = .ok (.ireturn, 1) := by decide +kernel
theorem dX9_about_0 : decode cX9_about 0 = .ok (.iload_n 1, 1) := by decide +kernel
theorem dX9_about_1 : decode cX9_about 1 = .ok (.tableswitch 102 0 5 #[39, 47, 55, 63, 71, 79], 39) := by decide +kernel
theorem dX9_about_40 : decode cX9_about 40 = .ok (.aload_n 0, 1) := by decide +kernel
theorem dX9_about_41 : decode cX9_about 41 = .ok (.getfield 20, 3) := by decide +kernel
theorem dX9_about_44 : decode cX9_about 44 = .ok (.getfield 133, 3) := by decide +kernel
theorem dX9_about_47 : decode cX9_about 47 = .ok (.ireturn, 1) := by decide +kernel
theorem dX9_about_48 : decode cX9_about 48 = .ok (.aload_n 0, 1) := by decide +kernel
theorem dX9_about_49 : decode cX9_about 49 = .ok (.getfield 20, 3) := by decide +kernel
theorem dX9_about_52 : decode cX9_about 52 = .ok (.getfield 136, 3) := by decide +kernel
theorem dX9_about_55 : decode cX9_about 55 = .ok (.ireturn, 1) := by decide +kernel
theorem dX9_about_56 : decode cX9_about 56 = .ok (.aload_n 0, 1) := by decide +kernel
theorem dX9_about_57 : decode cX9_about 57 = .ok (.getfield 20, 3) := by decide +kernel
theorem dX9_about_60 : decode cX9_about 60 = .ok (.getfield 139, 3) := by decide +kernel
theorem dX9_about_63 : decode cX9_about 63 = .ok (.ireturn, 1) := by decide +kernel
theorem dX9_about_64 : decode cX9_about 64 = .ok (.aload_n 0, 1) := by decide +kernel
theorem dX9_about_65 : decode cX9_about 65 = .ok (.getfield 20, 3) := by decide +kernel
theorem dX9_about_68 : decode cX9_about 68 = .ok (.getfield 142, 3) := by decide +kernel
theorem dX9_about_71 : decode cX9_about 71 = .ok (.ireturn, 1) := by decide +kernel
theorem dX9_about_72 : decode cX9_about 72 = .ok (.aload_n 0, 1) := by decide +kernel
theorem dX9_about_73 : decode cX9_about 73 = .ok (.getfield 20, 3) := by decide +kernel
theorem dX9_about_76 : decode cX9_about 76 = .ok (.getfield 145, 3) := by decide +kernel
theorem dX9_about_79 : decode cX9_about 79 = .ok (.ireturn, 1) := by decide +kernel
theorem dX9_about_80 : decode cX9_about 80 = .ok (.aload_n 0, 1) := by decide +kernel
theorem dX9_about_81 : decode cX9_about 81 = .ok (.getfield 20, 3) := by decide +kernel
theorem dX9_about_84 : decode cX9_about 84 = .ok (.aload_n 0, 1) := by decide +kernel
theorem dX9_about_85 : decode cX9_about 85 = .ok (.getfield 20, 3) := by decide +kernel
theorem dX9_about_88 : decode cX9_about 88 = .ok (.getfield 133, 3) := by decide +kernel
theorem dX9_about_91 : decode cX9_about 91 = .ok (.invokevirtual 148, 3) := by decide +kernel
theorem dX9_about_94 : decode cX9_about 94 = .ok (.ifCond .eq 7, 3) := by decide +kernel
theorem dX9_about_97 : decode cX9_about 97 = .ok (.iconst 1, 1) := by decide +kernel
theorem dX9_about_98 : decode cX9_about 98 = .ok (.goto 4, 3) := by decide +kernel
theorem dX9_about_101 : decode cX9_about 101 = .ok (.iconst 0, 1) := by decide +kernel
theorem dX9_about_102 : decode cX9_about 102 = .ok (.ireturn, 1) := by decide +kernel
theorem dX9_about_103 : decode cX9_about 103 = .ok (.new 83, 3) := by decide +kernel
theorem dX9_about_106 : decode cX9_about 106 = .ok (.dup, 1) := by decide +kernel
theorem dX9_about_107 : decode cX9_about 107 = .ok (.invokespecial 85, 3) := by decide +kernel
theorem dX9_about_110 : decode cX9_about 110 = .ok (.athrow, 1) := by decide +kernel
theorem dX9_state_0 : decode cX9_state 0 = .ok (.aload_n 0, 1) := by decide +kernel
theorem dX9_state_1 : decode cX9_state 1 = .ok (.invokevirtual 151, 3) := by decide +kernel
theorem dX9_state_4 : decode cX9_state 4 = .ok (.ifCond .ne 26, 3) := by decide +kernel
theorem dX9_state_7 : decode cX9_state 7 = .ok (.aload_n 0, 1) := by decide +kernel
theorem dX9_state_8 : decode cX9_state 8 = .ok (.getfield 20, 3) := by decide +kernel
theorem dX9_state_11 : decode cX9_state 11 = .ok (.aload_n 0, 1) := by decide +kernel
theorem dX9_state_12 : decode cX9_state 12 = .ok (.getfield 20, 3) := by decide +kernel
theorem dX9_state_15 : decode cX9_state 15 = .ok (.getfield 133, 3) := by decide +kernel
theorem dX9_state_18 : decode cX9_state 18 = .ok (.invokevirtual 148, 3) := by decide +kernel
theorem dX9_state_21 : decode cX9_state 21 = .ok (.ifCond .eq 7, 3) := by decide +kernel
theorem dX9_state_24 : decode cX9_state 24 = .ok (.iconst 1, 1) := by decide +kernel
theorem dX9_state_25 : decode cX9_state 25 = .ok (.goto 4, 3) := by decide +kernel
theorem dX9_state_28 : decode cX9_state 28 = .ok (.iconst 2, 1) := by decide +kernel
theorem dX9_state_29 : decode cX9_state 29 = .ok (.ireturn, 1) := by decide +kernel
theorem dX9_state_30 : decode cX9_state 30 = .ok (.aload_n 0, 1) := by decide +kernel
theorem dX9_state_31 : decode cX9_state 31 = .ok (.getfield 20, 3) := by decide +kernel
theorem dX9_state_34 : decode cX9_state 34 = .ok (.invokevirtual 154, 3) := by decide +kernel
theorem dX9_state_37 : decode cX9_state 37 = .ok (.ifCond .eq 5, 3) := by decide +kernel
theorem dX9_state_40 : decode cX9_state 40 = .ok (.iconst 3, 1) := by decide +kernel
theorem dX9_state_41 : decode cX9_state 41 = .ok (.ireturn, 1) := by decide +kernel
theorem dX9_state_42 : decode cX9_state 42 = .ok (.aload_n 0, 1) := by decide +kernel
theorem dX9_state_43 : decode cX9_state 43 = .ok (.getfield 41, 3) := by decide +kernel
theorem dX9_state_46 : decode cX9_state 46 = .ok (.invokevirtual 158, 3) := by decide +kernel
theorem dX9_state_49 : decode cX9_state 49 = .ok (.ifCond .eq 5, 3) := by decide +kernel
theorem dX9_state_52 : decode cX9_state 52 = .ok (.iconst 4, 1) := by decide +kernel
theorem dX9_state_53 : decode cX9_state 53 = .ok (.ireturn, 1) := by decide +kernel
theorem dX9_state_54 : decode cX9_state 54 = .ok (.aload_n 0, 1) := by decide +kernel
theorem dX9_state_55 : decode cX9_state 55 = .ok (.getfield 20, 3) := by decide +kernel
theorem dX9_state_58 : decode cX9_state 58 = .ok (.invokevirtual 161, 3) := by decide +kernel
theorem dX9_state_61 : decode cX9_state 61 = .ok (.ifCond .eq 7, 3) := by decide +kernel
theorem dX9_state_64 : decode cX9_state 64 = .ok (.iconst 5, 1) := by decide +kernel
theorem dX9_state_65 : decode cX9_state 65 = .ok (.goto 4, 3) := by decide +kernel
theorem dX9_state_68 : decode cX9_state 68 = .ok (.iconst 0, 1) := by decide +kernel
theorem dX9_state_69 : decode cX9_state 69 = .ok (.ireturn, 1) := by decide +kernel
theorem dX9_attacked_0 : decode cX9_attacked 0 = .ok (.iload_n 1, 1) := by decide +kernel
theorem dX9_attacked_1 : decode cX9_attacked 1 = .ok (.invokestatic 127, 3) := by decide +kernel
theorem dX9_attacked_4 : decode cX9_attacked 4 = .ok (.ifCond .ne 11, 3) := by decide +kernel
theorem dX9_attacked_7 : decode cX9_attacked 7 = .ok (.new 120, 3) := by decide +kernel
theorem dX9_attacked_10 : decode cX9_attacked 10 = .ok (.dup, 1) := by decide +kernel
theorem dX9_attacked_11 : decode cX9_attacked 11 = .ok (.invokespecial 122, 3) := by decide +kernel
theorem dX9_attacked_14 : decode cX9_attacked 14 = .ok (.athrow, 1) := by decide +kernel
theorem dX9_attacked_15 : decode cX9_attacked 15 = .ok (.iload_n 2, 1) := by decide +kernel
theorem dX9_attacked_16 : decode cX9_attacked 16 = .ok (.ifCond .eq 16, 3) := by decide +kernel
theorem dX9_attacked_19 : decode cX9_attacked 19 = .ok (.iload_n 2, 1) := by decide +kernel
theorem dX9_attacked_20 : decode cX9_attacked 20 = .ok (.iconst 1, 1) := by decide +kernel
theorem dX9_attacked_21 : decode cX9_attacked 21 = .ok (.if_icmp .eq 11, 3) := by decide +kernel
theorem dX9_attacked_24 : decode cX9_attacked 24 = .ok (.new 83, 3) := by decide +kernel
theorem dX9_attacked_27 : decode cX9_attacked 27 = .ok (.dup, 1) := by decide +kernel
theorem dX9_attacked_28 : decode cX9_attacked 28 = .ok (.invokespecial 85, 3) := by decide +kernel
theorem dX9_attacked_31 : decode cX9_attacked 31 = .ok (.athrow, 1) := by decide +kernel
theorem dX9_attacked_32 : decode cX9_attacked 32 = .ok (.aload_n 0, 1) := by decide +kernel
theorem dX9_attacked_33 : decode cX9_attacked 33 = .ok (.getfield 20, 3) := by decide +kernel
theorem dX9_attacked_36 : decode cX9_attacked 36 = .ok (.iload_n 1, 1) := by decide +kernel
theorem dX9_attacked_37 : decode cX9_attacked 37 = .ok (.iload_n 2, 1) := by decide +kernel
theorem dX9_attacked_38 : decode cX9_attacked 38 = .ok (.aload_n 0, 1) := by decide +kernel
theorem dX9_attacked_39 : decode cX9_attacked 39 = .ok (.getfield 20, 3) := by decide +kernel
theorem dX9_attacked_42 : decode cX9_attacked 42 = .ok (.invokevirtual 164, 3) := by decide +kernel
theorem dX9_attacked_45 : decode cX9_attacked 45 = .ok (.invokevirtual 168, 3) := by decide +kernel
theorem dX9_attacked_48 : decode cX9_attacked 48 = .ok (.ireturn, 1) := by decide +kernel
theorem dX9_moves_0 : decode cX9_moves 0 = .ok (.aload_n 0, 1) := by decide +kernel
theorem dX9_moves_1 : decode cX9_moves 1 = .ok (.invokevirtual 151, 3) := by decide +kernel
theorem dX9_moves_4 : decode cX9_moves 4 = .ok (.ireturn, 1) := by decide +kernel
theorem dX9_move_0 : decode cX9_move 0 = .ok (.iload_n 1, 1) := by decide +kernel
theorem dX9_move_1 : decode cX9_move 1 = .ok (.ifCond .lt 11, 3) := by decide +kernel
theorem dX9_move_4 : decode cX9_move 4 = .ok (.iload_n 1, 1) := by decide +kernel
theorem dX9_move_5 : decode cX9_move 5 = .ok (.aload_n 0, 1) := by decide +kernel
theorem dX9_move_6 : decode cX9_move 6 = .ok (.invokevirtual 151, 3) := by decide +kernel
theorem dX9_move_9 : decode cX9_move 9 = .ok (.if_icmp .lt 11, 3) := by decide +kernel
theorem dX9_move_12 : decode cX9_move 12 = .ok (.new 120, 3) := by decide +kernel
theorem dX9_move_15 : decode cX9_move 15 = .ok (.dup, 1) := by decide +kernel
theorem dX9_move_16 : decode cX9_move 16 = .ok (.invokespecial 122, 3) := by decide +kernel
theorem dX9_move_19 : decode cX9_move 19 = .ok (.athrow, 1) := by decide +kernel
theorem dX9_move_20 : decode cX9_move 20 = .ok (.iload_n 2, 1) := by decide +kernel
theorem dX9_move_21 : decode cX9_move 21 = .ok (.invokestatic 172, 3) := by decide +kernel
theorem dX9_move_24 : decode cX9_move 24 = .ok (.ifCond .ne 11, 3) := by decide +kernel
theorem dX9_move_27 : decode cX9_move 27 = .ok (.new 83, 3) := by decide +kernel
theorem dX9_move_30 : decode cX9_move 30 = .ok (.dup, 1) := by decide +kernel
theorem dX9_move_31 : decode cX9_move 31 = .ok (.invokespecial 85, 3) := by decide +kernel
theorem dX9_move_34 : decode cX9_move 34 = .ok (.athrow, 1) := by decide +kernel
theorem dX9_move_35 : decode cX9_move 35 = .ok (.aload_n 0, 1) := by decide +kernel
theorem dX9_move_36 : decode cX9_move 36 = .ok (.getfield 68, 3) := by decide +kernel
theorem dX9_move_39 : decode cX9_move 39 = .ok (.iload_n 1, 1) := by decide +kernel
theorem dX9_move_40 : decode cX9_move 40 = .ok (.iaload, 1) := by decide +kernel
theorem dX9_move_41 : decode cX9_move 41 = .ok (.iload_n 2, 1) := by decide +kernel
theorem dX9_move_42 : decode cX9_move 42 = .ok (.invokestatic 175, 3) := by decide +kernel
theorem dX9_move_45 : decode cX9_move 45 = .ok (.ireturn, 1) := by decide +kernel
theorem dX9_play_0 : decode cX9_play 0 = .ok (.iload_n 1, 1) := by decide +kernel
theorem dX9_play_1 : decode cX9_play 1 = .ok (.invokestatic 127, 3) := by decide +kernel
theorem dX9_play_4 : decode cX9_play 4 = .ok (.ifCond .eq 10, 3) := by decide +kernel
theorem dX9_play_7 : decode cX9_play 7 = .ok (.iload_n 2, 1) := by decide +kernel
theorem dX9_play_8 : decode cX9_play 8 = .ok (.invokestatic 127, 3) := by decide +kernel
theorem dX9_play_11 : decode cX9_play 11 = .ok (.ifCond .ne 11, 3) := by decide +kernel
theorem dX9_play_14 : decode cX9_play 14 = .ok (.new 120, 3) := by decide +kernel
theorem dX9_play_17 : decode cX9_play 17 = .ok (.dup, 1) := by decide +kernel
theorem dX9_play_18 : decode cX9_play 18 = .ok (.invokespecial 122, 3) := by decide +kernel
theorem dX9_play_21 : decode cX9_play 21 = .ok (.athrow, 1) := by decide +kernel
theorem dX9_play_22 : decode cX9_play 22 = .ok (.aload_n 0, 1) := by decide +kernel
theorem dX9_play_23 : decode cX9_play 23 = .ok (.iload_n 1, 1) := by decide +kernel
theorem dX9_play_24 : decode cX9_play 24 = .ok (.iload_n 2, 1) := by decide +kernel
theorem dX9_play_25 : decode cX9_play 25 = .ok (.iload_n 3, 1) := by decide +kernel
theorem dX9_play_26 : decode cX9_play 26 = .ok (.invokevirtual 179, 3) := by decide +kernel
theorem dX9_play_29 : decode cX9_play 29 = .ok (.ifCond .eq 16, 3) := by decide +kernel
theorem dX9_play_32 : decode cX9_play 32 = .ok (.aload_n 0, 1) := by decide +kernel
theorem dX9_play_33 : decode cX9_play 33 = .ok (.getfield 41, 3) := by decide +kernel
theorem dX9_play_36 : decode cX9_play 36 = .ok (.getfield 183, 3) := by decide +kernel
theorem dX9_play_39 : decode cX9_play 39 = .ok (.sipush 1024, 3) := by decide +kernel
theorem dX9_play_42 : decode cX9_play 42 = .ok (.if_icmp .lt 11, 3) := by decide +kernel
theorem dX9_play_45 : decode cX9_play 45 = .ok (.new 90, 3) := by decide +kernel
theorem dX9_play_48 : decode cX9_play 48 = .ok (.dup, 1) := by decide +kernel
theorem dX9_play_49 : decode cX9_play 49 = .ok (.invokespecial 92, 3) := by decide +kernel
theorem dX9_play_52 : decode cX9_play 52 = .ok (.athrow, 1) := by decide +kernel
theorem dX9_play_53 : decode cX9_play 53 = .ok (.aload_n 0, 1) := by decide +kernel
theorem dX9_play_54 : decode cX9_play 54 = .ok (.iconst (-1), 1) := by decide +kernel
theorem dX9_play_55 : decode cX9_play 55 = .ok (.putfield 72, 3) := by decide +kernel
theorem dX9_play_58 : decode cX9_play 58 = .ok (.aload_n 0, 1) := by decide +kernel
theorem dX9_play_59 : decode cX9_play 59 = .ok (.getfield 41, 3) := by decide +kernel
theorem dX9_play_62 : decode cX9_play 62 = .ok (.iload_n 1, 1) := by decide +kernel
theorem dX9_play_63 : decode cX9_play 63 = .ok (.iload_n 2, 1) := by decide +kernel
theorem dX9_play_64 : decode cX9_play 64 = .ok (.iload_n 3, 1) := by decide +kernel
theorem dX9_play_65 : decode cX9_play 65 = .ok (.invokestatic 186, 3) := by decide +kernel
theorem dX9_play_68 : decode cX9_play 68 = .ok (.invokevirtual 190, 3) := by decide +kernel
theorem dX9_play_71 : decode cX9_play 71 = .ok (.ireturn, 1) := by decide +kernel
theorem dX9_back_0 : decode cX9_back 0 = .ok (.aload_n 0, 1) := by decide +kernel
theorem dX9_back_1 : decode cX9_back 1 = .ok (.getfield 41, 3) := by decide +kernel
theorem dX9_back_4 : decode cX9_back 4 = .ok (.getfield 183, 3) := by decide +kernel
theorem dX9_back_7 : decode cX9_back 7 = .ok (.ifCond .ne 11, 3) := by decide +kernel
theorem dX9_back_10 : decode cX9_back 10 = .ok (.new 90, 3) := by decide +kernel
theorem dX9_back_13 : decode cX9_back 13 = .ok (.dup, 1) := by decide +kernel
theorem dX9_back_14 : decode cX9_back 14 = .ok (.invokespecial 92, 3) := by decide +kernel
theorem dX9_back_17 : decode cX9_back 17 = .ok (.athrow, 1) := by decide +kernel
theorem dX9_back_18 : decode cX9_back 18 = .ok (.aload_n 0, 1) := by decide +kernel
theorem dX9_back_19 : decode cX9_back 19 = .ok (.iconst (-1), 1) := by decide +kernel
theorem dX9_back_20 : decode cX9_back 20 = .ok (.putfield 72, 3) := by decide +kernel
theorem dX9_back_23 : decode cX9_back 23 = .ok (.aload_n 0, 1) := by decide +kernel
theorem dX9_back_24 : decode cX9_back 24 = .ok (.getfield 41, 3) := by decide +kernel
theorem dX9_back_27 : decode cX9_back 27 = .ok (.invokevirtual 194, 3) := by decide +kernel
theorem dX9_back_30 : decode cX9_back 30 = .ok (.aload_n 0, 1) := by decide +kernel
theorem dX9_back_31 : decode cX9_back 31 = .ok (.getfield 41, 3) := by decide +kernel
theorem dX9_back_34 : decode cX9_back 34 = .ok (.getfield 183, 3) := by decide +kernel
theorem dX9_back_37 : decode cX9_back 37 = .ok (.ireturn, 1) := by decide +kernel
theorem dX9_ways_0 : decode cX9_ways 0 = .ok (.iload_n 1, 1) := by decide +kernel
theorem dX9_ways_1 : decode cX9_ways 1 = .ok (.ifCond .lt 8, 3) := by decide +kernel
theorem dX9_ways_4 : decode cX9_ways 4 = .ok (.iload_n 1, 1) := by decide +kernel
theorem dX9_ways_5 : decode cX9_ways 5 = .ok (.iconst 3, 1) := by decide +kernel
theorem dX9_ways_6 : decode cX9_ways 6 = .ok (.if_icmp .le 11, 3) := by decide +kernel
theorem dX9_ways_9 : decode cX9_ways 9 = .ok (.new 83, 3) := by decide +kernel
theorem dX9_ways_12 : decode cX9_ways 12 = .ok (.dup, 1) := by decide +kernel
theorem dX9_ways_13 : decode cX9_ways 13 = .ok (.invokespecial 85, 3) := by decide +kernel
theorem dX9_ways_16 : decode cX9_ways 16 = .ok (.athrow, 1) := by decide +kernel
theorem dX9_ways_17 : decode cX9_ways 17 = .ok (.aload_n 0, 1) := by decide +kernel
theorem dX9_ways_18 : decode cX9_ways 18 = .ok (.getfield 50, 3) := by decide +kernel
theorem dX9_ways_21 : decode cX9_ways 21 = .ok (.iload_n 1, 1) := by decide +kernel
theorem dX9_ways_22 : decode cX9_ways 22 = .ok (.invokevirtual 197, 3) := by decide +kernel
theorem dX9_ways_25 : decode cX9_ways 25 = .ok (.ireturn, 1) := by decide +kernel
theorem dX9_worth_0 : decode cX9_worth 0 = .ok (.aload_n 0, 1) := by decide +kernel
theorem dX9_worth_1 : decode cX9_worth 1 = .ok (.getfield 20, 3) := by decide +kernel
theorem dX9_worth_4 : decode cX9_worth 4 = .ok (.invokevirtual 200, 3) := by decide +kernel
theorem dX9_worth_7 : decode cX9_worth 7 = .ok (.ireturn, 1) := by decide +kernel
theorem dX9_search_0 : decode cX9_search 0 = .ok (.iload_n 1, 1) := by decide +kernel
theorem dX9_search_1 : decode cX9_search 1 = .ok (.iconst 1, 1) := by decide +kernel
theorem dX9_search_2 : decode cX9_search 2 = .ok (.if_icmp .lt 8, 3) := by decide +kernel
theorem dX9_search_5 : decode cX9_search 5 = .ok (.iload_n 1, 1) := by decide +kernel
theorem dX9_search_6 : decode cX9_search 6 = .ok (.iconst 3, 1) := by decide +kernel
theorem dX9_search_7 : decode cX9_search 7 = .ok (.if_icmp .le 11, 3) := by decide +kernel
theorem dX9_search_10 : decode cX9_search 10 = .ok (.new 83, 3) := by decide +kernel
theorem dX9_search_13 : decode cX9_search 13 = .ok (.dup, 1) := by decide +kernel
theorem dX9_search_14 : decode cX9_search 14 = .ok (.invokespecial 85, 3) := by decide +kernel
theorem dX9_search_17 : decode cX9_search 17 = .ok (.athrow, 1) := by decide +kernel
theorem dX9_search_18 : decode cX9_search 18 = .ok (.aload_n 0, 1) := by decide +kernel
theorem dX9_search_19 : decode cX9_search 19 = .ok (.invokevirtual 151, 3) := by decide +kernel
theorem dX9_search_22 : decode cX9_search 22 = .ok (.istore_n 2, 1) := by decide +kernel
theorem dX9_search_23 : decode cX9_search 23 = .ok (.iload_n 2, 1) := by decide +kernel
theorem dX9_search_24 : decode cX9_search 24 = .ok (.ifCond .ne 17, 3) := by decide +kernel
theorem dX9_search_27 : decode cX9_search 27 = .ok (.aload_n 0, 1) := by decide +kernel
theorem dX9_search_28 : decode cX9_search 28 = .ok (.iconst (-1), 1) := by decide +kernel
theorem dX9_search_29 : decode cX9_search 29 = .ok (.putfield 76, 3) := by decide +kernel
theorem dX9_search_32 : decode cX9_search 32 = .ok (.aload_n 0, 1) := by decide +kernel
theorem dX9_search_33 : decode cX9_search 33 = .ok (.getfield 50, 3) := by decide +kernel
theorem dX9_search_36 : decode cX9_search 36 = .ok (.iload_n 1, 1) := by decide +kernel
theorem dX9_search_37 : decode cX9_search 37 = .ok (.invokevirtual 203, 3) := by decide +kernel
theorem dX9_search_40 : decode cX9_search 40 = .ok (.ireturn, 1) := by decide +kernel
theorem dX9_search_41 : decode cX9_search 41 = .ok (.aload_n 0, 1) := by decide +kernel
theorem dX9_search_42 : decode cX9_search 42 = .ok (.getfield 50, 3) := by decide +kernel
theorem dX9_search_45 : decode cX9_search 45 = .ok (.aload_n 0, 1) := by decide +kernel
theorem dX9_search_46 : decode cX9_search 46 = .ok (.getfield 68, 3) := by decide +kernel
theorem dX9_search_49 : decode cX9_search 49 = .ok (.iload_n 2, 1) := by decide +kernel
theorem dX9_search_50 : decode cX9_search 50 = .ok (.iload_n 1, 1) := by decide +kernel
theorem dX9_search_51 : decode cX9_search 51 = .ok (.invokevirtual 206, 3) := by decide +kernel
theorem dX9_search_54 : decode cX9_search 54 = .ok (.istore_n 3, 1) := by decide +kernel
theorem dX9_search_55 : decode cX9_search 55 = .ok (.aload_n 0, 1) := by decide +kernel
theorem dX9_search_56 : decode cX9_search 56 = .ok (.aload_n 0, 1) := by decide +kernel
theorem dX9_search_57 : decode cX9_search 57 = .ok (.getfield 50, 3) := by decide +kernel
theorem dX9_search_60 : decode cX9_search 60 = .ok (.getfield 210, 3) := by decide +kernel
theorem dX9_search_63 : decode cX9_search 63 = .ok (.putfield 76, 3) := by decide +kernel
theorem dX9_search_66 : decode cX9_search 66 = .ok (.aload_n 0, 1) := by decide +kernel
theorem dX9_search_67 : decode cX9_search 67 = .ok (.getfield 20, 3) := by decide +kernel
theorem dX9_search_70 : decode cX9_search 70 = .ok (.invokevirtual 154, 3) := by decide +kernel
theorem dX9_search_73 : decode cX9_search 73 = .ok (.ifCond .ne 13, 3) := by decide +kernel
theorem dX9_search_76 : decode cX9_search 76 = .ok (.aload_n 0, 1) := by decide +kernel
theorem dX9_search_77 : decode cX9_search 77 = .ok (.getfield 20, 3) := by decide +kernel
theorem dX9_search_80 : decode cX9_search 80 = .ok (.invokevirtual 161, 3) := by decide +kernel
theorem dX9_search_83 : decode cX9_search 83 = .ok (.ifCond .eq 7, 3) := by decide +kernel
theorem dX9_search_86 : decode cX9_search 86 = .ok (.iconst 0, 1) := by decide +kernel
theorem dX9_search_87 : decode cX9_search 87 = .ok (.goto 4, 3) := by decide +kernel
theorem dX9_search_90 : decode cX9_search 90 = .ok (.iload_n 3, 1) := by decide +kernel
theorem dX9_search_91 : decode cX9_search 91 = .ok (.ireturn, 1) := by decide +kernel
theorem dX9_chosen_0 : decode cX9_chosen 0 = .ok (.iload_n 1, 1) := by decide +kernel
theorem dX9_chosen_1 : decode cX9_chosen 1 = .ok (.invokestatic 172, 3) := by decide +kernel
theorem dX9_chosen_4 : decode cX9_chosen 4 = .ok (.ifCond .ne 11, 3) := by decide +kernel
theorem dX9_chosen_7 : decode cX9_chosen 7 = .ok (.new 83, 3) := by decide +kernel
theorem dX9_chosen_10 : decode cX9_chosen 10 = .ok (.dup, 1) := by decide +kernel
theorem dX9_chosen_11 : decode cX9_chosen 11 = .ok (.invokespecial 85, 3) := by decide +kernel
theorem dX9_chosen_14 : decode cX9_chosen 14 = .ok (.athrow, 1) := by decide +kernel
theorem dX9_chosen_15 : decode cX9_chosen 15 = .ok (.aload_n 0, 1) := by decide +kernel
theorem dX9_chosen_16 : decode cX9_chosen 16 = .ok (.getfield 76, 3) := by decide +kernel
theorem dX9_chosen_19 : decode cX9_chosen 19 = .ok (.iconst (-1), 1) := by decide +kernel
theorem dX9_chosen_20 : decode cX9_chosen 20 = .ok (.if_icmp .ne 7, 3) := by decide +kernel
theorem dX9_chosen_23 : decode cX9_chosen 23 = .ok (.iconst (-1), 1) := by decide +kernel
theorem dX9_chosen_24 : decode cX9_chosen 24 = .ok (.goto 11, 3) := by decide +kernel
theorem dX9_chosen_27 : decode cX9_chosen 27 = .ok (.aload_n 0, 1) := by decide +kernel
theorem dX9_chosen_28 : decode cX9_chosen 28 = .ok (.getfield 76, 3) := by decide +kernel
theorem dX9_chosen_31 : decode cX9_chosen 31 = .ok (.iload_n 1, 1) := by decide +kernel
theorem dX9_chosen_32 : decode cX9_chosen 32 = .ok (.invokestatic 175, 3) := by decide +kernel
theorem dX9_chosen_35 : decode cX9_chosen 35 = .ok (.ireturn, 1) := by decide +kernel
theorem dX9_listLegal_0 : decode cX9_listLegal 0 = .ok (.aload_n 0, 1) := by decide +kernel
theorem dX9_listLegal_1 : decode cX9_listLegal 1 = .ok (.getfield 72, 3) := by decide +kernel
theorem dX9_listLegal_4 : decode cX9_listLegal 4 = .ok (.iconst (-1), 1) := by decide +kernel
theorem dX9_listLegal_5 : decode cX9_listLegal 5 = .ok (.if_icmp .ne 29, 3) := by decide +kernel
theorem dX9_listLegal_8 : decode cX9_listLegal 8 = .ok (.aload_n 0, 1) := by decide +kernel
theorem dX9_listLegal_9 : decode cX9_listLegal 9 = .ok (.getfield 32, 3) := by decide +kernel
theorem dX9_listLegal_12 : decode cX9_listLegal 12 = .ok (.invokevirtual 211, 3) := by decide +kernel
theorem dX9_listLegal_15 : decode cX9_listLegal 15 = .ok (.aload_n 0, 1) := by decide +kernel
theorem dX9_listLegal_16 : decode cX9_listLegal 16 = .ok (.aload_n 0, 1) := by decide +kernel
theorem dX9_listLegal_17 : decode cX9_listLegal 17 = .ok (.getfield 32, 3) := by decide +kernel
theorem dX9_listLegal_20 : decode cX9_listLegal 20 = .ok (.aload_n 0, 1) := by decide +kernel
theorem dX9_listLegal_21 : decode cX9_listLegal 21 = .ok (.getfield 68, 3) := by decide +kernel
theorem dX9_listLegal_24 : decode cX9_listLegal 24 = .ok (.iconst 0, 1) := by decide +kernel
theorem dX9_listLegal_25 : decode cX9_listLegal 25 = .ok (.ldc2_w 214, 3) := by decide +kernel
theorem dX9_listLegal_28 : decode cX9_listLegal 28 = .ok (.invokevirtual 216, 3) := by decide +kernel
theorem dX9_listLegal_31 : decode cX9_listLegal 31 = .ok (.putfield 72, 3) := by decide +kernel
theorem dX9_listLegal_34 : decode cX9_listLegal 34 = .ok (.aload_n 0, 1) := by decide +kernel
theorem dX9_listLegal_35 : decode cX9_listLegal 35 = .ok (.getfield 72, 3) := by decide +kernel
theorem dX9_listLegal_38 : decode cX9_listLegal 38 = .ok (.ireturn, 1) := by decide +kernel
theorem dX9_isLegal_0 : decode cX9_isLegal 0 = .ok (.aload_n 0, 1) := by decide +kernel
theorem dX9_isLegal_1 : decode cX9_isLegal 1 = .ok (.invokevirtual 151, 3) := by decide +kernel
theorem dX9_isLegal_4 : decode cX9_isLegal 4 = .ok (.istore 4, 2) := by decide +kernel
theorem dX9_isLegal_6 : decode cX9_isLegal 6 = .ok (.iconst 0, 1) := by decide +kernel
theorem dX9_isLegal_7 : decode cX9_isLegal 7 = .ok (.istore 5, 2) := by decide +kernel
theorem dX9_isLegal_9 : decode cX9_isLegal 9 = .ok (.iload 5, 2) := by decide +kernel
theorem dX9_isLegal_11 : decode cX9_isLegal 11 = .ok (.iload 4, 2) := by decide +kernel
theorem dX9_isLegal_13 : decode cX9_isLegal 13 = .ok (.if_icmp .ge 47, 3) := by decide +kernel
theorem dX9_isLegal_16 : decode cX9_isLegal 16 = .ok (.aload_n 0, 1) := by decide +kernel
theorem dX9_isLegal_17 : decode cX9_isLegal 17 = .ok (.getfield 68, 3) := by decide +kernel
theorem dX9_isLegal_20 : decode cX9_isLegal 20 = .ok (.iload 5, 2) := by decide +kernel
theorem dX9_isLegal_22 : decode cX9_isLegal 22 = .ok (.iaload, 1) := by decide +kernel
theorem dX9_isLegal_23 : decode cX9_isLegal 23 = .ok (.istore 6, 2) := by decide +kernel
theorem dX9_isLegal_25 : decode cX9_isLegal 25 = .ok (.iload 6, 2) := by decide +kernel
theorem dX9_isLegal_27 : decode cX9_isLegal 27 = .ok (.invokestatic 220, 3) := by decide +kernel
theorem dX9_isLegal_30 : decode cX9_isLegal 30 = .ok (.iload_n 1, 1) := by decide +kernel
theorem dX9_isLegal_31 : decode cX9_isLegal 31 = .ok (.if_icmp .ne 23, 3) := by decide +kernel
theorem dX9_isLegal_34 : decode cX9_isLegal 34 = .ok (.iload 6, 2) := by decide +kernel
theorem dX9_isLegal_36 : decode cX9_isLegal 36 = .ok (.invokestatic 223, 3) := by decide +kernel
theorem dX9_isLegal_39 : decode cX9_isLegal 39 = .ok (.iload_n 2, 1) := by decide +kernel
theorem dX9_isLegal_40 : decode cX9_isLegal 40 = .ok (.if_icmp .ne 14, 3) := by decide +kernel
theorem dX9_isLegal_43 : decode cX9_isLegal 43 = .ok (.iload 6, 2) := by decide +kernel
theorem dX9_isLegal_45 : decode cX9_isLegal 45 = .ok (.invokestatic 226, 3) := by decide +kernel
theorem dX9_isLegal_48 : decode cX9_isLegal 48 = .ok (.iload_n 3, 1) := by decide +kernel
theorem dX9_isLegal_49 : decode cX9_isLegal 49 = .ok (.if_icmp .ne 5, 3) := by decide +kernel
theorem dX9_isLegal_52 : decode cX9_isLegal 52 = .ok (.iconst 1, 1) := by decide +kernel
theorem dX9_isLegal_53 : decode cX9_isLegal 53 = .ok (.ireturn, 1) := by decide +kernel
theorem dX9_isLegal_54 : decode cX9_isLegal 54 = .ok (.iinc 5 1, 3) := by decide +kernel
theorem dX9_isLegal_57 : decode cX9_isLegal 57 = .ok (.goto (-48), 3) := by decide +kernel
theorem dX9_isLegal_60 : decode cX9_isLegal 60 = .ok (.iconst 0, 1) := by decide +kernel
theorem dX9_isLegal_61 : decode cX9_isLegal 61 = .ok (.ireturn, 1) := by decide +kernel
theorem dX9_isSquare_0 : decode cX9_isSquare 0 = .ok (.iload_n 0, 1) := by decide +kernel
theorem dX9_isSquare_1 : decode cX9_isSquare 1 = .ok (.ifCond .lt 13, 3) := by decide +kernel
theorem dX9_isSquare_4 : decode cX9_isSquare 4 = .ok (.iload_n 0, 1) := by decide +kernel
theorem dX9_isSquare_5 : decode cX9_isSquare 5 = .ok (.bipush 64, 2) := by decide +kernel
theorem dX9_isSquare_7 : decode cX9_isSquare 7 = .ok (.if_icmp .ge 7, 3) := by decide +kernel
theorem dX9_isSquare_10 : decode cX9_isSquare 10 = .ok (.iconst 1, 1) := by decide +kernel
theorem dX9_isSquare_11 : decode cX9_isSquare 11 = .ok (.goto 4, 3) := by decide +kernel
theorem dX9_isSquare_14 : decode cX9_isSquare 14 = .ok (.iconst 0, 1) := by decide +kernel
theorem dX9_isSquare_15 : decode cX9_isSquare 15 = .ok (.ireturn, 1) := by decide +kernel
theorem dX9_isPart_0 : decode cX9_isPart 0 = .ok (.iload_n 0, 1) := by decide +kernel
theorem dX9_isPart_1 : decode cX9_isPart 1 = .ok (.ifCond .lt 12, 3) := by decide +kernel
theorem dX9_isPart_4 : decode cX9_isPart 4 = .ok (.iload_n 0, 1) := by decide +kernel
theorem dX9_isPart_5 : decode cX9_isPart 5 = .ok (.iconst 2, 1) := by decide +kernel
theorem dX9_isPart_6 : decode cX9_isPart 6 = .ok (.if_icmp .gt 7, 3) := by decide +kernel
theorem dX9_isPart_9 : decode cX9_isPart 9 = .ok (.iconst 1, 1) := by decide +kernel
theorem dX9_isPart_10 : decode cX9_isPart 10 = .ok (.goto 4, 3) := by decide +kernel
theorem dX9_isPart_13 : decode cX9_isPart 13 = .ok (.iconst 0, 1) := by decide +kernel
theorem dX9_isPart_14 : decode cX9_isPart 14 = .ok (.ireturn, 1) := by decide +kernel
theorem dX9_part_0 : decode cX9_part 0 = .ok (.iload_n 1, 1) := by decide +kernel
theorem dX9_part_1 : decode cX9_part 1 = .ok (.ifCond .ne 8, 3) := by decide +kernel
theorem dX9_part_4 : decode cX9_part 4 = .ok (.iload_n 0, 1) := by decide +kernel
theorem dX9_part_5 : decode cX9_part 5 = .ok (.invokestatic 220, 3) := by decide +kernel
theorem dX9_part_8 : decode cX9_part 8 = .ok (.ireturn, 1) := by decide +kernel
theorem dX9_part_9 : decode cX9_part 9 = .ok (.iload_n 1, 1) := by decide +kernel
theorem dX9_part_10 : decode cX9_part 10 = .ok (.iconst 1, 1) := by decide +kernel
theorem dX9_part_11 : decode cX9_part 11 = .ok (.if_icmp .ne 10, 3) := by decide +kernel
theorem dX9_part_14 : decode cX9_part 14 = .ok (.iload_n 0, 1) := by decide +kernel
theorem dX9_part_15 : decode cX9_part 15 = .ok (.invokestatic 223, 3) := by decide +kernel
theorem dX9_part_18 : decode cX9_part 18 = .ok (.goto 7, 3) := by decide +kernel
theorem dX9_part_21 : decode cX9_part 21 = .ok (.iload_n 0, 1) := by decide +kernel
theorem dX9_part_22 : decode cX9_part 22 = .ok (.invokestatic 226, 3) := by decide +kernel
theorem dX9_part_25 : decode cX9_part 25 = .ok (.ireturn, 1) := by decide +kernel
theorem dX9_moveOf_0 : decode cX9_moveOf 0 = .ok (.iload_n 0, 1) := by decide +kernel
theorem dX9_moveOf_1 : decode cX9_moveOf 1 = .ok (.iload_n 1, 1) := by decide +kernel
theorem dX9_moveOf_2 : decode cX9_moveOf 2 = .ok (.bipush 6, 2) := by decide +kernel
theorem dX9_moveOf_4 : decode cX9_moveOf 4 = .ok (.ishl, 1) := by decide +kernel
theorem dX9_moveOf_5 : decode cX9_moveOf 5 = .ok (.ior, 1) := by decide +kernel
theorem dX9_moveOf_6 : decode cX9_moveOf 6 = .ok (.iload_n 2, 1) := by decide +kernel
theorem dX9_moveOf_7 : decode cX9_moveOf 7 = .ok (.bipush 12, 2) := by decide +kernel
theorem dX9_moveOf_9 : decode cX9_moveOf 9 = .ok (.ishl, 1) := by decide +kernel
theorem dX9_moveOf_10 : decode cX9_moveOf 10 = .ok (.ior, 1) := by decide +kernel
theorem dX9_moveOf_11 : decode cX9_moveOf 11 = .ok (.ireturn, 1) := by decide +kernel
theorem dX9_fromOf_0 : decode cX9_fromOf 0 = .ok (.iload_n 0, 1) := by decide +kernel
theorem dX9_fromOf_1 : decode cX9_fromOf 1 = .ok (.bipush 63, 2) := by decide +kernel
theorem dX9_fromOf_3 : decode cX9_fromOf 3 = .ok (.iand, 1) := by decide +kernel
theorem dX9_fromOf_4 : decode cX9_fromOf 4 = .ok (.ireturn, 1) := by decide +kernel
theorem dX9_toOf_0 : decode cX9_toOf 0 = .ok (.iload_n 0, 1) := by decide +kernel
theorem dX9_toOf_1 : decode cX9_toOf 1 = .ok (.bipush 6, 2) := by decide +kernel
theorem dX9_toOf_3 : decode cX9_toOf 3 = .ok (.ishr, 1) := by decide +kernel
theorem dX9_toOf_4 : decode cX9_toOf 4 = .ok (.bipush 63, 2) := by decide +kernel
theorem dX9_toOf_6 : decode cX9_toOf 6 = .ok (.iand, 1) := by decide +kernel
theorem dX9_toOf_7 : decode cX9_toOf 7 = .ok (.ireturn, 1) := by decide +kernel
theorem dX9_becomesOf_0 : decode cX9_becomesOf 0 = .ok (.iload_n 0, 1) := by decide +kernel
theorem dX9_becomesOf_1 : decode cX9_becomesOf 1 = .ok (.bipush 12, 2) := by decide +kernel
theorem dX9_becomesOf_3 : decode cX9_becomesOf 3 = .ok (.ishr, 1) := by decide +kernel
theorem dX9_becomesOf_4 : decode cX9_becomesOf 4 = .ok (.ireturn, 1) := by decide +kernel
theorem dX9_leastOf_0 : decode cX9_leastOf 0 = .ok (.lload_n 0, 1) := by decide +kernel
theorem dX9_leastOf_1 : decode cX9_leastOf 1 = .ok (.lload_n 0, 1) := by decide +kernel
theorem dX9_leastOf_2 : decode cX9_leastOf 2 = .ok (.lneg, 1) := by decide +kernel
theorem dX9_leastOf_3 : decode cX9_leastOf 3 = .ok (.land, 1) := by decide +kernel
theorem dX9_leastOf_4 : decode cX9_leastOf 4 = .ok (.lconst 1, 1) := by decide +kernel
theorem dX9_leastOf_5 : decode cX9_leastOf 5 = .ok (.lsub, 1) := by decide +kernel
theorem dX9_leastOf_6 : decode cX9_leastOf 6 = .ok (.invokestatic 229, 3) := by decide +kernel
theorem dX9_leastOf_9 : decode cX9_leastOf 9 = .ok (.ireturn, 1) := by decide +kernel
theorem dX9_upOf_0 : decode cX9_upOf 0 = .ok (.iload_n 0, 1) := by decide +kernel
theorem dX9_upOf_1 : decode cX9_upOf 1 = .ok (.ifCond .ne 8, 3) := by decide +kernel
theorem dX9_upOf_4 : decode cX9_upOf 4 = .ok (.bipush 8, 2) := by decide +kernel
theorem dX9_upOf_6 : decode cX9_upOf 6 = .ok (.goto 5, 3) := by decide +kernel
theorem dX9_upOf_9 : decode cX9_upOf 9 = .ok (.bipush (-8), 2) := by decide +kernel
theorem dX9_upOf_11 : decode cX9_upOf 11 = .ok (.ireturn, 1) := by decide +kernel
theorem dJ0_length_8abf5_0 : decode cJ0_length_8abf5 0 = .ok (.aload_n 0, 1) := by decide +kernel
theorem dJ0_length_8abf5_1 : decode cJ0_length_8abf5 1 = .ok (.getfield 9, 3) := by decide +kernel
theorem dJ0_length_8abf5_4 : decode cJ0_length_8abf5 4 = .ok (.arraylength, 1) := by decide +kernel
theorem dJ0_length_8abf5_5 : decode cJ0_length_8abf5 5 = .ok (.aload_n 0, 1) := by decide +kernel
theorem dJ0_length_8abf5_6 : decode cJ0_length_8abf5 6 = .ok (.invokevirtual 335, 3) := by decide +kernel
theorem dJ0_length_8abf5_9 : decode cJ0_length_8abf5 9 = .ok (.ishr, 1) := by decide +kernel
theorem dJ0_length_8abf5_10 : decode cJ0_length_8abf5 10 = .ok (.ireturn, 1) := by decide +kernel
theorem dJ0_charAt_5068e_0 : decode cJ0_charAt_5068e 0 = .ok (.aload_n 0, 1) := by decide +kernel
theorem dJ0_charAt_5068e_1 : decode cJ0_charAt_5068e 1 = .ok (.invokevirtual 492, 3) := by decide +kernel
theorem dJ0_charAt_5068e_4 : decode cJ0_charAt_5068e 4 = .ok (.ifCond .eq 12, 3) := by decide +kernel
theorem dJ0_charAt_5068e_7 : decode cJ0_charAt_5068e 7 = .ok (.aload_n 0, 1) := by decide +kernel
theorem dJ0_charAt_5068e_8 : decode cJ0_charAt_5068e 8 = .ok (.getfield 9, 3) := by decide +kernel
theorem dJ0_charAt_5068e_11 : decode cJ0_charAt_5068e 11 = .ok (.iload_n 1, 1) := by decide +kernel
theorem dJ0_charAt_5068e_12 : decode cJ0_charAt_5068e 12 = .ok (.invokestatic 495, 3) := by decide +kernel
theorem dJ0_charAt_5068e_15 : decode cJ0_charAt_5068e 15 = .ok (.ireturn, 1) := by decide +kernel
theorem dJ0_charAt_5068e_16 : decode cJ0_charAt_5068e 16 = .ok (.aload_n 0, 1) := by decide +kernel
theorem dJ0_charAt_5068e_17 : decode cJ0_charAt_5068e 17 = .ok (.getfield 9, 3) := by decide +kernel
theorem dJ0_charAt_5068e_20 : decode cJ0_charAt_5068e 20 = .ok (.iload_n 1, 1) := by decide +kernel
theorem dJ0_charAt_5068e_21 : decode cJ0_charAt_5068e 21 = .ok (.invokestatic 498, 3) := by decide +kernel
theorem dJ0_charAt_5068e_24 : decode cJ0_charAt_5068e 24 = .ok (.ireturn, 1) := by decide +kernel
theorem dJ0_indexOf_0f7a4_0 : decode cJ0_indexOf_0f7a4 0 = .ok (.aload_n 0, 1) := by decide +kernel
theorem dJ0_indexOf_0f7a4_1 : decode cJ0_indexOf_0f7a4 1 = .ok (.iload_n 1, 1) := by decide +kernel
theorem dJ0_indexOf_0f7a4_2 : decode cJ0_indexOf_0f7a4 2 = .ok (.iconst 0, 1) := by decide +kernel
theorem dJ0_indexOf_0f7a4_3 : decode cJ0_indexOf_0f7a4 3 = .ok (.invokevirtual 633, 3) := by decide +kernel
theorem dJ0_indexOf_0f7a4_6 : decode cJ0_indexOf_0f7a4 6 = .ok (.ireturn, 1) := by decide +kernel
theorem dJ0_indexOf_7cf53_0 : decode cJ0_indexOf_7cf53 0 = .ok (.aload_n 0, 1) := by decide +kernel
theorem dJ0_indexOf_7cf53_1 : decode cJ0_indexOf_7cf53 1 = .ok (.invokevirtual 492, 3) := by decide +kernel
theorem dJ0_indexOf_7cf53_4 : decode cJ0_indexOf_7cf53 4 = .ok (.ifCond .eq 19, 3) := by decide +kernel
theorem dJ0_indexOf_7cf53_7 : decode cJ0_indexOf_7cf53 7 = .ok (.aload_n 0, 1) := by decide +kernel
theorem dJ0_indexOf_7cf53_8 : decode cJ0_indexOf_7cf53 8 = .ok (.getfield 9, 3) := by decide +kernel
theorem dJ0_indexOf_7cf53_11 : decode cJ0_indexOf_7cf53 11 = .ok (.iload_n 1, 1) := by decide +kernel
theorem dJ0_indexOf_7cf53_12 : decode cJ0_indexOf_7cf53 12 = .ok (.iload_n 2, 1) := by decide +kernel
theorem dJ0_indexOf_7cf53_13 : decode cJ0_indexOf_7cf53 13 = .ok (.aload_n 0, 1) := by decide +kernel
theorem dJ0_indexOf_7cf53_14 : decode cJ0_indexOf_7cf53 14 = .ok (.invokevirtual 505, 3) := by decide +kernel
theorem dJ0_indexOf_7cf53_17 : decode cJ0_indexOf_7cf53 17 = .ok (.invokestatic 637, 3) := by decide +kernel
theorem dJ0_indexOf_7cf53_20 : decode cJ0_indexOf_7cf53 20 = .ok (.goto 16, 3) := by decide +kernel
theorem dJ0_indexOf_7cf53_23 : decode cJ0_indexOf_7cf53 23 = .ok (.aload_n 0, 1) := by decide +kernel
theorem dJ0_indexOf_7cf53_24 : decode cJ0_indexOf_7cf53 24 = .ok (.getfield 9, 3) := by decide +kernel
theorem dJ0_indexOf_7cf53_27 : decode cJ0_indexOf_7cf53 27 = .ok (.iload_n 1, 1) := by decide +kernel
theorem dJ0_indexOf_7cf53_28 : decode cJ0_indexOf_7cf53 28 = .ok (.iload_n 2, 1) := by decide +kernel
theorem dJ0_indexOf_7cf53_29 : decode cJ0_indexOf_7cf53 29 = .ok (.aload_n 0, 1) := by decide +kernel
theorem dJ0_indexOf_7cf53_30 : decode cJ0_indexOf_7cf53 30 = .ok (.invokevirtual 505, 3) := by decide +kernel
theorem dJ0_indexOf_7cf53_33 : decode cJ0_indexOf_7cf53 33 = .ok (.invokestatic 640, 3) := by decide +kernel
theorem dJ0_indexOf_7cf53_36 : decode cJ0_indexOf_7cf53 36 = .ok (.ireturn, 1) := by decide +kernel
theorem dJ0_coder_7d493_0 : decode cJ0_coder_7d493 0 = .ok (.getstatic 38, 3) := by decide +kernel
theorem dJ0_coder_7d493_3 : decode cJ0_coder_7d493 3 = .ok (.ifCond .eq 10, 3) := by decide +kernel
theorem dJ0_coder_7d493_6 : decode cJ0_coder_7d493 6 = .ok (.aload_n 0, 1) := by decide +kernel
theorem dJ0_coder_7d493_7 : decode cJ0_coder_7d493 7 = .ok (.getfield 15, 3) := by decide +kernel
theorem dJ0_coder_7d493_10 : decode cJ0_coder_7d493 10 = .ok (.goto 4, 3) := by decide +kernel
theorem dJ0_coder_7d493_13 : decode cJ0_coder_7d493 13 = .ok (.iconst 1, 1) := by decide +kernel
theorem dJ0_coder_7d493_14 : decode cJ0_coder_7d493 14 = .ok (.ireturn, 1) := by decide +kernel
theorem dJ0_isLatin1_aae02_0 : decode cJ0_isLatin1_aae02 0 = .ok (.getstatic 38, 3) := by decide +kernel
theorem dJ0_isLatin1_aae02_3 : decode cJ0_isLatin1_aae02 3 = .ok (.ifCond .eq 14, 3) := by decide +kernel
theorem dJ0_isLatin1_aae02_6 : decode cJ0_isLatin1_aae02 6 = .ok (.aload_n 0, 1) := by decide +kernel
theorem dJ0_isLatin1_aae02_7 : decode cJ0_isLatin1_aae02 7 = .ok (.getfield 15, 3) := by decide +kernel
theorem dJ0_isLatin1_aae02_10 : decode cJ0_isLatin1_aae02 10 = .ok (.ifCond .ne 7, 3) := by decide +kernel
theorem dJ0_isLatin1_aae02_13 : decode cJ0_isLatin1_aae02 13 = .ok (.iconst 1, 1) := by decide +kernel
theorem dJ0_isLatin1_aae02_14 : decode cJ0_isLatin1_aae02 14 = .ok (.goto 4, 3) := by decide +kernel
theorem dJ0_isLatin1_aae02_17 : decode cJ0_isLatin1_aae02 17 = .ok (.iconst 0, 1) := by decide +kernel
theorem dJ0_isLatin1_aae02_18 : decode cJ0_isLatin1_aae02 18 = .ok (.ireturn, 1) := by decide +kernel
theorem dJ0_checkIndex_df160_0 : decode cJ0_checkIndex_df160 0 = .ok (.iload_n 0, 1) := by decide +kernel
theorem dJ0_checkIndex_df160_1 : decode cJ0_checkIndex_df160 1 = .ok (.iload_n 1, 1) := by decide +kernel
theorem dJ0_checkIndex_df160_2 : decode cJ0_checkIndex_df160 2 = .ok (.getstatic 1053, 3) := by decide +kernel
theorem dJ0_checkIndex_df160_5 : decode cJ0_checkIndex_df160 5 = .ok (.invokestatic 1059, 3) := by decide +kernel
theorem dJ0_checkIndex_df160_8 : decode cJ0_checkIndex_df160 8 = .ok (.pop, 1) := by decide +kernel
theorem dJ0_checkIndex_df160_9 : decode cJ0_checkIndex_df160 9 = .ok (.return_, 1) := by decide +kernel
theorem dJ0_checkBoundsBeginEnd_23922_0 : decode cJ0_checkBoundsBeginEnd_23922 0 = .ok (.iload_n 0, 1) := by decide +kernel
theorem dJ0_checkBoundsBeginEnd_23922_1 : decode cJ0_checkBoundsBeginEnd_23922 1 = .ok (.iload_n 1, 1) := by decide +kernel
theorem dJ0_checkBoundsBeginEnd_23922_2 : decode cJ0_checkBoundsBeginEnd_23922 2 = .ok (.iload_n 2, 1) := by decide +kernel
theorem dJ0_checkBoundsBeginEnd_23922_3 : decode cJ0_checkBoundsBeginEnd_23922 3 = .ok (.getstatic 1053, 3) := by decide +kernel
theorem dJ0_checkBoundsBeginEnd_23922_6 : decode cJ0_checkBoundsBeginEnd_23922 6 = .ok (.invokestatic 1062, 3) := by decide +kernel
theorem dJ0_checkBoundsBeginEnd_23922_9 : decode cJ0_checkBoundsBeginEnd_23922 9 = .ok (.pop, 1) := by decide +kernel
theorem dJ0_checkBoundsBeginEnd_23922_10 : decode cJ0_checkBoundsBeginEnd_23922 10 = .ok (.return_, 1) := by decide +kernel
theorem dJ1_charAt_3b067_0 : decode cJ1_charAt_3b067 0 = .ok (.iload_n 1, 1) := by decide +kernel
theorem dJ1_charAt_3b067_1 : decode cJ1_charAt_3b067 1 = .ok (.aload_n 0, 1) := by decide +kernel
theorem dJ1_charAt_3b067_2 : decode cJ1_charAt_3b067 2 = .ok (.arraylength, 1) := by decide +kernel
theorem dJ1_charAt_3b067_3 : decode cJ1_charAt_3b067 3 = .ok (.invokestatic 9, 3) := by decide +kernel
theorem dJ1_charAt_3b067_6 : decode cJ1_charAt_3b067 6 = .ok (.aload_n 0, 1) := by decide +kernel
theorem dJ1_charAt_3b067_7 : decode cJ1_charAt_3b067 7 = .ok (.iload_n 1, 1) := by decide +kernel
theorem dJ1_charAt_3b067_8 : decode cJ1_charAt_3b067 8 = .ok (.baload, 1) := by decide +kernel
theorem dJ1_charAt_3b067_9 : decode cJ1_charAt_3b067 9 = .ok (.sipush 255, 3) := by decide +kernel
theorem dJ1_charAt_3b067_12 : decode cJ1_charAt_3b067 12 = .ok (.iand, 1) := by decide +kernel
theorem dJ1_charAt_3b067_13 : decode cJ1_charAt_3b067 13 = .ok (.i2c, 1) := by decide +kernel
theorem dJ1_charAt_3b067_14 : decode cJ1_charAt_3b067 14 = .ok (.ireturn, 1) := by decide +kernel
theorem dJ1_canEncode_9a6ad_0 : decode cJ1_canEncode_9a6ad 0 = .ok (.iload_n 0, 1) := by decide +kernel
theorem dJ1_canEncode_9a6ad_1 : decode cJ1_canEncode_9a6ad 1 = .ok (.ifCond .lt 14, 3) := by decide +kernel
theorem dJ1_canEncode_9a6ad_4 : decode cJ1_canEncode_9a6ad 4 = .ok (.iload_n 0, 1) := by decide +kernel
theorem dJ1_canEncode_9a6ad_5 : decode cJ1_canEncode_9a6ad 5 = .ok (.sipush 255, 3) := by decide +kernel
theorem dJ1_canEncode_9a6ad_8 : decode cJ1_canEncode_9a6ad 8 = .ok (.if_icmp .gt 7, 3) := by decide +kernel
theorem dJ1_canEncode_9a6ad_11 : decode cJ1_canEncode_9a6ad 11 = .ok (.iconst 1, 1) := by decide +kernel
theorem dJ1_canEncode_9a6ad_12 : decode cJ1_canEncode_9a6ad 12 = .ok (.goto 4, 3) := by decide +kernel
theorem dJ1_canEncode_9a6ad_15 : decode cJ1_canEncode_9a6ad 15 = .ok (.iconst 0, 1) := by decide +kernel
theorem dJ1_canEncode_9a6ad_16 : decode cJ1_canEncode_9a6ad 16 = .ok (.ireturn, 1) := by decide +kernel
theorem dJ1_indexOf_4cfef_0 : decode cJ1_indexOf_4cfef 0 = .ok (.iload_n 1, 1) := by decide +kernel
theorem dJ1_indexOf_4cfef_1 : decode cJ1_indexOf_4cfef 1 = .ok (.invokestatic 88, 3) := by decide +kernel
theorem dJ1_indexOf_4cfef_4 : decode cJ1_indexOf_4cfef 4 = .ok (.ifCond .ne 5, 3) := by decide +kernel
theorem dJ1_indexOf_4cfef_7 : decode cJ1_indexOf_4cfef 7 = .ok (.iconst (-1), 1) := by decide +kernel
theorem dJ1_indexOf_4cfef_8 : decode cJ1_indexOf_4cfef 8 = .ok (.ireturn, 1) := by decide +kernel
theorem dJ1_indexOf_4cfef_9 : decode cJ1_indexOf_4cfef 9 = .ok (.iload_n 2, 1) := by decide +kernel
theorem dJ1_indexOf_4cfef_10 : decode cJ1_indexOf_4cfef 10 = .ok (.iconst 0, 1) := by decide +kernel
theorem dJ1_indexOf_4cfef_11 : decode cJ1_indexOf_4cfef 11 = .ok (.invokestatic 92, 3) := by decide +kernel
theorem dJ1_indexOf_4cfef_14 : decode cJ1_indexOf_4cfef 14 = .ok (.istore_n 2, 1) := by decide +kernel
theorem dJ1_indexOf_4cfef_15 : decode cJ1_indexOf_4cfef 15 = .ok (.iload_n 3, 1) := by decide +kernel
theorem dJ1_indexOf_4cfef_16 : decode cJ1_indexOf_4cfef 16 = .ok (.aload_n 0, 1) := by decide +kernel
theorem dJ1_indexOf_4cfef_17 : decode cJ1_indexOf_4cfef 17 = .ok (.arraylength, 1) := by decide +kernel
theorem dJ1_indexOf_4cfef_18 : decode cJ1_indexOf_4cfef 18 = .ok (.invokestatic 38, 3) := by decide +kernel
theorem dJ1_indexOf_4cfef_21 : decode cJ1_indexOf_4cfef 21 = .ok (.istore_n 3, 1) := by decide +kernel
theorem dJ1_indexOf_4cfef_22 : decode cJ1_indexOf_4cfef 22 = .ok (.iload_n 2, 1) := by decide +kernel
theorem dJ1_indexOf_4cfef_23 : decode cJ1_indexOf_4cfef 23 = .ok (.iload_n 3, 1) := by decide +kernel
theorem dJ1_indexOf_4cfef_24 : decode cJ1_indexOf_4cfef 24 = .ok (.if_icmp .lt 5, 3) := by decide +kernel
theorem dJ1_indexOf_4cfef_27 : decode cJ1_indexOf_4cfef 27 = .ok (.iconst (-1), 1) := by decide +kernel
theorem dJ1_indexOf_4cfef_28 : decode cJ1_indexOf_4cfef 28 = .ok (.ireturn, 1) := by decide +kernel
theorem dJ1_indexOf_4cfef_29 : decode cJ1_indexOf_4cfef 29 = .ok (.aload_n 0, 1) := by decide +kernel
theorem dJ1_indexOf_4cfef_30 : decode cJ1_indexOf_4cfef 30 = .ok (.iload_n 1, 1) := by decide +kernel
theorem dJ1_indexOf_4cfef_31 : decode cJ1_indexOf_4cfef 31 = .ok (.iload_n 2, 1) := by decide +kernel
theorem dJ1_indexOf_4cfef_32 : decode cJ1_indexOf_4cfef 32 = .ok (.iload_n 3, 1) := by decide +kernel
theorem dJ1_indexOf_4cfef_33 : decode cJ1_indexOf_4cfef 33 = .ok (.invokestatic 95, 3) := by decide +kernel
theorem dJ1_indexOf_4cfef_36 : decode cJ1_indexOf_4cfef 36 = .ok (.ireturn, 1) := by decide +kernel
theorem dJ1_indexOfChar_4cfef_0 : decode cJ1_indexOfChar_4cfef 0 = .ok (.iload_n 1, 1) := by decide +kernel
theorem dJ1_indexOfChar_4cfef_1 : decode cJ1_indexOfChar_4cfef 1 = .ok (.i2b, 1) := by decide +kernel
theorem dJ1_indexOfChar_4cfef_2 : decode cJ1_indexOfChar_4cfef 2 = .ok (.istore 4, 2) := by decide +kernel
theorem dJ1_indexOfChar_4cfef_4 : decode cJ1_indexOfChar_4cfef 4 = .ok (.iload_n 2, 1) := by decide +kernel
theorem dJ1_indexOfChar_4cfef_5 : decode cJ1_indexOfChar_4cfef 5 = .ok (.istore 5, 2) := by decide +kernel
theorem dJ1_indexOfChar_4cfef_7 : decode cJ1_indexOfChar_4cfef 7 = .ok (.iload 5, 2) := by decide +kernel
theorem dJ1_indexOfChar_4cfef_9 : decode cJ1_indexOfChar_4cfef 9 = .ok (.iload_n 3, 1) := by decide +kernel
theorem dJ1_indexOfChar_4cfef_10 : decode cJ1_indexOfChar_4cfef 10 = .ok (.if_icmp .ge 21, 3) := by decide +kernel
theorem dJ1_indexOfChar_4cfef_13 : decode cJ1_indexOfChar_4cfef 13 = .ok (.aload_n 0, 1) := by decide +kernel
theorem dJ1_indexOfChar_4cfef_14 : decode cJ1_indexOfChar_4cfef 14 = .ok (.iload 5, 2) := by decide +kernel
theorem dJ1_indexOfChar_4cfef_16 : decode cJ1_indexOfChar_4cfef 16 = .ok (.baload, 1) := by decide +kernel
theorem dJ1_indexOfChar_4cfef_17 : decode cJ1_indexOfChar_4cfef 17 = .ok (.iload 4, 2) := by decide +kernel
theorem dJ1_indexOfChar_4cfef_19 : decode cJ1_indexOfChar_4cfef 19 = .ok (.if_icmp .ne 6, 3) := by decide +kernel
theorem dJ1_indexOfChar_4cfef_22 : decode cJ1_indexOfChar_4cfef 22 = .ok (.iload 5, 2) := by decide +kernel
theorem dJ1_indexOfChar_4cfef_24 : decode cJ1_indexOfChar_4cfef 24 = .ok (.ireturn, 1) := by decide +kernel
theorem dJ1_indexOfChar_4cfef_25 : decode cJ1_indexOfChar_4cfef 25 = .ok (.iinc 5 1, 3) := by decide +kernel
theorem dJ1_indexOfChar_4cfef_28 : decode cJ1_indexOfChar_4cfef 28 = .ok (.goto (-21), 3) := by decide +kernel
theorem dJ1_indexOfChar_4cfef_31 : decode cJ1_indexOfChar_4cfef 31 = .ok (.iconst (-1), 1) := by decide +kernel
theorem dJ1_indexOfChar_4cfef_32 : decode cJ1_indexOfChar_4cfef 32 = .ok (.ireturn, 1) := by decide +kernel
theorem dJ3_checkIndex_8e157_0 : decode cJ3_checkIndex_8e157 0 = .ok (.iload_n 0, 1) := by decide +kernel
theorem dJ3_checkIndex_8e157_1 : decode cJ3_checkIndex_8e157 1 = .ok (.ifCond .lt 8, 3) := by decide +kernel
theorem dJ3_checkIndex_8e157_4 : decode cJ3_checkIndex_8e157 4 = .ok (.iload_n 0, 1) := by decide +kernel
theorem dJ3_checkIndex_8e157_5 : decode cJ3_checkIndex_8e157 5 = .ok (.iload_n 1, 1) := by decide +kernel
theorem dJ3_checkIndex_8e157_6 : decode cJ3_checkIndex_8e157 6 = .ok (.if_icmp .lt 10, 3) := by decide +kernel
theorem dJ3_checkIndex_8e157_9 : decode cJ3_checkIndex_8e157 9 = .ok (.aload_n 2, 1) := by decide +kernel
theorem dJ3_checkIndex_8e157_10 : decode cJ3_checkIndex_8e157 10 = .ok (.iload_n 0, 1) := by decide +kernel
theorem dJ3_checkIndex_8e157_11 : decode cJ3_checkIndex_8e157 11 = .ok (.iload_n 1, 1) := by decide +kernel
theorem dJ3_checkIndex_8e157_12 : decode cJ3_checkIndex_8e157 12 = .ok (.invokestatic 95, 3) := by decide +kernel
theorem dJ3_checkIndex_8e157_15 : decode cJ3_checkIndex_8e157 15 = .ok (.athrow, 1) := by decide +kernel
theorem dJ3_checkIndex_8e157_16 : decode cJ3_checkIndex_8e157 16 = .ok (.iload_n 0, 1) := by decide +kernel
theorem dJ3_checkIndex_8e157_17 : decode cJ3_checkIndex_8e157 17 = .ok (.ireturn, 1) := by decide +kernel
theorem dJ3_checkFromToIndex_8c36e_0 : decode cJ3_checkFromToIndex_8c36e 0 = .ok (.iload_n 0, 1) := by decide +kernel
theorem dJ3_checkFromToIndex_8c36e_1 : decode cJ3_checkFromToIndex_8c36e 1 = .ok (.ifCond .lt 13, 3) := by decide +kernel
theorem dJ3_checkFromToIndex_8c36e_4 : decode cJ3_checkFromToIndex_8c36e 4 = .ok (.iload_n 0, 1) := by decide +kernel
theorem dJ3_checkFromToIndex_8c36e_5 : decode cJ3_checkFromToIndex_8c36e 5 = .ok (.iload_n 1, 1) := by decide +kernel
theorem dJ3_checkFromToIndex_8c36e_6 : decode cJ3_checkFromToIndex_8c36e 6 = .ok (.if_icmp .gt 8, 3) := by decide +kernel
theorem dJ3_checkFromToIndex_8c36e_9 : decode cJ3_checkFromToIndex_8c36e 9 = .ok (.iload_n 1, 1) := by decide +kernel
theorem dJ3_checkFromToIndex_8c36e_10 : decode cJ3_checkFromToIndex_8c36e 10 = .ok (.iload_n 2, 1) := by decide +kernel
theorem dJ3_checkFromToIndex_8c36e_11 : decode cJ3_checkFromToIndex_8c36e 11 = .ok (.if_icmp .le 11, 3) := by decide +kernel
theorem dJ3_checkFromToIndex_8c36e_14 : decode cJ3_checkFromToIndex_8c36e 14 = .ok (.aload_n 3, 1) := by decide +kernel
theorem dJ3_checkFromToIndex_8c36e_15 : decode cJ3_checkFromToIndex_8c36e 15 = .ok (.iload_n 0, 1) := by decide +kernel
theorem dJ3_checkFromToIndex_8c36e_16 : decode cJ3_checkFromToIndex_8c36e 16 = .ok (.iload_n 1, 1) := by decide +kernel
theorem dJ3_checkFromToIndex_8c36e_17 : decode cJ3_checkFromToIndex_8c36e 17 = .ok (.iload_n 2, 1) := by decide +kernel
theorem dJ3_checkFromToIndex_8c36e_18 : decode cJ3_checkFromToIndex_8c36e 18 = .ok (.invokestatic 99, 3) := by decide +kernel
theorem dJ3_checkFromToIndex_8c36e_21 : decode cJ3_checkFromToIndex_8c36e 21 = .ok (.athrow, 1) := by decide +kernel
theorem dJ3_checkFromToIndex_8c36e_22 : decode cJ3_checkFromToIndex_8c36e 22 = .ok (.iload_n 0, 1) := by decide +kernel
theorem dJ3_checkFromToIndex_8c36e_23 : decode cJ3_checkFromToIndex_8c36e 23 = .ok (.ireturn, 1) := by decide +kernel
