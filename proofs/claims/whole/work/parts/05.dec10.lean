/-! Decode rows. -/
theorem dX10_init_0 : decode cX10_init 0 = .ok (.aload_n 0, 1) := by decide +kernel
theorem dX10_init_1 : decode cX10_init 1 = .ok (.invokespecial 1, 3) := by decide +kernel
theorem dX10_init_4 : decode cX10_init 4 = .ok (.aload_n 0, 1) := by decide +kernel
theorem dX10_init_5 : decode cX10_init 5 = .ok (.bipush 64, 2) := by decide +kernel
theorem dX10_init_7 : decode cX10_init 7 = .ok (.newarray .int, 2) := by decide +kernel
theorem dX10_init_9 : decode cX10_init 9 = .ok (.putfield 7, 3) := by decide +kernel
theorem dX10_init_12 : decode cX10_init 12 = .ok (.aload_n 0, 1) := by decide +kernel
theorem dX10_init_13 : decode cX10_init 13 = .ok (.iconst (-1), 1) := by decide +kernel
theorem dX10_init_14 : decode cX10_init 14 = .ok (.putfield 13, 3) := by decide +kernel
theorem dX10_init_17 : decode cX10_init 17 = .ok (.aload_n 0, 1) := by decide +kernel
theorem dX10_init_18 : decode cX10_init 18 = .ok (.ldc 17, 2) := by decide +kernel
theorem dX10_init_20 : decode cX10_init 20 = .ok (.newarray .int, 2) := by decide +kernel
theorem dX10_init_22 : decode cX10_init 22 = .ok (.putfield 18, 3) := by decide +kernel
theorem dX10_init_25 : decode cX10_init 25 = .ok (.aload_n 0, 1) := by decide +kernel
theorem dX10_init_26 : decode cX10_init 26 = .ok (.sipush 128, 3) := by decide +kernel
theorem dX10_init_29 : decode cX10_init 29 = .ok (.newarray .int, 2) := by decide +kernel
theorem dX10_init_31 : decode cX10_init 31 = .ok (.putfield 21, 3) := by decide +kernel
theorem dX10_init_34 : decode cX10_init 34 = .ok (.aload_n 0, 1) := by decide +kernel
theorem dX10_init_35 : decode cX10_init 35 = .ok (.iconst (-1), 1) := by decide +kernel
theorem dX10_init_36 : decode cX10_init 36 = .ok (.putfield 24, 3) := by decide +kernel
theorem dX10_init_39 : decode cX10_init 39 = .ok (.aload_n 0, 1) := by decide +kernel
theorem dX10_init_40 : decode cX10_init 40 = .ok (.sipush 128, 3) := by decide +kernel
theorem dX10_init_43 : decode cX10_init 43 = .ok (.newarray .int, 2) := by decide +kernel
theorem dX10_init_45 : decode cX10_init 45 = .ok (.putfield 27, 3) := by decide +kernel
theorem dX10_init_48 : decode cX10_init 48 = .ok (.aload_n 0, 1) := by decide +kernel
theorem dX10_init_49 : decode cX10_init 49 = .ok (.sipush 2560, 3) := by decide +kernel
theorem dX10_init_52 : decode cX10_init 52 = .ok (.newarray .int, 2) := by decide +kernel
theorem dX10_init_54 : decode cX10_init 54 = .ok (.putfield 30, 3) := by decide +kernel
theorem dX10_init_57 : decode cX10_init 57 = .ok (.aload_n 0, 1) := by decide +kernel
theorem dX10_init_58 : decode cX10_init 58 = .ok (.sipush 2560, 3) := by decide +kernel
theorem dX10_init_61 : decode cX10_init 61 = .ok (.newarray .int, 2) := by decide +kernel
theorem dX10_init_63 : decode cX10_init 63 = .ok (.putfield 33, 3) := by decide +kernel
theorem dX10_init_66 : decode cX10_init 66 = .ok (.aload_n 0, 1) := by decide +kernel
theorem dX10_init_67 : decode cX10_init 67 = .ok (.sipush 2560, 3) := by decide +kernel
theorem dX10_init_70 : decode cX10_init 70 = .ok (.newarray .int, 2) := by decide +kernel
theorem dX10_init_72 : decode cX10_init 72 = .ok (.putfield 36, 3) := by decide +kernel
theorem dX10_init_75 : decode cX10_init 75 = .ok (.aload_n 0, 1) := by decide +kernel
theorem dX10_init_76 : decode cX10_init 76 = .ok (.iconst 5, 1) := by decide +kernel
theorem dX10_init_77 : decode cX10_init 77 = .ok (.newarray .int, 2) := by decide +kernel
theorem dX10_init_79 : decode cX10_init 79 = .ok (.putfield 39, 3) := by decide +kernel
theorem dX10_init_82 : decode cX10_init 82 = .ok (.aload_n 0, 1) := by decide +kernel
theorem dX10_init_83 : decode cX10_init 83 = .ok (.iconst (-1), 1) := by decide +kernel
theorem dX10_init_84 : decode cX10_init 84 = .ok (.putfield 42, 3) := by decide +kernel
theorem dX10_init_87 : decode cX10_init 87 = .ok (.aload_n 0, 1) := by decide +kernel
theorem dX10_init_88 : decode cX10_init 88 = .ok (.iconst (-1), 1) := by decide +kernel
theorem dX10_init_89 : decode cX10_init 89 = .ok (.putfield 45, 3) := by decide +kernel
theorem dX10_init_92 : decode cX10_init 92 = .ok (.aload_n 0, 1) := by decide +kernel
theorem dX10_init_93 : decode cX10_init 93 = .ok (.iconst (-1), 1) := by decide +kernel
theorem dX10_init_94 : decode cX10_init 94 = .ok (.putfield 48, 3) := by decide +kernel
theorem dX10_init_97 : decode cX10_init 97 = .ok (.aload_n 0, 1) := by decide +kernel
theorem dX10_init_98 : decode cX10_init 98 = .ok (.iconst 4, 1) := by decide +kernel
theorem dX10_init_99 : decode cX10_init 99 = .ok (.newarray .int, 2) := by decide +kernel
theorem dX10_init_101 : decode cX10_init 101 = .ok (.putfield 51, 3) := by decide +kernel
theorem dX10_init_104 : decode cX10_init 104 = .ok (.aload_n 0, 1) := by decide +kernel
theorem dX10_init_105 : decode cX10_init 105 = .ok (.iconst 4, 1) := by decide +kernel
theorem dX10_init_106 : decode cX10_init 106 = .ok (.newarray .int, 2) := by decide +kernel
theorem dX10_init_108 : decode cX10_init 108 = .ok (.putfield 54, 3) := by decide +kernel
theorem dX10_init_111 : decode cX10_init 111 = .ok (.aload_n 0, 1) := by decide +kernel
theorem dX10_init_112 : decode cX10_init 112 = .ok (.bipush 64, 2) := by decide +kernel
theorem dX10_init_114 : decode cX10_init 114 = .ok (.newarray .int, 2) := by decide +kernel
theorem dX10_init_116 : decode cX10_init 116 = .ok (.putfield 57, 3) := by decide +kernel
theorem dX10_init_119 : decode cX10_init 119 = .ok (.iconst 0, 1) := by decide +kernel
theorem dX10_init_120 : decode cX10_init 120 = .ok (.istore_n 1, 1) := by decide +kernel
theorem dX10_init_121 : decode cX10_init 121 = .ok (.iload_n 1, 1) := by decide +kernel
theorem dX10_init_122 : decode cX10_init 122 = .ok (.bipush 8, 2) := by decide +kernel
theorem dX10_init_124 : decode cX10_init 124 = .ok (.if_icmp .ge 102, 3) := by decide +kernel
theorem dX10_init_127 : decode cX10_init 127 = .ok (.iload_n 1, 1) := by decide +kernel
theorem dX10_init_128 : decode cX10_init 128 = .ok (.ifCond .eq 9, 3) := by decide +kernel
theorem dX10_init_131 : decode cX10_init 131 = .ok (.iload_n 1, 1) := by decide +kernel
theorem dX10_init_132 : decode cX10_init 132 = .ok (.bipush 7, 2) := by decide +kernel
theorem dX10_init_134 : decode cX10_init 134 = .ok (.if_icmp .ne 7, 3) := by decide +kernel
theorem dX10_init_137 : decode cX10_init 137 = .ok (.iconst 4, 1) := by decide +kernel
theorem dX10_init_138 : decode cX10_init 138 = .ok (.goto 43, 3) := by decide +kernel
theorem dX10_init_141 : decode cX10_init 141 = .ok (.iload_n 1, 1) := by decide +kernel
theorem dX10_init_142 : decode cX10_init 142 = .ok (.iconst 1, 1) := by decide +kernel
theorem dX10_init_143 : decode cX10_init 143 = .ok (.if_icmp .eq 9, 3) := by decide +kernel
theorem dX10_init_146 : decode cX10_init 146 = .ok (.iload_n 1, 1) := by decide +kernel
theorem dX10_init_147 : decode cX10_init 147 = .ok (.bipush 6, 2) := by decide +kernel
theorem dX10_init_149 : decode cX10_init 149 = .ok (.if_icmp .ne 7, 3) := by decide +kernel
theorem dX10_init_152 : decode cX10_init 152 = .ok (.iconst 2, 1) := by decide +kernel
theorem dX10_init_153 : decode cX10_init 153 = .ok (.goto 28, 3) := by decide +kernel
theorem dX10_init_156 : decode cX10_init 156 = .ok (.iload_n 1, 1) := by decide +kernel
theorem dX10_init_157 : decode cX10_init 157 = .ok (.iconst 2, 1) := by decide +kernel
theorem dX10_init_158 : decode cX10_init 158 = .ok (.if_icmp .eq 8, 3) := by decide +kernel
theorem dX10_init_161 : decode cX10_init 161 = .ok (.iload_n 1, 1) := by decide +kernel
theorem dX10_init_162 : decode cX10_init 162 = .ok (.iconst 5, 1) := by decide +kernel
theorem dX10_init_163 : decode cX10_init 163 = .ok (.if_icmp .ne 7, 3) := by decide +kernel
theorem dX10_init_166 : decode cX10_init 166 = .ok (.iconst 3, 1) := by decide +kernel
theorem dX10_init_167 : decode cX10_init 167 = .ok (.goto 14, 3) := by decide +kernel
theorem dX10_init_170 : decode cX10_init 170 = .ok (.iload_n 1, 1) := by decide +kernel
theorem dX10_init_171 : decode cX10_init 171 = .ok (.iconst 3, 1) := by decide +kernel
theorem dX10_init_172 : decode cX10_init 172 = .ok (.if_icmp .ne 7, 3) := by decide +kernel
theorem dX10_init_175 : decode cX10_init 175 = .ok (.iconst 5, 1) := by decide +kernel
theorem dX10_init_176 : decode cX10_init 176 = .ok (.goto 5, 3) := by decide +kernel
theorem dX10_init_179 : decode cX10_init 179 = .ok (.bipush 6, 2) := by decide +kernel
theorem dX10_init_181 : decode cX10_init 181 = .ok (.istore_n 2, 1) := by decide +kernel
theorem dX10_init_182 : decode cX10_init 182 = .ok (.aload_n 0, 1) := by decide +kernel
theorem dX10_init_183 : decode cX10_init 183 = .ok (.getfield 7, 3) := by decide +kernel
theorem dX10_init_186 : decode cX10_init 186 = .ok (.iload_n 1, 1) := by decide +kernel
theorem dX10_init_187 : decode cX10_init 187 = .ok (.iload_n 2, 1) := by decide +kernel
theorem dX10_init_188 : decode cX10_init 188 = .ok (.iastore, 1) := by decide +kernel
theorem dX10_init_189 : decode cX10_init 189 = .ok (.aload_n 0, 1) := by decide +kernel
theorem dX10_init_190 : decode cX10_init 190 = .ok (.getfield 7, 3) := by decide +kernel
theorem dX10_init_193 : decode cX10_init 193 = .ok (.bipush 8, 2) := by decide +kernel
theorem dX10_init_195 : decode cX10_init 195 = .ok (.iload_n 1, 1) := by decide +kernel
theorem dX10_init_196 : decode cX10_init 196 = .ok (.iadd, 1) := by decide +kernel
theorem dX10_init_197 : decode cX10_init 197 = .ok (.iconst 1, 1) := by decide +kernel
theorem dX10_init_198 : decode cX10_init 198 = .ok (.iastore, 1) := by decide +kernel
theorem dX10_init_199 : decode cX10_init 199 = .ok (.aload_n 0, 1) := by decide +kernel
theorem dX10_init_200 : decode cX10_init 200 = .ok (.getfield 7, 3) := by decide +kernel
theorem dX10_init_203 : decode cX10_init 203 = .ok (.bipush 48, 2) := by decide +kernel
theorem dX10_init_205 : decode cX10_init 205 = .ok (.iload_n 1, 1) := by decide +kernel
theorem dX10_init_206 : decode cX10_init 206 = .ok (.iadd, 1) := by decide +kernel
theorem dX10_init_207 : decode cX10_init 207 = .ok (.iconst (-1), 1) := by decide +kernel
theorem dX10_init_208 : decode cX10_init 208 = .ok (.iastore, 1) := by decide +kernel
theorem dX10_init_209 : decode cX10_init 209 = .ok (.aload_n 0, 1) := by decide +kernel
theorem dX10_init_210 : decode cX10_init 210 = .ok (.getfield 7, 3) := by decide +kernel
theorem dX10_init_213 : decode cX10_init 213 = .ok (.bipush 56, 2) := by decide +kernel
theorem dX10_init_215 : decode cX10_init 215 = .ok (.iload_n 1, 1) := by decide +kernel
theorem dX10_init_216 : decode cX10_init 216 = .ok (.iadd, 1) := by decide +kernel
theorem dX10_init_217 : decode cX10_init 217 = .ok (.iload_n 2, 1) := by decide +kernel
theorem dX10_init_218 : decode cX10_init 218 = .ok (.ineg, 1) := by decide +kernel
theorem dX10_init_219 : decode cX10_init 219 = .ok (.iastore, 1) := by decide +kernel
theorem dX10_init_220 : decode cX10_init 220 = .ok (.iinc 1 1, 3) := by decide +kernel
theorem dX10_init_223 : decode cX10_init 223 = .ok (.goto (-102), 3) := by decide +kernel
theorem dX10_init_226 : decode cX10_init 226 = .ok (.aload_n 0, 1) := by decide +kernel
theorem dX10_init_227 : decode cX10_init 227 = .ok (.bipush 15, 2) := by decide +kernel
theorem dX10_init_229 : decode cX10_init 229 = .ok (.putfield 60, 3) := by decide +kernel
theorem dX10_init_232 : decode cX10_init 232 = .ok (.aload_n 0, 1) := by decide +kernel
theorem dX10_init_233 : decode cX10_init 233 = .ok (.iconst 1, 1) := by decide +kernel
theorem dX10_init_234 : decode cX10_init 234 = .ok (.putfield 63, 3) := by decide +kernel
theorem dX10_init_237 : decode cX10_init 237 = .ok (.return_, 1) := by decide +kernel
theorem dX10_thrown_0 : decode cX10_thrown 0 = .ok (.aload_n 0, 1) := by decide +kernel
theorem dX10_thrown_1 : decode cX10_thrown 1 = .ok (.getfield 66, 3) := by decide +kernel
theorem dX10_thrown_4 : decode cX10_thrown 4 = .ok (.ireturn, 1) := by decide +kernel
theorem dX10_rowOf_0 : decode cX10_rowOf 0 = .ok (.iload_n 0, 1) := by decide +kernel
theorem dX10_rowOf_1 : decode cX10_rowOf 1 = .ok (.bipush 8, 2) := by decide +kernel
theorem dX10_rowOf_3 : decode cX10_rowOf 3 = .ok (.idiv, 1) := by decide +kernel
theorem dX10_rowOf_4 : decode cX10_rowOf 4 = .ok (.ireturn, 1) := by decide +kernel
theorem dX10_columnOf_0 : decode cX10_columnOf 0 = .ok (.iload_n 0, 1) := by decide +kernel
theorem dX10_columnOf_1 : decode cX10_columnOf 1 = .ok (.bipush 8, 2) := by decide +kernel
theorem dX10_columnOf_3 : decode cX10_columnOf 3 = .ok (.irem, 1) := by decide +kernel
theorem dX10_columnOf_4 : decode cX10_columnOf 4 = .ok (.ireturn, 1) := by decide +kernel
theorem dX10_rankOf_0 : decode cX10_rankOf 0 = .ok (.iload_n 1, 1) := by decide +kernel
theorem dX10_rankOf_1 : decode cX10_rankOf 1 = .ok (.ifCond .ne 10, 3) := by decide +kernel
theorem dX10_rankOf_4 : decode cX10_rankOf 4 = .ok (.iload_n 0, 1) := by decide +kernel
theorem dX10_rankOf_5 : decode cX10_rankOf 5 = .ok (.bipush 8, 2) := by decide +kernel
theorem dX10_rankOf_7 : decode cX10_rankOf 7 = .ok (.idiv, 1) := by decide +kernel
theorem dX10_rankOf_8 : decode cX10_rankOf 8 = .ok (.goto 10, 3) := by decide +kernel
theorem dX10_rankOf_11 : decode cX10_rankOf 11 = .ok (.bipush 7, 2) := by decide +kernel
theorem dX10_rankOf_13 : decode cX10_rankOf 13 = .ok (.iload_n 0, 1) := by decide +kernel
theorem dX10_rankOf_14 : decode cX10_rankOf 14 = .ok (.bipush 8, 2) := by decide +kernel
theorem dX10_rankOf_16 : decode cX10_rankOf 16 = .ok (.idiv, 1) := by decide +kernel
theorem dX10_rankOf_17 : decode cX10_rankOf 17 = .ok (.isub, 1) := by decide +kernel
theorem dX10_rankOf_18 : decode cX10_rankOf 18 = .ok (.ireturn, 1) := by decide +kernel
theorem dX10_up_0 : decode cX10_up 0 = .ok (.iload_n 0, 1) := by decide +kernel
theorem dX10_up_1 : decode cX10_up 1 = .ok (.ifCond .ne 8, 3) := by decide +kernel
theorem dX10_up_4 : decode cX10_up 4 = .ok (.bipush 8, 2) := by decide +kernel
theorem dX10_up_6 : decode cX10_up 6 = .ok (.goto 5, 3) := by decide +kernel
theorem dX10_up_9 : decode cX10_up 9 = .ok (.bipush (-8), 2) := by decide +kernel
theorem dX10_up_11 : decode cX10_up 11 = .ok (.ireturn, 1) := by decide +kernel
theorem dX10_isSide_0 : decode cX10_isSide 0 = .ok (.iload_n 1, 1) := by decide +kernel
theorem dX10_isSide_1 : decode cX10_isSide 1 = .ok (.ifCond .ne 15, 3) := by decide +kernel
theorem dX10_isSide_4 : decode cX10_isSide 4 = .ok (.iload_n 0, 1) := by decide +kernel
theorem dX10_isSide_5 : decode cX10_isSide 5 = .ok (.ifCond .le 7, 3) := by decide +kernel
theorem dX10_isSide_8 : decode cX10_isSide 8 = .ok (.iconst 1, 1) := by decide +kernel
theorem dX10_isSide_9 : decode cX10_isSide 9 = .ok (.goto 16, 3) := by decide +kernel
theorem dX10_isSide_12 : decode cX10_isSide 12 = .ok (.iconst 0, 1) := by decide +kernel
theorem dX10_isSide_13 : decode cX10_isSide 13 = .ok (.goto 12, 3) := by decide +kernel
theorem dX10_isSide_16 : decode cX10_isSide 16 = .ok (.iload_n 0, 1) := by decide +kernel
theorem dX10_isSide_17 : decode cX10_isSide 17 = .ok (.ifCond .ge 7, 3) := by decide +kernel
theorem dX10_isSide_20 : decode cX10_isSide 20 = .ok (.iconst 1, 1) := by decide +kernel
theorem dX10_isSide_21 : decode cX10_isSide 21 = .ok (.goto 4, 3) := by decide +kernel
theorem dX10_isSide_24 : decode cX10_isSide 24 = .ok (.iconst 0, 1) := by decide +kernel
theorem dX10_isSide_25 : decode cX10_isSide 25 = .ok (.ireturn, 1) := by decide +kernel
theorem dX10_kindOf_0 : decode cX10_kindOf 0 = .ok (.iload_n 0, 1) := by decide +kernel
theorem dX10_kindOf_1 : decode cX10_kindOf 1 = .ok (.ifCond .ge 8, 3) := by decide +kernel
theorem dX10_kindOf_4 : decode cX10_kindOf 4 = .ok (.iload_n 0, 1) := by decide +kernel
theorem dX10_kindOf_5 : decode cX10_kindOf 5 = .ok (.ineg, 1) := by decide +kernel
theorem dX10_kindOf_6 : decode cX10_kindOf 6 = .ok (.goto 4, 3) := by decide +kernel
theorem dX10_kindOf_9 : decode cX10_kindOf 9 = .ok (.iload_n 0, 1) := by decide +kernel
theorem dX10_kindOf_10 : decode cX10_kindOf 10 = .ok (.ireturn, 1) := by decide +kernel
theorem dX10_size_0 : decode cX10_size 0 = .ok (.iload_n 0, 1) := by decide +kernel
theorem dX10_size_1 : decode cX10_size 1 = .ok (.ifCond .ge 8, 3) := by decide +kernel
theorem dX10_size_4 : decode cX10_size 4 = .ok (.iload_n 0, 1) := by decide +kernel
theorem dX10_size_5 : decode cX10_size 5 = .ok (.ineg, 1) := by decide +kernel
theorem dX10_size_6 : decode cX10_size 6 = .ok (.goto 4, 3) := by decide +kernel
theorem dX10_size_9 : decode cX10_size 9 = .ok (.iload_n 0, 1) := by decide +kernel
theorem dX10_size_10 : decode cX10_size 10 = .ok (.ireturn, 1) := by decide +kernel
theorem dX10_isOpen_0 : decode cX10_isOpen 0 = .ok (.iload_n 2, 1) := by decide +kernel
theorem dX10_isOpen_1 : decode cX10_isOpen 1 = .ok (.invokestatic 69, 3) := by decide +kernel
theorem dX10_isOpen_4 : decode cX10_isOpen 4 = .ok (.iload_n 1, 1) := by decide +kernel
theorem dX10_isOpen_5 : decode cX10_isOpen 5 = .ok (.invokestatic 69, 3) := by decide +kernel
theorem dX10_isOpen_8 : decode cX10_isOpen 8 = .ok (.isub, 1) := by decide +kernel
theorem dX10_isOpen_9 : decode cX10_isOpen 9 = .ok (.istore_n 3, 1) := by decide +kernel
theorem dX10_isOpen_10 : decode cX10_isOpen 10 = .ok (.iload_n 2, 1) := by decide +kernel
theorem dX10_isOpen_11 : decode cX10_isOpen 11 = .ok (.invokestatic 73, 3) := by decide +kernel
theorem dX10_isOpen_14 : decode cX10_isOpen 14 = .ok (.iload_n 1, 1) := by decide +kernel
theorem dX10_isOpen_15 : decode cX10_isOpen 15 = .ok (.invokestatic 73, 3) := by decide +kernel
theorem dX10_isOpen_18 : decode cX10_isOpen 18 = .ok (.isub, 1) := by decide +kernel
theorem dX10_isOpen_19 : decode cX10_isOpen 19 = .ok (.istore 4, 2) := by decide +kernel
theorem dX10_isOpen_21 : decode cX10_isOpen 21 = .ok (.iload_n 3, 1) := by decide +kernel
theorem dX10_isOpen_22 : decode cX10_isOpen 22 = .ok (.invokestatic 76, 3) := by decide +kernel
theorem dX10_isOpen_25 : decode cX10_isOpen 25 = .ok (.iload 4, 2) := by decide +kernel
theorem dX10_isOpen_27 : decode cX10_isOpen 27 = .ok (.invokestatic 76, 3) := by decide +kernel
theorem dX10_isOpen_30 : decode cX10_isOpen 30 = .ok (.if_icmp .le 10, 3) := by decide +kernel
theorem dX10_isOpen_33 : decode cX10_isOpen 33 = .ok (.iload_n 3, 1) := by decide +kernel
theorem dX10_isOpen_34 : decode cX10_isOpen 34 = .ok (.invokestatic 76, 3) := by decide +kernel
theorem dX10_isOpen_37 : decode cX10_isOpen 37 = .ok (.goto 8, 3) := by decide +kernel
theorem dX10_isOpen_40 : decode cX10_isOpen 40 = .ok (.iload 4, 2) := by decide +kernel
theorem dX10_isOpen_42 : decode cX10_isOpen 42 = .ok (.invokestatic 76, 3) := by decide +kernel
theorem dX10_isOpen_45 : decode cX10_isOpen 45 = .ok (.istore 5, 2) := by decide +kernel
theorem dX10_isOpen_47 : decode cX10_isOpen 47 = .ok (.iconst 1, 1) := by decide +kernel
theorem dX10_isOpen_48 : decode cX10_isOpen 48 = .ok (.istore 6, 2) := by decide +kernel
theorem dX10_isOpen_50 : decode cX10_isOpen 50 = .ok (.iconst 1, 1) := by decide +kernel
theorem dX10_isOpen_51 : decode cX10_isOpen 51 = .ok (.istore 7, 2) := by decide +kernel
theorem dX10_isOpen_53 : decode cX10_isOpen 53 = .ok (.iload 7, 2) := by decide +kernel
theorem dX10_isOpen_55 : decode cX10_isOpen 55 = .ok (.iload 5, 2) := by decide +kernel
theorem dX10_isOpen_57 : decode cX10_isOpen 57 = .ok (.if_icmp .ge 50, 3) := by decide +kernel
theorem dX10_isOpen_60 : decode cX10_isOpen 60 = .ok (.iload 6, 2) := by decide +kernel
theorem dX10_isOpen_62 : decode cX10_isOpen 62 = .ok (.ifCond .eq 36, 3) := by decide +kernel
theorem dX10_isOpen_65 : decode cX10_isOpen 65 = .ok (.aload_n 0, 1) := by decide +kernel
theorem dX10_isOpen_66 : decode cX10_isOpen 66 = .ok (.getfield 7, 3) := by decide +kernel
theorem dX10_isOpen_69 : decode cX10_isOpen 69 = .ok (.iload_n 1, 1) := by decide +kernel
theorem dX10_isOpen_70 : decode cX10_isOpen 70 = .ok (.bipush 8, 2) := by decide +kernel
theorem dX10_isOpen_72 : decode cX10_isOpen 72 = .ok (.iload_n 3, 1) := by decide +kernel
theorem dX10_isOpen_73 : decode cX10_isOpen 73 = .ok (.iload 5, 2) := by decide +kernel
theorem dX10_isOpen_75 : decode cX10_isOpen 75 = .ok (.idiv, 1) := by decide +kernel
theorem dX10_isOpen_76 : decode cX10_isOpen 76 = .ok (.imul, 1) := by decide +kernel
theorem dX10_isOpen_77 : decode cX10_isOpen 77 = .ok (.iload 7, 2) := by decide +kernel
theorem dX10_isOpen_79 : decode cX10_isOpen 79 = .ok (.imul, 1) := by decide +kernel
theorem dX10_isOpen_80 : decode cX10_isOpen 80 = .ok (.iadd, 1) := by decide +kernel
theorem dX10_isOpen_81 : decode cX10_isOpen 81 = .ok (.iload 4, 2) := by decide +kernel
theorem dX10_isOpen_83 : decode cX10_isOpen 83 = .ok (.iload 5, 2) := by decide +kernel
theorem dX10_isOpen_85 : decode cX10_isOpen 85 = .ok (.idiv, 1) := by decide +kernel
theorem dX10_isOpen_86 : decode cX10_isOpen 86 = .ok (.iload 7, 2) := by decide +kernel
theorem dX10_isOpen_88 : decode cX10_isOpen 88 = .ok (.imul, 1) := by decide +kernel
theorem dX10_isOpen_89 : decode cX10_isOpen 89 = .ok (.iadd, 1) := by decide +kernel
theorem dX10_isOpen_90 : decode cX10_isOpen 90 = .ok (.iaload, 1) := by decide +kernel
theorem dX10_isOpen_91 : decode cX10_isOpen 91 = .ok (.ifCond .ne 7, 3) := by decide +kernel
theorem dX10_isOpen_94 : decode cX10_isOpen 94 = .ok (.iconst 1, 1) := by decide +kernel
theorem dX10_isOpen_95 : decode cX10_isOpen 95 = .ok (.goto 4, 3) := by decide +kernel
theorem dX10_isOpen_98 : decode cX10_isOpen 98 = .ok (.iconst 0, 1) := by decide +kernel
theorem dX10_isOpen_99 : decode cX10_isOpen 99 = .ok (.istore 6, 2) := by decide +kernel
theorem dX10_isOpen_101 : decode cX10_isOpen 101 = .ok (.iinc 7 1, 3) := by decide +kernel
theorem dX10_isOpen_104 : decode cX10_isOpen 104 = .ok (.goto (-51), 3) := by decide +kernel
theorem dX10_isOpen_107 : decode cX10_isOpen 107 = .ok (.iload 6, 2) := by decide +kernel
theorem dX10_isOpen_109 : decode cX10_isOpen 109 = .ok (.ireturn, 1) := by decide +kernel
theorem dX10_reaches_0 : decode cX10_reaches 0 = .ok (.iload_n 2, 1) := by decide +kernel
theorem dX10_reaches_1 : decode cX10_reaches 1 = .ok (.invokestatic 69, 3) := by decide +kernel
theorem dX10_reaches_4 : decode cX10_reaches 4 = .ok (.iload_n 1, 1) := by decide +kernel
theorem dX10_reaches_5 : decode cX10_reaches 5 = .ok (.invokestatic 69, 3) := by decide +kernel
theorem dX10_reaches_8 : decode cX10_reaches 8 = .ok (.isub, 1) := by decide +kernel
theorem dX10_reaches_9 : decode cX10_reaches 9 = .ok (.istore_n 3, 1) := by decide +kernel
theorem dX10_reaches_10 : decode cX10_reaches 10 = .ok (.iload_n 2, 1) := by decide +kernel
theorem dX10_reaches_11 : decode cX10_reaches 11 = .ok (.invokestatic 73, 3) := by decide +kernel
theorem dX10_reaches_14 : decode cX10_reaches 14 = .ok (.iload_n 1, 1) := by decide +kernel
theorem dX10_reaches_15 : decode cX10_reaches 15 = .ok (.invokestatic 73, 3) := by decide +kernel
theorem dX10_reaches_18 : decode cX10_reaches 18 = .ok (.isub, 1) := by decide +kernel
theorem dX10_reaches_19 : decode cX10_reaches 19 = .ok (.istore 4, 2) := by decide +kernel
theorem dX10_reaches_21 : decode cX10_reaches 21 = .ok (.iload_n 3, 1) := by decide +kernel
theorem dX10_reaches_22 : decode cX10_reaches 22 = .ok (.invokestatic 76, 3) := by decide +kernel
theorem dX10_reaches_25 : decode cX10_reaches 25 = .ok (.istore 5, 2) := by decide +kernel
theorem dX10_reaches_27 : decode cX10_reaches 27 = .ok (.iload 4, 2) := by decide +kernel
theorem dX10_reaches_29 : decode cX10_reaches 29 = .ok (.invokestatic 76, 3) := by decide +kernel
theorem dX10_reaches_32 : decode cX10_reaches 32 = .ok (.istore 6, 2) := by decide +kernel
theorem dX10_reaches_34 : decode cX10_reaches 34 = .ok (.iload 5, 2) := by decide +kernel
theorem dX10_reaches_36 : decode cX10_reaches 36 = .ok (.ifCond .ne 7, 3) := by decide +kernel
theorem dX10_reaches_39 : decode cX10_reaches 39 = .ok (.iconst 1, 1) := by decide +kernel
theorem dX10_reaches_40 : decode cX10_reaches 40 = .ok (.goto 4, 3) := by decide +kernel
theorem dX10_reaches_43 : decode cX10_reaches 43 = .ok (.iconst 0, 1) := by decide +kernel
theorem dX10_reaches_44 : decode cX10_reaches 44 = .ok (.iload 6, 2) := by decide +kernel
theorem dX10_reaches_46 : decode cX10_reaches 46 = .ok (.ifCond .ne 7, 3) := by decide +kernel
theorem dX10_reaches_49 : decode cX10_reaches 49 = .ok (.iconst 1, 1) := by decide +kernel
theorem dX10_reaches_50 : decode cX10_reaches 50 = .ok (.goto 4, 3) := by decide +kernel
theorem dX10_reaches_53 : decode cX10_reaches 53 = .ok (.iconst 0, 1) := by decide +kernel
theorem dX10_reaches_54 : decode cX10_reaches 54 = .ok (.if_icmp .eq 7, 3) := by decide +kernel
theorem dX10_reaches_57 : decode cX10_reaches 57 = .ok (.iconst 1, 1) := by decide +kernel
theorem dX10_reaches_58 : decode cX10_reaches 58 = .ok (.goto 4, 3) := by decide +kernel
theorem dX10_reaches_61 : decode cX10_reaches 61 = .ok (.iconst 0, 1) := by decide +kernel
theorem dX10_reaches_62 : decode cX10_reaches 62 = .ok (.istore 7, 2) := by decide +kernel
theorem dX10_reaches_64 : decode cX10_reaches 64 = .ok (.iload 5, 2) := by decide +kernel
theorem dX10_reaches_66 : decode cX10_reaches 66 = .ok (.iload 6, 2) := by decide +kernel
theorem dX10_reaches_68 : decode cX10_reaches 68 = .ok (.if_icmp .ne 12, 3) := by decide +kernel
theorem dX10_reaches_71 : decode cX10_reaches 71 = .ok (.iload 5, 2) := by decide +kernel
theorem dX10_reaches_73 : decode cX10_reaches 73 = .ok (.ifCond .le 7, 3) := by decide +kernel
theorem dX10_reaches_76 : decode cX10_reaches 76 = .ok (.iconst 1, 1) := by decide +kernel
theorem dX10_reaches_77 : decode cX10_reaches 77 = .ok (.goto 4, 3) := by decide +kernel
theorem dX10_reaches_80 : decode cX10_reaches 80 = .ok (.iconst 0, 1) := by decide +kernel
theorem dX10_reaches_81 : decode cX10_reaches 81 = .ok (.istore 8, 2) := by decide +kernel
theorem dX10_reaches_83 : decode cX10_reaches 83 = .ok (.aload_n 0, 1) := by decide +kernel
theorem dX10_reaches_84 : decode cX10_reaches 84 = .ok (.getfield 7, 3) := by decide +kernel
theorem dX10_reaches_87 : decode cX10_reaches 87 = .ok (.iload_n 1, 1) := by decide +kernel
theorem dX10_reaches_88 : decode cX10_reaches 88 = .ok (.iaload, 1) := by decide +kernel
theorem dX10_reaches_89 : decode cX10_reaches 89 = .ok (.invokestatic 79, 3) := by decide +kernel
theorem dX10_reaches_92 : decode cX10_reaches 92 = .ok (.tableswitch 176 1 6 #[40, 70, 85, 105, 125, 150], 40) := by decide +kernel
theorem dX10_reaches_132 : decode cX10_reaches 132 = .ok (.iload 6, 2) := by decide +kernel
theorem dX10_reaches_134 : decode cX10_reaches 134 = .ok (.iconst 1, 1) := by decide +kernel
theorem dX10_reaches_135 : decode cX10_reaches 135 = .ok (.if_icmp .ne 25, 3) := by decide +kernel
theorem dX10_reaches_138 : decode cX10_reaches 138 = .ok (.iload_n 3, 1) := by decide +kernel
theorem dX10_reaches_139 : decode cX10_reaches 139 = .ok (.aload_n 0, 1) := by decide +kernel
theorem dX10_reaches_140 : decode cX10_reaches 140 = .ok (.getfield 7, 3) := by decide +kernel
theorem dX10_reaches_143 : decode cX10_reaches 143 = .ok (.iload_n 1, 1) := by decide +kernel
theorem dX10_reaches_144 : decode cX10_reaches 144 = .ok (.iaload, 1) := by decide +kernel
theorem dX10_reaches_145 : decode cX10_reaches 145 = .ok (.ifCond .le 7, 3) := by decide +kernel
theorem dX10_reaches_148 : decode cX10_reaches 148 = .ok (.iconst 1, 1) := by decide +kernel
theorem dX10_reaches_149 : decode cX10_reaches 149 = .ok (.goto 4, 3) := by decide +kernel
theorem dX10_reaches_152 : decode cX10_reaches 152 = .ok (.iconst (-1), 1) := by decide +kernel
theorem dX10_reaches_153 : decode cX10_reaches 153 = .ok (.if_icmp .ne 7, 3) := by decide +kernel
theorem dX10_reaches_156 : decode cX10_reaches 156 = .ok (.iconst 1, 1) := by decide +kernel
theorem dX10_reaches_157 : decode cX10_reaches 157 = .ok (.goto 4, 3) := by decide +kernel
theorem dX10_reaches_160 : decode cX10_reaches 160 = .ok (.iconst 0, 1) := by decide +kernel
theorem dX10_reaches_161 : decode cX10_reaches 161 = .ok (.ireturn, 1) := by decide +kernel
theorem dX10_reaches_162 : decode cX10_reaches 162 = .ok (.iload 5, 2) := by decide +kernel
theorem dX10_reaches_164 : decode cX10_reaches 164 = .ok (.iload 6, 2) := by decide +kernel
theorem dX10_reaches_166 : decode cX10_reaches 166 = .ok (.imul, 1) := by decide +kernel
theorem dX10_reaches_167 : decode cX10_reaches 167 = .ok (.iconst 2, 1) := by decide +kernel
theorem dX10_reaches_168 : decode cX10_reaches 168 = .ok (.if_icmp .ne 7, 3) := by decide +kernel
theorem dX10_reaches_171 : decode cX10_reaches 171 = .ok (.iconst 1, 1) := by decide +kernel
theorem dX10_reaches_172 : decode cX10_reaches 172 = .ok (.goto 4, 3) := by decide +kernel
theorem dX10_reaches_175 : decode cX10_reaches 175 = .ok (.iconst 0, 1) := by decide +kernel
theorem dX10_reaches_176 : decode cX10_reaches 176 = .ok (.ireturn, 1) := by decide +kernel
theorem dX10_reaches_177 : decode cX10_reaches 177 = .ok (.iload 8, 2) := by decide +kernel
theorem dX10_reaches_179 : decode cX10_reaches 179 = .ok (.ifCond .eq 16, 3) := by decide +kernel
theorem dX10_reaches_182 : decode cX10_reaches 182 = .ok (.aload_n 0, 1) := by decide +kernel
theorem dX10_reaches_183 : decode cX10_reaches 183 = .ok (.iload_n 1, 1) := by decide +kernel
theorem dX10_reaches_184 : decode cX10_reaches 184 = .ok (.iload_n 2, 1) := by decide +kernel
theorem dX10_reaches_185 : decode cX10_reaches 185 = .ok (.invokevirtual 82, 3) := by decide +kernel
theorem dX10_reaches_188 : decode cX10_reaches 188 = .ok (.ifCond .eq 7, 3) := by decide +kernel
theorem dX10_reaches_191 : decode cX10_reaches 191 = .ok (.iconst 1, 1) := by decide +kernel
theorem dX10_reaches_192 : decode cX10_reaches 192 = .ok (.goto 4, 3) := by decide +kernel
theorem dX10_reaches_195 : decode cX10_reaches 195 = .ok (.iconst 0, 1) := by decide +kernel
theorem dX10_reaches_196 : decode cX10_reaches 196 = .ok (.ireturn, 1) := by decide +kernel
theorem dX10_reaches_197 : decode cX10_reaches 197 = .ok (.iload 7, 2) := by decide +kernel
theorem dX10_reaches_199 : decode cX10_reaches 199 = .ok (.ifCond .eq 16, 3) := by decide +kernel
theorem dX10_reaches_202 : decode cX10_reaches 202 = .ok (.aload_n 0, 1) := by decide +kernel
theorem dX10_reaches_203 : decode cX10_reaches 203 = .ok (.iload_n 1, 1) := by decide +kernel
theorem dX10_reaches_204 : decode cX10_reaches 204 = .ok (.iload_n 2, 1) := by decide +kernel
theorem dX10_reaches_205 : decode cX10_reaches 205 = .ok (.invokevirtual 82, 3) := by decide +kernel
theorem dX10_reaches_208 : decode cX10_reaches 208 = .ok (.ifCond .eq 7, 3) := by decide +kernel
theorem dX10_reaches_211 : decode cX10_reaches 211 = .ok (.iconst 1, 1) := by decide +kernel
theorem dX10_reaches_212 : decode cX10_reaches 212 = .ok (.goto 4, 3) := by decide +kernel
theorem dX10_reaches_215 : decode cX10_reaches 215 = .ok (.iconst 0, 1) := by decide +kernel
theorem dX10_reaches_216 : decode cX10_reaches 216 = .ok (.ireturn, 1) := by decide +kernel
theorem dX10_reaches_217 : decode cX10_reaches 217 = .ok (.iload 7, 2) := by decide +kernel
theorem dX10_reaches_219 : decode cX10_reaches 219 = .ok (.ifCond .ne 8, 3) := by decide +kernel
theorem dX10_reaches_222 : decode cX10_reaches 222 = .ok (.iload 8, 2) := by decide +kernel
theorem dX10_reaches_224 : decode cX10_reaches 224 = .ok (.ifCond .eq 16, 3) := by decide +kernel
theorem dX10_reaches_227 : decode cX10_reaches 227 = .ok (.aload_n 0, 1) := by decide +kernel
theorem dX10_reaches_228 : decode cX10_reaches 228 = .ok (.iload_n 1, 1) := by decide +kernel
theorem dX10_reaches_229 : decode cX10_reaches 229 = .ok (.iload_n 2, 1) := by decide +kernel
theorem dX10_reaches_230 : decode cX10_reaches 230 = .ok (.invokevirtual 82, 3) := by decide +kernel
theorem dX10_reaches_233 : decode cX10_reaches 233 = .ok (.ifCond .eq 7, 3) := by decide +kernel
theorem dX10_reaches_236 : decode cX10_reaches 236 = .ok (.iconst 1, 1) := by decide +kernel
theorem dX10_reaches_237 : decode cX10_reaches 237 = .ok (.goto 4, 3) := by decide +kernel
theorem dX10_reaches_240 : decode cX10_reaches 240 = .ok (.iconst 0, 1) := by decide +kernel
theorem dX10_reaches_241 : decode cX10_reaches 241 = .ok (.ireturn, 1) := by decide +kernel
theorem dX10_reaches_242 : decode cX10_reaches 242 = .ok (.iload 5, 2) := by decide +kernel
theorem dX10_reaches_244 : decode cX10_reaches 244 = .ok (.iconst 2, 1) := by decide +kernel
theorem dX10_reaches_245 : decode cX10_reaches 245 = .ok (.if_icmp .ge 21, 3) := by decide +kernel
theorem dX10_reaches_248 : decode cX10_reaches 248 = .ok (.iload 6, 2) := by decide +kernel
theorem dX10_reaches_250 : decode cX10_reaches 250 = .ok (.iconst 2, 1) := by decide +kernel
theorem dX10_reaches_251 : decode cX10_reaches 251 = .ok (.if_icmp .ge 15, 3) := by decide +kernel
theorem dX10_reaches_254 : decode cX10_reaches 254 = .ok (.iload 5, 2) := by decide +kernel
theorem dX10_reaches_256 : decode cX10_reaches 256 = .ok (.iload 6, 2) := by decide +kernel
theorem dX10_reaches_258 : decode cX10_reaches 258 = .ok (.iadd, 1) := by decide +kernel
theorem dX10_reaches_259 : decode cX10_reaches 259 = .ok (.ifCond .le 7, 3) := by decide +kernel
theorem dX10_reaches_262 : decode cX10_reaches 262 = .ok (.iconst 1, 1) := by decide +kernel
theorem dX10_reaches_263 : decode cX10_reaches 263 = .ok (.goto 4, 3) := by decide +kernel
theorem dX10_reaches_266 : decode cX10_reaches 266 = .ok (.iconst 0, 1) := by decide +kernel
theorem dX10_reaches_267 : decode cX10_reaches 267 = .ok (.ireturn, 1) := by decide +kernel
theorem dX10_reaches_268 : decode cX10_reaches 268 = .ok (.iconst 0, 1) := by decide +kernel
theorem dX10_reaches_269 : decode cX10_reaches 269 = .ok (.ireturn, 1) := by decide +kernel
theorem dX10_isAttacked_0 : decode cX10_isAttacked 0 = .ok (.iconst 0, 1) := by decide +kernel
theorem dX10_isAttacked_1 : decode cX10_isAttacked 1 = .ok (.istore_n 3, 1) := by decide +kernel
theorem dX10_isAttacked_2 : decode cX10_isAttacked 2 = .ok (.iconst 0, 1) := by decide +kernel
theorem dX10_isAttacked_3 : decode cX10_isAttacked 3 = .ok (.istore 4, 2) := by decide +kernel
theorem dX10_isAttacked_5 : decode cX10_isAttacked 5 = .ok (.iload 4, 2) := by decide +kernel
theorem dX10_isAttacked_7 : decode cX10_isAttacked 7 = .ok (.bipush 64, 2) := by decide +kernel
theorem dX10_isAttacked_9 : decode cX10_isAttacked 9 = .ok (.if_icmp .ge 43, 3) := by decide +kernel
theorem dX10_isAttacked_12 : decode cX10_isAttacked 12 = .ok (.iload_n 3, 1) := by decide +kernel
theorem dX10_isAttacked_13 : decode cX10_isAttacked 13 = .ok (.ifCond .ne 39, 3) := by decide +kernel
theorem dX10_isAttacked_16 : decode cX10_isAttacked 16 = .ok (.aload_n 0, 1) := by decide +kernel
theorem dX10_isAttacked_17 : decode cX10_isAttacked 17 = .ok (.getfield 7, 3) := by decide +kernel
theorem dX10_isAttacked_20 : decode cX10_isAttacked 20 = .ok (.iload 4, 2) := by decide +kernel
theorem dX10_isAttacked_22 : decode cX10_isAttacked 22 = .ok (.iaload, 1) := by decide +kernel
theorem dX10_isAttacked_23 : decode cX10_isAttacked 23 = .ok (.iload_n 2, 1) := by decide +kernel
theorem dX10_isAttacked_24 : decode cX10_isAttacked 24 = .ok (.invokestatic 86, 3) := by decide +kernel
theorem dX10_isAttacked_27 : decode cX10_isAttacked 27 = .ok (.ifCond .eq 17, 3) := by decide +kernel
theorem dX10_isAttacked_30 : decode cX10_isAttacked 30 = .ok (.aload_n 0, 1) := by decide +kernel
theorem dX10_isAttacked_31 : decode cX10_isAttacked 31 = .ok (.iload 4, 2) := by decide +kernel
theorem dX10_isAttacked_33 : decode cX10_isAttacked 33 = .ok (.iload_n 1, 1) := by decide +kernel
theorem dX10_isAttacked_34 : decode cX10_isAttacked 34 = .ok (.invokevirtual 89, 3) := by decide +kernel
theorem dX10_isAttacked_37 : decode cX10_isAttacked 37 = .ok (.ifCond .eq 7, 3) := by decide +kernel
theorem dX10_isAttacked_40 : decode cX10_isAttacked 40 = .ok (.iconst 1, 1) := by decide +kernel
theorem dX10_isAttacked_41 : decode cX10_isAttacked 41 = .ok (.goto 4, 3) := by decide +kernel
theorem dX10_isAttacked_44 : decode cX10_isAttacked 44 = .ok (.iconst 0, 1) := by decide +kernel
theorem dX10_isAttacked_45 : decode cX10_isAttacked 45 = .ok (.istore_n 3, 1) := by decide +kernel
theorem dX10_isAttacked_46 : decode cX10_isAttacked 46 = .ok (.iinc 4 1, 3) := by decide +kernel
theorem dX10_isAttacked_49 : decode cX10_isAttacked 49 = .ok (.goto (-44), 3) := by decide +kernel
theorem dX10_isAttacked_52 : decode cX10_isAttacked 52 = .ok (.iload_n 3, 1) := by decide +kernel
theorem dX10_isAttacked_53 : decode cX10_isAttacked 53 = .ok (.ireturn, 1) := by decide +kernel
theorem dX10_inCheck_0 : decode cX10_inCheck 0 = .ok (.iconst 0, 1) := by decide +kernel
theorem dX10_inCheck_1 : decode cX10_inCheck 1 = .ok (.istore_n 2, 1) := by decide +kernel
theorem dX10_inCheck_2 : decode cX10_inCheck 2 = .ok (.iconst 0, 1) := by decide +kernel
theorem dX10_inCheck_3 : decode cX10_inCheck 3 = .ok (.istore_n 3, 1) := by decide +kernel
theorem dX10_inCheck_4 : decode cX10_inCheck 4 = .ok (.iload_n 3, 1) := by decide +kernel
theorem dX10_inCheck_5 : decode cX10_inCheck 5 = .ok (.bipush 64, 2) := by decide +kernel
theorem dX10_inCheck_7 : decode cX10_inCheck 7 = .ok (.if_icmp .ge 35, 3) := by decide +kernel
theorem dX10_inCheck_10 : decode cX10_inCheck 10 = .ok (.aload_n 0, 1) := by decide +kernel
theorem dX10_inCheck_11 : decode cX10_inCheck 11 = .ok (.getfield 7, 3) := by decide +kernel
theorem dX10_inCheck_14 : decode cX10_inCheck 14 = .ok (.iload_n 3, 1) := by decide +kernel
theorem dX10_inCheck_15 : decode cX10_inCheck 15 = .ok (.iaload, 1) := by decide +kernel
theorem dX10_inCheck_16 : decode cX10_inCheck 16 = .ok (.iload_n 1, 1) := by decide +kernel
theorem dX10_inCheck_17 : decode cX10_inCheck 17 = .ok (.ifCond .ne 8, 3) := by decide +kernel
theorem dX10_inCheck_20 : decode cX10_inCheck 20 = .ok (.bipush 6, 2) := by decide +kernel
theorem dX10_inCheck_22 : decode cX10_inCheck 22 = .ok (.goto 5, 3) := by decide +kernel
theorem dX10_inCheck_25 : decode cX10_inCheck 25 = .ok (.bipush (-6), 2) := by decide +kernel
theorem dX10_inCheck_27 : decode cX10_inCheck 27 = .ok (.if_icmp .ne 7, 3) := by decide +kernel
theorem dX10_inCheck_30 : decode cX10_inCheck 30 = .ok (.iload_n 3, 1) := by decide +kernel
theorem dX10_inCheck_31 : decode cX10_inCheck 31 = .ok (.goto 4, 3) := by decide +kernel
theorem dX10_inCheck_34 : decode cX10_inCheck 34 = .ok (.iload_n 2, 1) := by decide +kernel
theorem dX10_inCheck_35 : decode cX10_inCheck 35 = .ok (.istore_n 2, 1) := by decide +kernel
theorem dX10_inCheck_36 : decode cX10_inCheck 36 = .ok (.iinc 3 1, 3) := by decide +kernel
theorem dX10_inCheck_39 : decode cX10_inCheck 39 = .ok (.goto (-35), 3) := by decide +kernel
theorem dX10_inCheck_42 : decode cX10_inCheck 42 = .ok (.aload_n 0, 1) := by decide +kernel
theorem dX10_inCheck_43 : decode cX10_inCheck 43 = .ok (.iload_n 2, 1) := by decide +kernel
theorem dX10_inCheck_44 : decode cX10_inCheck 44 = .ok (.iconst 1, 1) := by decide +kernel
theorem dX10_inCheck_45 : decode cX10_inCheck 45 = .ok (.iload_n 1, 1) := by decide +kernel
theorem dX10_inCheck_46 : decode cX10_inCheck 46 = .ok (.isub, 1) := by decide +kernel
theorem dX10_inCheck_47 : decode cX10_inCheck 47 = .ok (.invokevirtual 92, 3) := by decide +kernel
theorem dX10_inCheck_50 : decode cX10_inCheck 50 = .ok (.ireturn, 1) := by decide +kernel
theorem dX10_change_0 : decode cX10_change 0 = .ok (.aload_n 0, 1) := by decide +kernel
theorem dX10_change_1 : decode cX10_change 1 = .ok (.getfield 51, 3) := by decide +kernel
theorem dX10_change_4 : decode cX10_change 4 = .ok (.aload_n 0, 1) := by decide +kernel
theorem dX10_change_5 : decode cX10_change 5 = .ok (.getfield 95, 3) := by decide +kernel
theorem dX10_change_8 : decode cX10_change 8 = .ok (.iload_n 1, 1) := by decide +kernel
theorem dX10_change_9 : decode cX10_change 9 = .ok (.iastore, 1) := by decide +kernel
theorem dX10_change_10 : decode cX10_change 10 = .ok (.aload_n 0, 1) := by decide +kernel
theorem dX10_change_11 : decode cX10_change 11 = .ok (.getfield 54, 3) := by decide +kernel
theorem dX10_change_14 : decode cX10_change 14 = .ok (.aload_n 0, 1) := by decide +kernel
theorem dX10_change_15 : decode cX10_change 15 = .ok (.getfield 95, 3) := by decide +kernel
theorem dX10_change_18 : decode cX10_change 18 = .ok (.aload_n 0, 1) := by decide +kernel
theorem dX10_change_19 : decode cX10_change 19 = .ok (.getfield 7, 3) := by decide +kernel
theorem dX10_change_22 : decode cX10_change 22 = .ok (.iload_n 1, 1) := by decide +kernel
theorem dX10_change_23 : decode cX10_change 23 = .ok (.iaload, 1) := by decide +kernel
theorem dX10_change_24 : decode cX10_change 24 = .ok (.iastore, 1) := by decide +kernel
theorem dX10_change_25 : decode cX10_change 25 = .ok (.aload_n 0, 1) := by decide +kernel
theorem dX10_change_26 : decode cX10_change 26 = .ok (.dup, 1) := by decide +kernel
theorem dX10_change_27 : decode cX10_change 27 = .ok (.getfield 95, 3) := by decide +kernel
theorem dX10_change_30 : decode cX10_change 30 = .ok (.iconst 1, 1) := by decide +kernel
theorem dX10_change_31 : decode cX10_change 31 = .ok (.iadd, 1) := by decide +kernel
theorem dX10_change_32 : decode cX10_change 32 = .ok (.putfield 95, 3) := by decide +kernel
theorem dX10_change_35 : decode cX10_change 35 = .ok (.aload_n 0, 1) := by decide +kernel
theorem dX10_change_36 : decode cX10_change 36 = .ok (.getfield 7, 3) := by decide +kernel
theorem dX10_change_39 : decode cX10_change 39 = .ok (.iload_n 1, 1) := by decide +kernel
theorem dX10_change_40 : decode cX10_change 40 = .ok (.iload_n 2, 1) := by decide +kernel
theorem dX10_change_41 : decode cX10_change 41 = .ok (.iastore, 1) := by decide +kernel
theorem dX10_change_42 : decode cX10_change 42 = .ok (.return_, 1) := by decide +kernel
theorem dX10_moveMen_0 : decode cX10_moveMen 0 = .ok (.aload_n 0, 1) := by decide +kernel
theorem dX10_moveMen_1 : decode cX10_moveMen 1 = .ok (.iconst 0, 1) := by decide +kernel
theorem dX10_moveMen_2 : decode cX10_moveMen 2 = .ok (.putfield 95, 3) := by decide +kernel
theorem dX10_moveMen_5 : decode cX10_moveMen 5 = .ok (.aload_n 0, 1) := by decide +kernel
theorem dX10_moveMen_6 : decode cX10_moveMen 6 = .ok (.getfield 7, 3) := by decide +kernel
theorem dX10_moveMen_9 : decode cX10_moveMen 9 = .ok (.iload_n 1, 1) := by decide +kernel
theorem dX10_moveMen_10 : decode cX10_moveMen 10 = .ok (.iaload, 1) := by decide +kernel
theorem dX10_moveMen_11 : decode cX10_moveMen 11 = .ok (.istore 4, 2) := by decide +kernel
theorem dX10_moveMen_13 : decode cX10_moveMen 13 = .ok (.aload_n 0, 1) := by decide +kernel
theorem dX10_moveMen_14 : decode cX10_moveMen 14 = .ok (.getfield 7, 3) := by decide +kernel
theorem dX10_moveMen_17 : decode cX10_moveMen 17 = .ok (.iload_n 2, 1) := by decide +kernel
theorem dX10_moveMen_18 : decode cX10_moveMen 18 = .ok (.iaload, 1) := by decide +kernel
theorem dX10_moveMen_19 : decode cX10_moveMen 19 = .ok (.istore 5, 2) := by decide +kernel
theorem dX10_moveMen_21 : decode cX10_moveMen 21 = .ok (.iload_n 1, 1) := by decide +kernel
theorem dX10_moveMen_22 : decode cX10_moveMen 22 = .ok (.invokestatic 73, 3) := by decide +kernel
theorem dX10_moveMen_25 : decode cX10_moveMen 25 = .ok (.iload_n 2, 1) := by decide +kernel
theorem dX10_moveMen_26 : decode cX10_moveMen 26 = .ok (.invokestatic 73, 3) := by decide +kernel
theorem dX10_moveMen_29 : decode cX10_moveMen 29 = .ok (.if_icmp .eq 7, 3) := by decide +kernel
theorem dX10_moveMen_32 : decode cX10_moveMen 32 = .ok (.iconst 1, 1) := by decide +kernel
theorem dX10_moveMen_33 : decode cX10_moveMen 33 = .ok (.goto 4, 3) := by decide +kernel
theorem dX10_moveMen_36 : decode cX10_moveMen 36 = .ok (.iconst 0, 1) := by decide +kernel
theorem dX10_moveMen_37 : decode cX10_moveMen 37 = .ok (.istore 6, 2) := by decide +kernel
theorem dX10_moveMen_39 : decode cX10_moveMen 39 = .ok (.iload 4, 2) := by decide +kernel
theorem dX10_moveMen_41 : decode cX10_moveMen 41 = .ok (.invokestatic 79, 3) := by decide +kernel
theorem dX10_moveMen_44 : decode cX10_moveMen 44 = .ok (.iconst 1, 1) := by decide +kernel
theorem dX10_moveMen_45 : decode cX10_moveMen 45 = .ok (.if_icmp .ne 46, 3) := by decide +kernel
theorem dX10_moveMen_48 : decode cX10_moveMen 48 = .ok (.iload 6, 2) := by decide +kernel
theorem dX10_moveMen_50 : decode cX10_moveMen 50 = .ok (.ifCond .eq 41, 3) := by decide +kernel
theorem dX10_moveMen_53 : decode cX10_moveMen 53 = .ok (.iload 5, 2) := by decide +kernel
theorem dX10_moveMen_55 : decode cX10_moveMen 55 = .ok (.ifCond .ne 36, 3) := by decide +kernel
theorem dX10_moveMen_58 : decode cX10_moveMen 58 = .ok (.iload_n 2, 1) := by decide +kernel
theorem dX10_moveMen_59 : decode cX10_moveMen 59 = .ok (.iload 4, 2) := by decide +kernel
theorem dX10_moveMen_61 : decode cX10_moveMen 61 = .ok (.ifCond .le 7, 3) := by decide +kernel
theorem dX10_moveMen_64 : decode cX10_moveMen 64 = .ok (.iconst 0, 1) := by decide +kernel
theorem dX10_moveMen_65 : decode cX10_moveMen 65 = .ok (.goto 4, 3) := by decide +kernel
theorem dX10_moveMen_68 : decode cX10_moveMen 68 = .ok (.iconst 1, 1) := by decide +kernel
theorem dX10_moveMen_69 : decode cX10_moveMen 69 = .ok (.invokestatic 98, 3) := by decide +kernel
theorem dX10_moveMen_72 : decode cX10_moveMen 72 = .ok (.isub, 1) := by decide +kernel
theorem dX10_moveMen_73 : decode cX10_moveMen 73 = .ok (.istore 7, 2) := by decide +kernel
theorem dX10_moveMen_75 : decode cX10_moveMen 75 = .ok (.aload_n 0, 1) := by decide +kernel
theorem dX10_moveMen_76 : decode cX10_moveMen 76 = .ok (.getfield 7, 3) := by decide +kernel
theorem dX10_moveMen_79 : decode cX10_moveMen 79 = .ok (.iload 7, 2) := by decide +kernel
theorem dX10_moveMen_81 : decode cX10_moveMen 81 = .ok (.iaload, 1) := by decide +kernel
theorem dX10_moveMen_82 : decode cX10_moveMen 82 = .ok (.istore 5, 2) := by decide +kernel
theorem dX10_moveMen_84 : decode cX10_moveMen 84 = .ok (.aload_n 0, 1) := by decide +kernel
theorem dX10_moveMen_85 : decode cX10_moveMen 85 = .ok (.iload 7, 2) := by decide +kernel
theorem dX10_moveMen_87 : decode cX10_moveMen 87 = .ok (.iconst 0, 1) := by decide +kernel
theorem dX10_moveMen_88 : decode cX10_moveMen 88 = .ok (.invokevirtual 101, 3) := by decide +kernel
theorem dX10_moveMen_91 : decode cX10_moveMen 91 = .ok (.iload 4, 2) := by decide +kernel
theorem dX10_moveMen_93 : decode cX10_moveMen 93 = .ok (.invokestatic 79, 3) := by decide +kernel
theorem dX10_moveMen_96 : decode cX10_moveMen 96 = .ok (.bipush 6, 2) := by decide +kernel
theorem dX10_moveMen_98 : decode cX10_moveMen 98 = .ok (.if_icmp .ne 58, 3) := by decide +kernel
theorem dX10_moveMen_101 : decode cX10_moveMen 101 = .ok (.iload_n 2, 1) := by decide +kernel
theorem dX10_moveMen_102 : decode cX10_moveMen 102 = .ok (.invokestatic 73, 3) := by decide +kernel
theorem dX10_moveMen_105 : decode cX10_moveMen 105 = .ok (.iload_n 1, 1) := by decide +kernel
theorem dX10_moveMen_106 : decode cX10_moveMen 106 = .ok (.invokestatic 73, 3) := by decide +kernel
theorem dX10_moveMen_109 : decode cX10_moveMen 109 = .ok (.isub, 1) := by decide +kernel
theorem dX10_moveMen_110 : decode cX10_moveMen 110 = .ok (.invokestatic 76, 3) := by decide +kernel
theorem dX10_moveMen_113 : decode cX10_moveMen 113 = .ok (.iconst 2, 1) := by decide +kernel
theorem dX10_moveMen_114 : decode cX10_moveMen 114 = .ok (.if_icmp .ne 42, 3) := by decide +kernel
theorem dX10_moveMen_117 : decode cX10_moveMen 117 = .ok (.iload_n 2, 1) := by decide +kernel
theorem dX10_moveMen_118 : decode cX10_moveMen 118 = .ok (.iload_n 1, 1) := by decide +kernel
theorem dX10_moveMen_119 : decode cX10_moveMen 119 = .ok (.if_icmp .le 9, 3) := by decide +kernel
theorem dX10_moveMen_122 : decode cX10_moveMen 122 = .ok (.iload_n 1, 1) := by decide +kernel
theorem dX10_moveMen_123 : decode cX10_moveMen 123 = .ok (.iconst 3, 1) := by decide +kernel
theorem dX10_moveMen_124 : decode cX10_moveMen 124 = .ok (.iadd, 1) := by decide +kernel
theorem dX10_moveMen_125 : decode cX10_moveMen 125 = .ok (.goto 6, 3) := by decide +kernel
theorem dX10_moveMen_128 : decode cX10_moveMen 128 = .ok (.iload_n 1, 1) := by decide +kernel
theorem dX10_moveMen_129 : decode cX10_moveMen 129 = .ok (.iconst 4, 1) := by decide +kernel
theorem dX10_moveMen_130 : decode cX10_moveMen 130 = .ok (.isub, 1) := by decide +kernel
theorem dX10_moveMen_131 : decode cX10_moveMen 131 = .ok (.istore 7, 2) := by decide +kernel
theorem dX10_moveMen_133 : decode cX10_moveMen 133 = .ok (.aload_n 0, 1) := by decide +kernel
theorem dX10_moveMen_134 : decode cX10_moveMen 134 = .ok (.iload_n 1, 1) := by decide +kernel
theorem dX10_moveMen_135 : decode cX10_moveMen 135 = .ok (.iload_n 2, 1) := by decide +kernel
theorem dX10_moveMen_136 : decode cX10_moveMen 136 = .ok (.iadd, 1) := by decide +kernel
theorem dX10_moveMen_137 : decode cX10_moveMen 137 = .ok (.iconst 2, 1) := by decide +kernel
theorem dX10_moveMen_138 : decode cX10_moveMen 138 = .ok (.idiv, 1) := by decide +kernel
theorem dX10_moveMen_139 : decode cX10_moveMen 139 = .ok (.aload_n 0, 1) := by decide +kernel
theorem dX10_moveMen_140 : decode cX10_moveMen 140 = .ok (.getfield 7, 3) := by decide +kernel
theorem dX10_moveMen_143 : decode cX10_moveMen 143 = .ok (.iload 7, 2) := by decide +kernel
theorem dX10_moveMen_145 : decode cX10_moveMen 145 = .ok (.iaload, 1) := by decide +kernel
theorem dX10_moveMen_146 : decode cX10_moveMen 146 = .ok (.invokevirtual 101, 3) := by decide +kernel
theorem dX10_moveMen_149 : decode cX10_moveMen 149 = .ok (.aload_n 0, 1) := by decide +kernel
theorem dX10_moveMen_150 : decode cX10_moveMen 150 = .ok (.iload 7, 2) := by decide +kernel
theorem dX10_moveMen_152 : decode cX10_moveMen 152 = .ok (.iconst 0, 1) := by decide +kernel
theorem dX10_moveMen_153 : decode cX10_moveMen 153 = .ok (.invokevirtual 101, 3) := by decide +kernel
theorem dX10_moveMen_156 : decode cX10_moveMen 156 = .ok (.aload_n 0, 1) := by decide +kernel
theorem dX10_moveMen_157 : decode cX10_moveMen 157 = .ok (.iload_n 1, 1) := by decide +kernel
theorem dX10_moveMen_158 : decode cX10_moveMen 158 = .ok (.iconst 0, 1) := by decide +kernel
theorem dX10_moveMen_159 : decode cX10_moveMen 159 = .ok (.invokevirtual 101, 3) := by decide +kernel
theorem dX10_moveMen_162 : decode cX10_moveMen 162 = .ok (.aload_n 0, 1) := by decide +kernel
theorem dX10_moveMen_163 : decode cX10_moveMen 163 = .ok (.iload_n 2, 1) := by decide +kernel
theorem dX10_moveMen_164 : decode cX10_moveMen 164 = .ok (.iload_n 3, 1) := by decide +kernel
theorem dX10_moveMen_165 : decode cX10_moveMen 165 = .ok (.ifCond .ne 8, 3) := by decide +kernel
theorem dX10_moveMen_168 : decode cX10_moveMen 168 = .ok (.iload 4, 2) := by decide +kernel
theorem dX10_moveMen_170 : decode cX10_moveMen 170 = .ok (.goto 14, 3) := by decide +kernel
theorem dX10_moveMen_173 : decode cX10_moveMen 173 = .ok (.iload 4, 2) := by decide +kernel
theorem dX10_moveMen_175 : decode cX10_moveMen 175 = .ok (.ifCond .le 7, 3) := by decide +kernel
theorem dX10_moveMen_178 : decode cX10_moveMen 178 = .ok (.iload_n 3, 1) := by decide +kernel
theorem dX10_moveMen_179 : decode cX10_moveMen 179 = .ok (.goto 5, 3) := by decide +kernel
theorem dX10_moveMen_182 : decode cX10_moveMen 182 = .ok (.iload_n 3, 1) := by decide +kernel
theorem dX10_moveMen_183 : decode cX10_moveMen 183 = .ok (.ineg, 1) := by decide +kernel
theorem dX10_moveMen_184 : decode cX10_moveMen 184 = .ok (.invokevirtual 101, 3) := by decide +kernel
theorem dX10_moveMen_187 : decode cX10_moveMen 187 = .ok (.iload 5, 2) := by decide +kernel
theorem dX10_moveMen_189 : decode cX10_moveMen 189 = .ok (.ireturn, 1) := by decide +kernel
theorem dX10_undoMen_0 : decode cX10_undoMen 0 = .ok (.aload_n 0, 1) := by decide +kernel
theorem dX10_undoMen_1 : decode cX10_undoMen 1 = .ok (.getfield 95, 3) := by decide +kernel
theorem dX10_undoMen_4 : decode cX10_undoMen 4 = .ok (.ifCond .le 39, 3) := by decide +kernel
theorem dX10_undoMen_7 : decode cX10_undoMen 7 = .ok (.aload_n 0, 1) := by decide +kernel
theorem dX10_undoMen_8 : decode cX10_undoMen 8 = .ok (.dup, 1) := by decide +kernel
theorem dX10_undoMen_9 : decode cX10_undoMen 9 = .ok (.getfield 95, 3) := by decide +kernel
theorem dX10_undoMen_12 : decode cX10_undoMen 12 = .ok (.iconst 1, 1) := by decide +kernel
theorem dX10_undoMen_13 : decode cX10_undoMen 13 = .ok (.isub, 1) := by decide +kernel
theorem dX10_undoMen_14 : decode cX10_undoMen 14 = .ok (.putfield 95, 3) := by decide +kernel
theorem dX10_undoMen_17 : decode cX10_undoMen 17 = .ok (.aload_n 0, 1) := by decide +kernel
theorem dX10_undoMen_18 : decode cX10_undoMen 18 = .ok (.getfield 7, 3) := by decide +kernel
theorem dX10_undoMen_21 : decode cX10_undoMen 21 = .ok (.aload_n 0, 1) := by decide +kernel
theorem dX10_undoMen_22 : decode cX10_undoMen 22 = .ok (.getfield 51, 3) := by decide +kernel
theorem dX10_undoMen_25 : decode cX10_undoMen 25 = .ok (.aload_n 0, 1) := by decide +kernel
theorem dX10_undoMen_26 : decode cX10_undoMen 26 = .ok (.getfield 95, 3) := by decide +kernel
theorem dX10_undoMen_29 : decode cX10_undoMen 29 = .ok (.iaload, 1) := by decide +kernel
theorem dX10_undoMen_30 : decode cX10_undoMen 30 = .ok (.aload_n 0, 1) := by decide +kernel
theorem dX10_undoMen_31 : decode cX10_undoMen 31 = .ok (.getfield 54, 3) := by decide +kernel
theorem dX10_undoMen_34 : decode cX10_undoMen 34 = .ok (.aload_n 0, 1) := by decide +kernel
theorem dX10_undoMen_35 : decode cX10_undoMen 35 = .ok (.getfield 95, 3) := by decide +kernel
theorem dX10_undoMen_38 : decode cX10_undoMen 38 = .ok (.iaload, 1) := by decide +kernel
theorem dX10_undoMen_39 : decode cX10_undoMen 39 = .ok (.iastore, 1) := by decide +kernel
theorem dX10_undoMen_40 : decode cX10_undoMen 40 = .ok (.goto (-40), 3) := by decide +kernel
theorem dX10_undoMen_43 : decode cX10_undoMen 43 = .ok (.return_, 1) := by decide +kernel
theorem dX10_isSafe_0 : decode cX10_isSafe 0 = .ok (.aload_n 0, 1) := by decide +kernel
theorem dX10_isSafe_1 : decode cX10_isSafe 1 = .ok (.getfield 7, 3) := by decide +kernel
theorem dX10_isSafe_4 : decode cX10_isSafe 4 = .ok (.iload_n 1, 1) := by decide +kernel
theorem dX10_isSafe_5 : decode cX10_isSafe 5 = .ok (.iaload, 1) := by decide +kernel
theorem dX10_isSafe_6 : decode cX10_isSafe 6 = .ok (.ifCond .le 7, 3) := by decide +kernel
theorem dX10_isSafe_9 : decode cX10_isSafe 9 = .ok (.iconst 0, 1) := by decide +kernel
theorem dX10_isSafe_10 : decode cX10_isSafe 10 = .ok (.goto 4, 3) := by decide +kernel
theorem dX10_isSafe_13 : decode cX10_isSafe 13 = .ok (.iconst 1, 1) := by decide +kernel
theorem dX10_isSafe_14 : decode cX10_isSafe 14 = .ok (.istore 4, 2) := by decide +kernel
theorem dX10_isSafe_16 : decode cX10_isSafe 16 = .ok (.aload_n 0, 1) := by decide +kernel
theorem dX10_isSafe_17 : decode cX10_isSafe 17 = .ok (.iload_n 1, 1) := by decide +kernel
theorem dX10_isSafe_18 : decode cX10_isSafe 18 = .ok (.iload_n 2, 1) := by decide +kernel
theorem dX10_isSafe_19 : decode cX10_isSafe 19 = .ok (.iload_n 3, 1) := by decide +kernel
theorem dX10_isSafe_20 : decode cX10_isSafe 20 = .ok (.invokevirtual 105, 3) := by decide +kernel
theorem dX10_isSafe_23 : decode cX10_isSafe 23 = .ok (.istore 5, 2) := by decide +kernel
theorem dX10_isSafe_25 : decode cX10_isSafe 25 = .ok (.aload_n 0, 1) := by decide +kernel
theorem dX10_isSafe_26 : decode cX10_isSafe 26 = .ok (.iload 4, 2) := by decide +kernel
theorem dX10_isSafe_28 : decode cX10_isSafe 28 = .ok (.invokevirtual 109, 3) := by decide +kernel
theorem dX10_isSafe_31 : decode cX10_isSafe 31 = .ok (.ifCond .ne 7, 3) := by decide +kernel
theorem dX10_isSafe_34 : decode cX10_isSafe 34 = .ok (.iconst 1, 1) := by decide +kernel
theorem dX10_isSafe_35 : decode cX10_isSafe 35 = .ok (.goto 4, 3) := by decide +kernel
theorem dX10_isSafe_38 : decode cX10_isSafe 38 = .ok (.iconst 0, 1) := by decide +kernel
theorem dX10_isSafe_39 : decode cX10_isSafe 39 = .ok (.istore 6, 2) := by decide +kernel
theorem dX10_isSafe_41 : decode cX10_isSafe 41 = .ok (.aload_n 0, 1) := by decide +kernel
theorem dX10_isSafe_42 : decode cX10_isSafe 42 = .ok (.invokevirtual 113, 3) := by decide +kernel
theorem dX10_isSafe_45 : decode cX10_isSafe 45 = .ok (.iload 6, 2) := by decide +kernel
theorem dX10_isSafe_47 : decode cX10_isSafe 47 = .ok (.ireturn, 1) := by decide +kernel
theorem dX10_push_0 : decode cX10_push 0 = .ok (.bipush 69, 2) := by decide +kernel
theorem dX10_push_2 : decode cX10_push 2 = .ok (.aload_n 0, 1) := by decide +kernel
theorem dX10_push_3 : decode cX10_push 3 = .ok (.getfield 116, 3) := by decide +kernel
theorem dX10_push_6 : decode cX10_push 6 = .ok (.imul, 1) := by decide +kernel
theorem dX10_push_7 : decode cX10_push 7 = .ok (.istore_n 1, 1) := by decide +kernel
theorem dX10_push_8 : decode cX10_push 8 = .ok (.iconst 0, 1) := by decide +kernel
theorem dX10_push_9 : decode cX10_push 9 = .ok (.istore_n 2, 1) := by decide +kernel
theorem dX10_push_10 : decode cX10_push 10 = .ok (.iload_n 2, 1) := by decide +kernel
theorem dX10_push_11 : decode cX10_push 11 = .ok (.bipush 64, 2) := by decide +kernel
theorem dX10_push_13 : decode cX10_push 13 = .ok (.if_icmp .ge 23, 3) := by decide +kernel
theorem dX10_push_16 : decode cX10_push 16 = .ok (.aload_n 0, 1) := by decide +kernel
theorem dX10_push_17 : decode cX10_push 17 = .ok (.getfield 18, 3) := by decide +kernel
theorem dX10_push_20 : decode cX10_push 20 = .ok (.iload_n 1, 1) := by decide +kernel
theorem dX10_push_21 : decode cX10_push 21 = .ok (.iload_n 2, 1) := by decide +kernel
theorem dX10_push_22 : decode cX10_push 22 = .ok (.iadd, 1) := by decide +kernel
theorem dX10_push_23 : decode cX10_push 23 = .ok (.aload_n 0, 1) := by decide +kernel
theorem dX10_push_24 : decode cX10_push 24 = .ok (.getfield 7, 3) := by decide +kernel
theorem dX10_push_27 : decode cX10_push 27 = .ok (.iload_n 2, 1) := by decide +kernel
theorem dX10_push_28 : decode cX10_push 28 = .ok (.iaload, 1) := by decide +kernel
theorem dX10_push_29 : decode cX10_push 29 = .ok (.iastore, 1) := by decide +kernel
theorem dX10_push_30 : decode cX10_push 30 = .ok (.iinc 2 1, 3) := by decide +kernel
theorem dX10_push_33 : decode cX10_push 33 = .ok (.goto (-23), 3) := by decide +kernel
theorem dX10_push_36 : decode cX10_push 36 = .ok (.aload_n 0, 1) := by decide +kernel
theorem dX10_push_37 : decode cX10_push 37 = .ok (.getfield 18, 3) := by decide +kernel
theorem dX10_push_40 : decode cX10_push 40 = .ok (.iload_n 1, 1) := by decide +kernel
theorem dX10_push_41 : decode cX10_push 41 = .ok (.bipush 64, 2) := by decide +kernel
theorem dX10_push_43 : decode cX10_push 43 = .ok (.iadd, 1) := by decide +kernel
theorem dX10_push_44 : decode cX10_push 44 = .ok (.aload_n 0, 1) := by decide +kernel
theorem dX10_push_45 : decode cX10_push 45 = .ok (.getfield 119, 3) := by decide +kernel
theorem dX10_push_48 : decode cX10_push 48 = .ok (.iastore, 1) := by decide +kernel
theorem dX10_push_49 : decode cX10_push 49 = .ok (.aload_n 0, 1) := by decide +kernel
theorem dX10_push_50 : decode cX10_push 50 = .ok (.getfield 18, 3) := by decide +kernel
theorem dX10_push_53 : decode cX10_push 53 = .ok (.iload_n 1, 1) := by decide +kernel
theorem dX10_push_54 : decode cX10_push 54 = .ok (.bipush 65, 2) := by decide +kernel
theorem dX10_push_56 : decode cX10_push 56 = .ok (.iadd, 1) := by decide +kernel
theorem dX10_push_57 : decode cX10_push 57 = .ok (.aload_n 0, 1) := by decide +kernel
theorem dX10_push_58 : decode cX10_push 58 = .ok (.getfield 60, 3) := by decide +kernel
theorem dX10_push_61 : decode cX10_push 61 = .ok (.iastore, 1) := by decide +kernel
theorem dX10_push_62 : decode cX10_push 62 = .ok (.aload_n 0, 1) := by decide +kernel
theorem dX10_push_63 : decode cX10_push 63 = .ok (.getfield 18, 3) := by decide +kernel
theorem dX10_push_66 : decode cX10_push 66 = .ok (.iload_n 1, 1) := by decide +kernel
theorem dX10_push_67 : decode cX10_push 67 = .ok (.bipush 66, 2) := by decide +kernel
theorem dX10_push_69 : decode cX10_push 69 = .ok (.iadd, 1) := by decide +kernel
theorem dX10_push_70 : decode cX10_push 70 = .ok (.aload_n 0, 1) := by decide +kernel
theorem dX10_push_71 : decode cX10_push 71 = .ok (.getfield 13, 3) := by decide +kernel
theorem dX10_push_74 : decode cX10_push 74 = .ok (.iastore, 1) := by decide +kernel
theorem dX10_push_75 : decode cX10_push 75 = .ok (.aload_n 0, 1) := by decide +kernel
theorem dX10_push_76 : decode cX10_push 76 = .ok (.getfield 18, 3) := by decide +kernel
theorem dX10_push_79 : decode cX10_push 79 = .ok (.iload_n 1, 1) := by decide +kernel
theorem dX10_push_80 : decode cX10_push 80 = .ok (.bipush 67, 2) := by decide +kernel
theorem dX10_push_82 : decode cX10_push 82 = .ok (.iadd, 1) := by decide +kernel
theorem dX10_push_83 : decode cX10_push 83 = .ok (.aload_n 0, 1) := by decide +kernel
theorem dX10_push_84 : decode cX10_push 84 = .ok (.getfield 122, 3) := by decide +kernel
theorem dX10_push_87 : decode cX10_push 87 = .ok (.iastore, 1) := by decide +kernel
theorem dX10_push_88 : decode cX10_push 88 = .ok (.aload_n 0, 1) := by decide +kernel
theorem dX10_push_89 : decode cX10_push 89 = .ok (.getfield 18, 3) := by decide +kernel
theorem dX10_push_92 : decode cX10_push 92 = .ok (.iload_n 1, 1) := by decide +kernel
theorem dX10_push_93 : decode cX10_push 93 = .ok (.bipush 68, 2) := by decide +kernel
theorem dX10_push_95 : decode cX10_push 95 = .ok (.iadd, 1) := by decide +kernel
theorem dX10_push_96 : decode cX10_push 96 = .ok (.aload_n 0, 1) := by decide +kernel
theorem dX10_push_97 : decode cX10_push 97 = .ok (.getfield 63, 3) := by decide +kernel
theorem dX10_push_100 : decode cX10_push 100 = .ok (.iastore, 1) := by decide +kernel
theorem dX10_push_101 : decode cX10_push 101 = .ok (.aload_n 0, 1) := by decide +kernel
theorem dX10_push_102 : decode cX10_push 102 = .ok (.dup, 1) := by decide +kernel
theorem dX10_push_103 : decode cX10_push 103 = .ok (.getfield 116, 3) := by decide +kernel
theorem dX10_push_106 : decode cX10_push 106 = .ok (.iconst 1, 1) := by decide +kernel
theorem dX10_push_107 : decode cX10_push 107 = .ok (.iadd, 1) := by decide +kernel
theorem dX10_push_108 : decode cX10_push 108 = .ok (.putfield 116, 3) := by decide +kernel
theorem dX10_push_111 : decode cX10_push 111 = .ok (.return_, 1) := by decide +kernel
theorem dX10_pop_0 : decode cX10_pop 0 = .ok (.aload_n 0, 1) := by decide +kernel
theorem dX10_pop_1 : decode cX10_pop 1 = .ok (.dup, 1) := by decide +kernel
theorem dX10_pop_2 : decode cX10_pop 2 = .ok (.getfield 116, 3) := by decide +kernel
theorem dX10_pop_5 : decode cX10_pop 5 = .ok (.iconst 1, 1) := by decide +kernel
theorem dX10_pop_6 : decode cX10_pop 6 = .ok (.isub, 1) := by decide +kernel
theorem dX10_pop_7 : decode cX10_pop 7 = .ok (.putfield 116, 3) := by decide +kernel
theorem dX10_pop_10 : decode cX10_pop 10 = .ok (.bipush 69, 2) := by decide +kernel
theorem dX10_pop_12 : decode cX10_pop 12 = .ok (.aload_n 0, 1) := by decide +kernel
theorem dX10_pop_13 : decode cX10_pop 13 = .ok (.getfield 116, 3) := by decide +kernel
theorem dX10_pop_16 : decode cX10_pop 16 = .ok (.imul, 1) := by decide +kernel
theorem dX10_pop_17 : decode cX10_pop 17 = .ok (.istore_n 1, 1) := by decide +kernel
theorem dX10_pop_18 : decode cX10_pop 18 = .ok (.iconst 0, 1) := by decide +kernel
theorem dX10_pop_19 : decode cX10_pop 19 = .ok (.istore_n 2, 1) := by decide +kernel
theorem dX10_pop_20 : decode cX10_pop 20 = .ok (.iload_n 2, 1) := by decide +kernel
theorem dX10_pop_21 : decode cX10_pop 21 = .ok (.bipush 64, 2) := by decide +kernel
theorem dX10_pop_23 : decode cX10_pop 23 = .ok (.if_icmp .ge 23, 3) := by decide +kernel
theorem dX10_pop_26 : decode cX10_pop 26 = .ok (.aload_n 0, 1) := by decide +kernel
theorem dX10_pop_27 : decode cX10_pop 27 = .ok (.getfield 7, 3) := by decide +kernel
theorem dX10_pop_30 : decode cX10_pop 30 = .ok (.iload_n 2, 1) := by decide +kernel
theorem dX10_pop_31 : decode cX10_pop 31 = .ok (.aload_n 0, 1) := by decide +kernel
theorem dX10_pop_32 : decode cX10_pop 32 = .ok (.getfield 18, 3) := by decide +kernel
theorem dX10_pop_35 : decode cX10_pop 35 = .ok (.iload_n 1, 1) := by decide +kernel
theorem dX10_pop_36 : decode cX10_pop 36 = .ok (.iload_n 2, 1) := by decide +kernel
theorem dX10_pop_37 : decode cX10_pop 37 = .ok (.iadd, 1) := by decide +kernel
theorem dX10_pop_38 : decode cX10_pop 38 = .ok (.iaload, 1) := by decide +kernel
theorem dX10_pop_39 : decode cX10_pop 39 = .ok (.iastore, 1) := by decide +kernel
theorem dX10_pop_40 : decode cX10_pop 40 = .ok (.iinc 2 1, 3) := by decide +kernel
theorem dX10_pop_43 : decode cX10_pop 43 = .ok (.goto (-23), 3) := by decide +kernel
theorem dX10_pop_46 : decode cX10_pop 46 = .ok (.aload_n 0, 1) := by decide +kernel
theorem dX10_pop_47 : decode cX10_pop 47 = .ok (.aload_n 0, 1) := by decide +kernel
theorem dX10_pop_48 : decode cX10_pop 48 = .ok (.getfield 18, 3) := by decide +kernel
theorem dX10_pop_51 : decode cX10_pop 51 = .ok (.iload_n 1, 1) := by decide +kernel
theorem dX10_pop_52 : decode cX10_pop 52 = .ok (.bipush 64, 2) := by decide +kernel
theorem dX10_pop_54 : decode cX10_pop 54 = .ok (.iadd, 1) := by decide +kernel
theorem dX10_pop_55 : decode cX10_pop 55 = .ok (.iaload, 1) := by decide +kernel
theorem dX10_pop_56 : decode cX10_pop 56 = .ok (.putfield 119, 3) := by decide +kernel
theorem dX10_pop_59 : decode cX10_pop 59 = .ok (.aload_n 0, 1) := by decide +kernel
theorem dX10_pop_60 : decode cX10_pop 60 = .ok (.aload_n 0, 1) := by decide +kernel
theorem dX10_pop_61 : decode cX10_pop 61 = .ok (.getfield 18, 3) := by decide +kernel
theorem dX10_pop_64 : decode cX10_pop 64 = .ok (.iload_n 1, 1) := by decide +kernel
theorem dX10_pop_65 : decode cX10_pop 65 = .ok (.bipush 65, 2) := by decide +kernel
theorem dX10_pop_67 : decode cX10_pop 67 = .ok (.iadd, 1) := by decide +kernel
theorem dX10_pop_68 : decode cX10_pop 68 = .ok (.iaload, 1) := by decide +kernel
theorem dX10_pop_69 : decode cX10_pop 69 = .ok (.putfield 60, 3) := by decide +kernel
theorem dX10_pop_72 : decode cX10_pop 72 = .ok (.aload_n 0, 1) := by decide +kernel
theorem dX10_pop_73 : decode cX10_pop 73 = .ok (.aload_n 0, 1) := by decide +kernel
theorem dX10_pop_74 : decode cX10_pop 74 = .ok (.getfield 18, 3) := by decide +kernel
theorem dX10_pop_77 : decode cX10_pop 77 = .ok (.iload_n 1, 1) := by decide +kernel
theorem dX10_pop_78 : decode cX10_pop 78 = .ok (.bipush 66, 2) := by decide +kernel
theorem dX10_pop_80 : decode cX10_pop 80 = .ok (.iadd, 1) := by decide +kernel
theorem dX10_pop_81 : decode cX10_pop 81 = .ok (.iaload, 1) := by decide +kernel
theorem dX10_pop_82 : decode cX10_pop 82 = .ok (.putfield 13, 3) := by decide +kernel
theorem dX10_pop_85 : decode cX10_pop 85 = .ok (.aload_n 0, 1) := by decide +kernel
theorem dX10_pop_86 : decode cX10_pop 86 = .ok (.aload_n 0, 1) := by decide +kernel
theorem dX10_pop_87 : decode cX10_pop 87 = .ok (.getfield 18, 3) := by decide +kernel
theorem dX10_pop_90 : decode cX10_pop 90 = .ok (.iload_n 1, 1) := by decide +kernel
theorem dX10_pop_91 : decode cX10_pop 91 = .ok (.bipush 67, 2) := by decide +kernel
theorem dX10_pop_93 : decode cX10_pop 93 = .ok (.iadd, 1) := by decide +kernel
theorem dX10_pop_94 : decode cX10_pop 94 = .ok (.iaload, 1) := by decide +kernel
theorem dX10_pop_95 : decode cX10_pop 95 = .ok (.putfield 122, 3) := by decide +kernel
theorem dX10_pop_98 : decode cX10_pop 98 = .ok (.aload_n 0, 1) := by decide +kernel
theorem dX10_pop_99 : decode cX10_pop 99 = .ok (.aload_n 0, 1) := by decide +kernel
theorem dX10_pop_100 : decode cX10_pop 100 = .ok (.getfield 18, 3) := by decide +kernel
theorem dX10_pop_103 : decode cX10_pop 103 = .ok (.iload_n 1, 1) := by decide +kernel
theorem dX10_pop_104 : decode cX10_pop 104 = .ok (.bipush 68, 2) := by decide +kernel
theorem dX10_pop_106 : decode cX10_pop 106 = .ok (.iadd, 1) := by decide +kernel
theorem dX10_pop_107 : decode cX10_pop 107 = .ok (.iaload, 1) := by decide +kernel
theorem dX10_pop_108 : decode cX10_pop 108 = .ok (.putfield 63, 3) := by decide +kernel
theorem dX10_pop_111 : decode cX10_pop 111 = .ok (.return_, 1) := by decide +kernel
theorem dX10_rightsAt_0 : decode cX10_rightsAt 0 = .ok (.iload_n 0, 1) := by decide +kernel
theorem dX10_rightsAt_1 : decode cX10_rightsAt 1 = .ok (.lookupswitch 73 #[(0, 59), (4, 61), (7, 63), (56, 65), (60, 68), (63, 71)], 59) := by decide +kernel
theorem dX10_rightsAt_60 : decode cX10_rightsAt 60 = .ok (.iconst 2, 1) := by decide +kernel
theorem dX10_rightsAt_61 : decode cX10_rightsAt 61 = .ok (.ireturn, 1) := by decide +kernel
theorem dX10_rightsAt_62 : decode cX10_rightsAt 62 = .ok (.iconst 3, 1) := by decide +kernel
theorem dX10_rightsAt_63 : decode cX10_rightsAt 63 = .ok (.ireturn, 1) := by decide +kernel
theorem dX10_rightsAt_64 : decode cX10_rightsAt 64 = .ok (.iconst 1, 1) := by decide +kernel
theorem dX10_rightsAt_65 : decode cX10_rightsAt 65 = .ok (.ireturn, 1) := by decide +kernel
theorem dX10_rightsAt_66 : decode cX10_rightsAt 66 = .ok (.bipush 8, 2) := by decide +kernel
theorem dX10_rightsAt_68 : decode cX10_rightsAt 68 = .ok (.ireturn, 1) := by decide +kernel
theorem dX10_rightsAt_69 : decode cX10_rightsAt 69 = .ok (.bipush 12, 2) := by decide +kernel
theorem dX10_rightsAt_71 : decode cX10_rightsAt 71 = .ok (.ireturn, 1) := by decide +kernel
theorem dX10_rightsAt_72 : decode cX10_rightsAt 72 = .ok (.iconst 4, 1) := by decide +kernel
theorem dX10_rightsAt_73 : decode cX10_rightsAt 73 = .ok (.ireturn, 1) := by decide +kernel
theorem dX10_rightsAt_74 : decode cX10_rightsAt 74 = .ok (.iconst 0, 1) := by decide +kernel
theorem dX10_rightsAt_75 : decode cX10_rightsAt 75 = .ok (.ireturn, 1) := by decide +kernel
theorem dX10_isTakenAt_0 : decode cX10_isTakenAt 0 = .ok (.iconst 0, 1) := by decide +kernel
theorem dX10_isTakenAt_1 : decode cX10_isTakenAt 1 = .ok (.istore_n 2, 1) := by decide +kernel
theorem dX10_isTakenAt_2 : decode cX10_isTakenAt 2 = .ok (.iload_n 1, 1) := by decide +kernel
theorem dX10_isTakenAt_3 : decode cX10_isTakenAt 3 = .ok (.aload_n 0, 1) := by decide +kernel
theorem dX10_isTakenAt_4 : decode cX10_isTakenAt 4 = .ok (.getfield 119, 3) := by decide +kernel
theorem dX10_isTakenAt_7 : decode cX10_isTakenAt 7 = .ok (.invokestatic 98, 3) := by decide +kernel
theorem dX10_isTakenAt_10 : decode cX10_isTakenAt 10 = .ok (.isub, 1) := by decide +kernel
theorem dX10_isTakenAt_11 : decode cX10_isTakenAt 11 = .ok (.istore_n 3, 1) := by decide +kernel
theorem dX10_isTakenAt_12 : decode cX10_isTakenAt 12 = .ok (.iconst (-1), 1) := by decide +kernel
theorem dX10_isTakenAt_13 : decode cX10_isTakenAt 13 = .ok (.istore 4, 2) := by decide +kernel
theorem dX10_isTakenAt_15 : decode cX10_isTakenAt 15 = .ok (.iload 4, 2) := by decide +kernel
theorem dX10_isTakenAt_17 : decode cX10_isTakenAt 17 = .ok (.iconst 2, 1) := by decide +kernel
theorem dX10_isTakenAt_18 : decode cX10_isTakenAt 18 = .ok (.if_icmp .ge 79, 3) := by decide +kernel
theorem dX10_isTakenAt_21 : decode cX10_isTakenAt 21 = .ok (.iload_n 1, 1) := by decide +kernel
theorem dX10_isTakenAt_22 : decode cX10_isTakenAt 22 = .ok (.invokestatic 73, 3) := by decide +kernel
theorem dX10_isTakenAt_25 : decode cX10_isTakenAt 25 = .ok (.iload 4, 2) := by decide +kernel
theorem dX10_isTakenAt_27 : decode cX10_isTakenAt 27 = .ok (.iadd, 1) := by decide +kernel
theorem dX10_isTakenAt_28 : decode cX10_isTakenAt 28 = .ok (.istore 5, 2) := by decide +kernel
theorem dX10_isTakenAt_30 : decode cX10_isTakenAt 30 = .ok (.iload_n 3, 1) := by decide +kernel
theorem dX10_isTakenAt_31 : decode cX10_isTakenAt 31 = .ok (.iload 4, 2) := by decide +kernel
theorem dX10_isTakenAt_33 : decode cX10_isTakenAt 33 = .ok (.iadd, 1) := by decide +kernel
theorem dX10_isTakenAt_34 : decode cX10_isTakenAt 34 = .ok (.istore 6, 2) := by decide +kernel
theorem dX10_isTakenAt_36 : decode cX10_isTakenAt 36 = .ok (.iload_n 2, 1) := by decide +kernel
theorem dX10_isTakenAt_37 : decode cX10_isTakenAt 37 = .ok (.ifCond .ne 48, 3) := by decide +kernel
theorem dX10_isTakenAt_40 : decode cX10_isTakenAt 40 = .ok (.iload 5, 2) := by decide +kernel
theorem dX10_isTakenAt_42 : decode cX10_isTakenAt 42 = .ok (.ifCond .lt 47, 3) := by decide +kernel
theorem dX10_isTakenAt_45 : decode cX10_isTakenAt 45 = .ok (.iload 5, 2) := by decide +kernel
theorem dX10_isTakenAt_47 : decode cX10_isTakenAt 47 = .ok (.bipush 8, 2) := by decide +kernel
theorem dX10_isTakenAt_49 : decode cX10_isTakenAt 49 = .ok (.if_icmp .ge 40, 3) := by decide +kernel
theorem dX10_isTakenAt_52 : decode cX10_isTakenAt 52 = .ok (.aload_n 0, 1) := by decide +kernel
theorem dX10_isTakenAt_53 : decode cX10_isTakenAt 53 = .ok (.getfield 7, 3) := by decide +kernel
theorem dX10_isTakenAt_56 : decode cX10_isTakenAt 56 = .ok (.iload 6, 2) := by decide +kernel
theorem dX10_isTakenAt_58 : decode cX10_isTakenAt 58 = .ok (.iaload, 1) := by decide +kernel
theorem dX10_isTakenAt_59 : decode cX10_isTakenAt 59 = .ok (.aload_n 0, 1) := by decide +kernel
theorem dX10_isTakenAt_60 : decode cX10_isTakenAt 60 = .ok (.getfield 119, 3) := by decide +kernel
theorem dX10_isTakenAt_63 : decode cX10_isTakenAt 63 = .ok (.ifCond .ne 7, 3) := by decide +kernel
theorem dX10_isTakenAt_66 : decode cX10_isTakenAt 66 = .ok (.iconst 1, 1) := by decide +kernel
theorem dX10_isTakenAt_67 : decode cX10_isTakenAt 67 = .ok (.goto 4, 3) := by decide +kernel
theorem dX10_isTakenAt_70 : decode cX10_isTakenAt 70 = .ok (.iconst (-1), 1) := by decide +kernel
theorem dX10_isTakenAt_71 : decode cX10_isTakenAt 71 = .ok (.if_icmp .ne 18, 3) := by decide +kernel
theorem dX10_isTakenAt_74 : decode cX10_isTakenAt 74 = .ok (.aload_n 0, 1) := by decide +kernel
theorem dX10_isTakenAt_75 : decode cX10_isTakenAt 75 = .ok (.iload 6, 2) := by decide +kernel
theorem dX10_isTakenAt_77 : decode cX10_isTakenAt 77 = .ok (.iload_n 1, 1) := by decide +kernel
theorem dX10_isTakenAt_78 : decode cX10_isTakenAt 78 = .ok (.iconst 0, 1) := by decide +kernel
theorem dX10_isTakenAt_79 : decode cX10_isTakenAt 79 = .ok (.invokevirtual 125, 3) := by decide +kernel
theorem dX10_isTakenAt_82 : decode cX10_isTakenAt 82 = .ok (.ifCond .eq 7, 3) := by decide +kernel
theorem dX10_isTakenAt_85 : decode cX10_isTakenAt 85 = .ok (.iconst 1, 1) := by decide +kernel
theorem dX10_isTakenAt_86 : decode cX10_isTakenAt 86 = .ok (.goto 4, 3) := by decide +kernel
theorem dX10_isTakenAt_89 : decode cX10_isTakenAt 89 = .ok (.iconst 0, 1) := by decide +kernel
theorem dX10_isTakenAt_90 : decode cX10_isTakenAt 90 = .ok (.istore_n 2, 1) := by decide +kernel
theorem dX10_isTakenAt_91 : decode cX10_isTakenAt 91 = .ok (.iinc 4 2, 3) := by decide +kernel
theorem dX10_isTakenAt_94 : decode cX10_isTakenAt 94 = .ok (.goto (-79), 3) := by decide +kernel
theorem dX10_isTakenAt_97 : decode cX10_isTakenAt 97 = .ok (.iload_n 2, 1) := by decide +kernel
theorem dX10_isTakenAt_98 : decode cX10_isTakenAt 98 = .ok (.ireturn, 1) := by decide +kernel
theorem dX10_make_0 : decode cX10_make 0 = .ok (.aload_n 0, 1) := by decide +kernel
theorem dX10_make_1 : decode cX10_make 1 = .ok (.invokevirtual 129, 3) := by decide +kernel
theorem dX10_make_4 : decode cX10_make 4 = .ok (.aload_n 0, 1) := by decide +kernel
theorem dX10_make_5 : decode cX10_make 5 = .ok (.getfield 7, 3) := by decide +kernel
theorem dX10_make_8 : decode cX10_make 8 = .ok (.iload_n 1, 1) := by decide +kernel
theorem dX10_make_9 : decode cX10_make 9 = .ok (.iaload, 1) := by decide +kernel
theorem dX10_make_10 : decode cX10_make 10 = .ok (.istore 4, 2) := by decide +kernel
theorem dX10_make_12 : decode cX10_make 12 = .ok (.aload_n 0, 1) := by decide +kernel
theorem dX10_make_13 : decode cX10_make 13 = .ok (.iload_n 1, 1) := by decide +kernel
theorem dX10_make_14 : decode cX10_make 14 = .ok (.iload_n 2, 1) := by decide +kernel
theorem dX10_make_15 : decode cX10_make 15 = .ok (.iload_n 3, 1) := by decide +kernel
theorem dX10_make_16 : decode cX10_make 16 = .ok (.invokevirtual 105, 3) := by decide +kernel
theorem dX10_make_19 : decode cX10_make 19 = .ok (.istore 5, 2) := by decide +kernel
theorem dX10_make_21 : decode cX10_make 21 = .ok (.iload 4, 2) := by decide +kernel
theorem dX10_make_23 : decode cX10_make 23 = .ok (.invokestatic 79, 3) := by decide +kernel
theorem dX10_make_26 : decode cX10_make 26 = .ok (.iconst 1, 1) := by decide +kernel
theorem dX10_make_27 : decode cX10_make 27 = .ok (.if_icmp .ne 7, 3) := by decide +kernel
theorem dX10_make_30 : decode cX10_make 30 = .ok (.iconst 1, 1) := by decide +kernel
theorem dX10_make_31 : decode cX10_make 31 = .ok (.goto 4, 3) := by decide +kernel
theorem dX10_make_34 : decode cX10_make 34 = .ok (.iconst 0, 1) := by decide +kernel
theorem dX10_make_35 : decode cX10_make 35 = .ok (.istore 6, 2) := by decide +kernel
theorem dX10_make_37 : decode cX10_make 37 = .ok (.aload_n 0, 1) := by decide +kernel
theorem dX10_make_38 : decode cX10_make 38 = .ok (.iload 6, 2) := by decide +kernel
theorem dX10_make_40 : decode cX10_make 40 = .ok (.ifCond .ne 8, 3) := by decide +kernel
theorem dX10_make_43 : decode cX10_make 43 = .ok (.iload 5, 2) := by decide +kernel
theorem dX10_make_45 : decode cX10_make 45 = .ok (.ifCond .eq 7, 3) := by decide +kernel
theorem dX10_make_48 : decode cX10_make 48 = .ok (.iconst 0, 1) := by decide +kernel
theorem dX10_make_49 : decode cX10_make 49 = .ok (.goto 9, 3) := by decide +kernel
theorem dX10_make_52 : decode cX10_make 52 = .ok (.aload_n 0, 1) := by decide +kernel
theorem dX10_make_53 : decode cX10_make 53 = .ok (.getfield 122, 3) := by decide +kernel
theorem dX10_make_56 : decode cX10_make 56 = .ok (.iconst 1, 1) := by decide +kernel
theorem dX10_make_57 : decode cX10_make 57 = .ok (.iadd, 1) := by decide +kernel
theorem dX10_make_58 : decode cX10_make 58 = .ok (.putfield 122, 3) := by decide +kernel
theorem dX10_make_61 : decode cX10_make 61 = .ok (.aload_n 0, 1) := by decide +kernel
theorem dX10_make_62 : decode cX10_make 62 = .ok (.aload_n 0, 1) := by decide +kernel
theorem dX10_make_63 : decode cX10_make 63 = .ok (.getfield 60, 3) := by decide +kernel
theorem dX10_make_66 : decode cX10_make 66 = .ok (.iload_n 1, 1) := by decide +kernel
theorem dX10_make_67 : decode cX10_make 67 = .ok (.invokestatic 132, 3) := by decide +kernel
theorem dX10_make_70 : decode cX10_make 70 = .ok (.iconst (-1), 1) := by decide +kernel
theorem dX10_make_71 : decode cX10_make 71 = .ok (.ixor, 1) := by decide +kernel
theorem dX10_make_72 : decode cX10_make 72 = .ok (.iand, 1) := by decide +kernel
theorem dX10_make_73 : decode cX10_make 73 = .ok (.iload_n 2, 1) := by decide +kernel
theorem dX10_make_74 : decode cX10_make 74 = .ok (.invokestatic 132, 3) := by decide +kernel
theorem dX10_make_77 : decode cX10_make 77 = .ok (.iconst (-1), 1) := by decide +kernel
theorem dX10_make_78 : decode cX10_make 78 = .ok (.ixor, 1) := by decide +kernel
theorem dX10_make_79 : decode cX10_make 79 = .ok (.iand, 1) := by decide +kernel
theorem dX10_make_80 : decode cX10_make 80 = .ok (.putfield 60, 3) := by decide +kernel
theorem dX10_make_83 : decode cX10_make 83 = .ok (.aload_n 0, 1) := by decide +kernel
theorem dX10_make_84 : decode cX10_make 84 = .ok (.aload_n 0, 1) := by decide +kernel
theorem dX10_make_85 : decode cX10_make 85 = .ok (.getfield 119, 3) := by decide +kernel
theorem dX10_make_88 : decode cX10_make 88 = .ok (.ifCond .ne 10, 3) := by decide +kernel
theorem dX10_make_91 : decode cX10_make 91 = .ok (.aload_n 0, 1) := by decide +kernel
theorem dX10_make_92 : decode cX10_make 92 = .ok (.getfield 63, 3) := by decide +kernel
theorem dX10_make_95 : decode cX10_make 95 = .ok (.goto 9, 3) := by decide +kernel
theorem dX10_make_98 : decode cX10_make 98 = .ok (.aload_n 0, 1) := by decide +kernel
theorem dX10_make_99 : decode cX10_make 99 = .ok (.getfield 63, 3) := by decide +kernel
theorem dX10_make_102 : decode cX10_make 102 = .ok (.iconst 1, 1) := by decide +kernel
theorem dX10_make_103 : decode cX10_make 103 = .ok (.iadd, 1) := by decide +kernel
theorem dX10_make_104 : decode cX10_make 104 = .ok (.putfield 63, 3) := by decide +kernel
theorem dX10_make_107 : decode cX10_make 107 = .ok (.aload_n 0, 1) := by decide +kernel
theorem dX10_make_108 : decode cX10_make 108 = .ok (.iconst 1, 1) := by decide +kernel
theorem dX10_make_109 : decode cX10_make 109 = .ok (.aload_n 0, 1) := by decide +kernel
theorem dX10_make_110 : decode cX10_make 110 = .ok (.getfield 119, 3) := by decide +kernel
theorem dX10_make_113 : decode cX10_make 113 = .ok (.isub, 1) := by decide +kernel
theorem dX10_make_114 : decode cX10_make 114 = .ok (.putfield 119, 3) := by decide +kernel
theorem dX10_make_117 : decode cX10_make 117 = .ok (.aload_n 0, 1) := by decide +kernel
theorem dX10_make_118 : decode cX10_make 118 = .ok (.iconst (-1), 1) := by decide +kernel
theorem dX10_make_119 : decode cX10_make 119 = .ok (.putfield 13, 3) := by decide +kernel
theorem dX10_make_122 : decode cX10_make 122 = .ok (.iload 6, 2) := by decide +kernel
theorem dX10_make_124 : decode cX10_make 124 = .ok (.ifCond .eq 35, 3) := by decide +kernel
theorem dX10_make_127 : decode cX10_make 127 = .ok (.iload_n 2, 1) := by decide +kernel
theorem dX10_make_128 : decode cX10_make 128 = .ok (.iload_n 1, 1) := by decide +kernel
theorem dX10_make_129 : decode cX10_make 129 = .ok (.isub, 1) := by decide +kernel
theorem dX10_make_130 : decode cX10_make 130 = .ok (.invokestatic 76, 3) := by decide +kernel
theorem dX10_make_133 : decode cX10_make 133 = .ok (.bipush 16, 2) := by decide +kernel
theorem dX10_make_135 : decode cX10_make 135 = .ok (.if_icmp .ne 24, 3) := by decide +kernel
theorem dX10_make_138 : decode cX10_make 138 = .ok (.aload_n 0, 1) := by decide +kernel
theorem dX10_make_139 : decode cX10_make 139 = .ok (.iload_n 1, 1) := by decide +kernel
theorem dX10_make_140 : decode cX10_make 140 = .ok (.iload_n 2, 1) := by decide +kernel
theorem dX10_make_141 : decode cX10_make 141 = .ok (.iadd, 1) := by decide +kernel
theorem dX10_make_142 : decode cX10_make 142 = .ok (.iconst 2, 1) := by decide +kernel
theorem dX10_make_143 : decode cX10_make 143 = .ok (.idiv, 1) := by decide +kernel
theorem dX10_make_144 : decode cX10_make 144 = .ok (.invokevirtual 135, 3) := by decide +kernel
theorem dX10_make_147 : decode cX10_make 147 = .ok (.ifCond .eq 12, 3) := by decide +kernel
theorem dX10_make_150 : decode cX10_make 150 = .ok (.aload_n 0, 1) := by decide +kernel
theorem dX10_make_151 : decode cX10_make 151 = .ok (.iload_n 1, 1) := by decide +kernel
theorem dX10_make_152 : decode cX10_make 152 = .ok (.iload_n 2, 1) := by decide +kernel
theorem dX10_make_153 : decode cX10_make 153 = .ok (.iadd, 1) := by decide +kernel
theorem dX10_make_154 : decode cX10_make 154 = .ok (.iconst 2, 1) := by decide +kernel
theorem dX10_make_155 : decode cX10_make 155 = .ok (.idiv, 1) := by decide +kernel
theorem dX10_make_156 : decode cX10_make 156 = .ok (.putfield 13, 3) := by decide +kernel
theorem dX10_make_159 : decode cX10_make 159 = .ok (.iload 5, 2) := by decide +kernel
theorem dX10_make_161 : decode cX10_make 161 = .ok (.ireturn, 1) := by decide +kernel
theorem dX10_tell_0 : decode cX10_tell 0 = .ok (.aload_n 0, 1) := by decide +kernel
theorem dX10_tell_1 : decode cX10_tell 1 = .ok (.iload_n 2, 1) := by decide +kernel
theorem dX10_tell_2 : decode cX10_tell 2 = .ok (.iload_n 3, 1) := by decide +kernel
theorem dX10_tell_3 : decode cX10_tell 3 = .ok (.iload 4, 2) := by decide +kernel
theorem dX10_tell_5 : decode cX10_tell 5 = .ok (.invokevirtual 125, 3) := by decide +kernel
theorem dX10_tell_8 : decode cX10_tell 8 = .ok (.ifCond .eq 52, 3) := by decide +kernel
theorem dX10_tell_11 : decode cX10_tell 11 = .ok (.sipush 512, 3) := by decide +kernel
theorem dX10_tell_14 : decode cX10_tell 14 = .ok (.iload_n 1, 1) := by decide +kernel
theorem dX10_tell_15 : decode cX10_tell 15 = .ok (.imul, 1) := by decide +kernel
theorem dX10_tell_16 : decode cX10_tell 16 = .ok (.aload_n 0, 1) := by decide +kernel
theorem dX10_tell_17 : decode cX10_tell 17 = .ok (.getfield 39, 3) := by decide +kernel
theorem dX10_tell_20 : decode cX10_tell 20 = .ok (.iload_n 1, 1) := by decide +kernel
theorem dX10_tell_21 : decode cX10_tell 21 = .ok (.iaload, 1) := by decide +kernel
theorem dX10_tell_22 : decode cX10_tell 22 = .ok (.iadd, 1) := by decide +kernel
theorem dX10_tell_23 : decode cX10_tell 23 = .ok (.istore 5, 2) := by decide +kernel
theorem dX10_tell_25 : decode cX10_tell 25 = .ok (.aload_n 0, 1) := by decide +kernel
theorem dX10_tell_26 : decode cX10_tell 26 = .ok (.getfield 30, 3) := by decide +kernel
theorem dX10_tell_29 : decode cX10_tell 29 = .ok (.iload 5, 2) := by decide +kernel
theorem dX10_tell_31 : decode cX10_tell 31 = .ok (.iload_n 2, 1) := by decide +kernel
theorem dX10_tell_32 : decode cX10_tell 32 = .ok (.iastore, 1) := by decide +kernel
theorem dX10_tell_33 : decode cX10_tell 33 = .ok (.aload_n 0, 1) := by decide +kernel
theorem dX10_tell_34 : decode cX10_tell 34 = .ok (.getfield 33, 3) := by decide +kernel
theorem dX10_tell_37 : decode cX10_tell 37 = .ok (.iload 5, 2) := by decide +kernel
theorem dX10_tell_39 : decode cX10_tell 39 = .ok (.iload_n 3, 1) := by decide +kernel
theorem dX10_tell_40 : decode cX10_tell 40 = .ok (.iastore, 1) := by decide +kernel
theorem dX10_tell_41 : decode cX10_tell 41 = .ok (.aload_n 0, 1) := by decide +kernel
theorem dX10_tell_42 : decode cX10_tell 42 = .ok (.getfield 36, 3) := by decide +kernel
theorem dX10_tell_45 : decode cX10_tell 45 = .ok (.iload 5, 2) := by decide +kernel
theorem dX10_tell_47 : decode cX10_tell 47 = .ok (.iload 4, 2) := by decide +kernel
theorem dX10_tell_49 : decode cX10_tell 49 = .ok (.iastore, 1) := by decide +kernel
theorem dX10_tell_50 : decode cX10_tell 50 = .ok (.aload_n 0, 1) := by decide +kernel
theorem dX10_tell_51 : decode cX10_tell 51 = .ok (.getfield 39, 3) := by decide +kernel
theorem dX10_tell_54 : decode cX10_tell 54 = .ok (.iload_n 1, 1) := by decide +kernel
theorem dX10_tell_55 : decode cX10_tell 55 = .ok (.dup2, 1) := by decide +kernel
theorem dX10_tell_56 : decode cX10_tell 56 = .ok (.iaload, 1) := by decide +kernel
theorem dX10_tell_57 : decode cX10_tell 57 = .ok (.iconst 1, 1) := by decide +kernel
theorem dX10_tell_58 : decode cX10_tell 58 = .ok (.iadd, 1) := by decide +kernel
theorem dX10_tell_59 : decode cX10_tell 59 = .ok (.iastore, 1) := by decide +kernel
theorem dX10_tell_60 : decode cX10_tell 60 = .ok (.return_, 1) := by decide +kernel
theorem dX10_pawnGoes_0 : decode cX10_pawnGoes 0 = .ok (.iload_n 2, 1) := by decide +kernel
theorem dX10_pawnGoes_1 : decode cX10_pawnGoes 1 = .ok (.iload_n 1, 1) := by decide +kernel
theorem dX10_pawnGoes_2 : decode cX10_pawnGoes 2 = .ok (.isub, 1) := by decide +kernel
theorem dX10_pawnGoes_3 : decode cX10_pawnGoes 3 = .ok (.aload_n 0, 1) := by decide +kernel
theorem dX10_pawnGoes_4 : decode cX10_pawnGoes 4 = .ok (.getfield 119, 3) := by decide +kernel
theorem dX10_pawnGoes_7 : decode cX10_pawnGoes 7 = .ok (.invokestatic 98, 3) := by decide +kernel
theorem dX10_pawnGoes_10 : decode cX10_pawnGoes 10 = .ok (.idiv, 1) := by decide +kernel
theorem dX10_pawnGoes_11 : decode cX10_pawnGoes 11 = .ok (.istore_n 3, 1) := by decide +kernel
theorem dX10_pawnGoes_12 : decode cX10_pawnGoes 12 = .ok (.iload_n 1, 1) := by decide +kernel
theorem dX10_pawnGoes_13 : decode cX10_pawnGoes 13 = .ok (.invokestatic 73, 3) := by decide +kernel
theorem dX10_pawnGoes_16 : decode cX10_pawnGoes 16 = .ok (.iload_n 2, 1) := by decide +kernel
theorem dX10_pawnGoes_17 : decode cX10_pawnGoes 17 = .ok (.invokestatic 73, 3) := by decide +kernel
theorem dX10_pawnGoes_20 : decode cX10_pawnGoes 20 = .ok (.if_icmp .ne 25, 3) := by decide +kernel
theorem dX10_pawnGoes_23 : decode cX10_pawnGoes 23 = .ok (.iload_n 2, 1) := by decide +kernel
theorem dX10_pawnGoes_24 : decode cX10_pawnGoes 24 = .ok (.iload_n 1, 1) := by decide +kernel
theorem dX10_pawnGoes_25 : decode cX10_pawnGoes 25 = .ok (.isub, 1) := by decide +kernel
theorem dX10_pawnGoes_26 : decode cX10_pawnGoes 26 = .ok (.bipush 8, 2) := by decide +kernel
theorem dX10_pawnGoes_28 : decode cX10_pawnGoes 28 = .ok (.irem, 1) := by decide +kernel
theorem dX10_pawnGoes_29 : decode cX10_pawnGoes 29 = .ok (.ifCond .ne 16, 3) := by decide +kernel
theorem dX10_pawnGoes_32 : decode cX10_pawnGoes 32 = .ok (.aload_n 0, 1) := by decide +kernel
theorem dX10_pawnGoes_33 : decode cX10_pawnGoes 33 = .ok (.getfield 7, 3) := by decide +kernel
theorem dX10_pawnGoes_36 : decode cX10_pawnGoes 36 = .ok (.iload_n 2, 1) := by decide +kernel
theorem dX10_pawnGoes_37 : decode cX10_pawnGoes 37 = .ok (.iaload, 1) := by decide +kernel
theorem dX10_pawnGoes_38 : decode cX10_pawnGoes 38 = .ok (.ifCond .ne 7, 3) := by decide +kernel
theorem dX10_pawnGoes_41 : decode cX10_pawnGoes 41 = .ok (.iconst 1, 1) := by decide +kernel
theorem dX10_pawnGoes_42 : decode cX10_pawnGoes 42 = .ok (.goto 4, 3) := by decide +kernel
theorem dX10_pawnGoes_45 : decode cX10_pawnGoes 45 = .ok (.iconst 0, 1) := by decide +kernel
theorem dX10_pawnGoes_46 : decode cX10_pawnGoes 46 = .ok (.istore 4, 2) := by decide +kernel
theorem dX10_pawnGoes_48 : decode cX10_pawnGoes 48 = .ok (.iload 4, 2) := by decide +kernel
theorem dX10_pawnGoes_50 : decode cX10_pawnGoes 50 = .ok (.ifCond .eq 10, 3) := by decide +kernel
theorem dX10_pawnGoes_53 : decode cX10_pawnGoes 53 = .ok (.iload_n 3, 1) := by decide +kernel
theorem dX10_pawnGoes_54 : decode cX10_pawnGoes 54 = .ok (.iconst 1, 1) := by decide +kernel
theorem dX10_pawnGoes_55 : decode cX10_pawnGoes 55 = .ok (.if_icmp .ne 5, 3) := by decide +kernel
theorem dX10_pawnGoes_58 : decode cX10_pawnGoes 58 = .ok (.iconst 1, 1) := by decide +kernel
theorem dX10_pawnGoes_59 : decode cX10_pawnGoes 59 = .ok (.ireturn, 1) := by decide +kernel
theorem dX10_pawnGoes_60 : decode cX10_pawnGoes 60 = .ok (.iload 4, 2) := by decide +kernel
theorem dX10_pawnGoes_62 : decode cX10_pawnGoes 62 = .ok (.ifCond .eq 43, 3) := by decide +kernel
theorem dX10_pawnGoes_65 : decode cX10_pawnGoes 65 = .ok (.iload_n 3, 1) := by decide +kernel
theorem dX10_pawnGoes_66 : decode cX10_pawnGoes 66 = .ok (.iconst 2, 1) := by decide +kernel
theorem dX10_pawnGoes_67 : decode cX10_pawnGoes 67 = .ok (.if_icmp .ne 38, 3) := by decide +kernel
theorem dX10_pawnGoes_70 : decode cX10_pawnGoes 70 = .ok (.iload_n 1, 1) := by decide +kernel
theorem dX10_pawnGoes_71 : decode cX10_pawnGoes 71 = .ok (.aload_n 0, 1) := by decide +kernel
theorem dX10_pawnGoes_72 : decode cX10_pawnGoes 72 = .ok (.getfield 119, 3) := by decide +kernel
theorem dX10_pawnGoes_75 : decode cX10_pawnGoes 75 = .ok (.invokestatic 138, 3) := by decide +kernel
theorem dX10_pawnGoes_78 : decode cX10_pawnGoes 78 = .ok (.iconst 1, 1) := by decide +kernel
theorem dX10_pawnGoes_79 : decode cX10_pawnGoes 79 = .ok (.if_icmp .ne 24, 3) := by decide +kernel
theorem dX10_pawnGoes_82 : decode cX10_pawnGoes 82 = .ok (.aload_n 0, 1) := by decide +kernel
theorem dX10_pawnGoes_83 : decode cX10_pawnGoes 83 = .ok (.getfield 7, 3) := by decide +kernel
theorem dX10_pawnGoes_86 : decode cX10_pawnGoes 86 = .ok (.iload_n 1, 1) := by decide +kernel
theorem dX10_pawnGoes_87 : decode cX10_pawnGoes 87 = .ok (.aload_n 0, 1) := by decide +kernel
theorem dX10_pawnGoes_88 : decode cX10_pawnGoes 88 = .ok (.getfield 119, 3) := by decide +kernel
theorem dX10_pawnGoes_91 : decode cX10_pawnGoes 91 = .ok (.invokestatic 98, 3) := by decide +kernel
theorem dX10_pawnGoes_94 : decode cX10_pawnGoes 94 = .ok (.iadd, 1) := by decide +kernel
theorem dX10_pawnGoes_95 : decode cX10_pawnGoes 95 = .ok (.iaload, 1) := by decide +kernel
theorem dX10_pawnGoes_96 : decode cX10_pawnGoes 96 = .ok (.ifCond .ne 7, 3) := by decide +kernel
theorem dX10_pawnGoes_99 : decode cX10_pawnGoes 99 = .ok (.iconst 1, 1) := by decide +kernel
theorem dX10_pawnGoes_100 : decode cX10_pawnGoes 100 = .ok (.goto 4, 3) := by decide +kernel
theorem dX10_pawnGoes_103 : decode cX10_pawnGoes 103 = .ok (.iconst 0, 1) := by decide +kernel
theorem dX10_pawnGoes_104 : decode cX10_pawnGoes 104 = .ok (.ireturn, 1) := by decide +kernel
theorem dX10_pawnGoes_105 : decode cX10_pawnGoes 105 = .ok (.aload_n 0, 1) := by decide +kernel
theorem dX10_pawnGoes_106 : decode cX10_pawnGoes 106 = .ok (.iload_n 1, 1) := by decide +kernel
theorem dX10_pawnGoes_107 : decode cX10_pawnGoes 107 = .ok (.iload_n 2, 1) := by decide +kernel
theorem dX10_pawnGoes_108 : decode cX10_pawnGoes 108 = .ok (.invokevirtual 89, 3) := by decide +kernel
theorem dX10_pawnGoes_111 : decode cX10_pawnGoes 111 = .ok (.ifCond .eq 24, 3) := by decide +kernel
theorem dX10_pawnGoes_114 : decode cX10_pawnGoes 114 = .ok (.aload_n 0, 1) := by decide +kernel
theorem dX10_pawnGoes_115 : decode cX10_pawnGoes 115 = .ok (.getfield 7, 3) := by decide +kernel
theorem dX10_pawnGoes_118 : decode cX10_pawnGoes 118 = .ok (.iload_n 2, 1) := by decide +kernel
theorem dX10_pawnGoes_119 : decode cX10_pawnGoes 119 = .ok (.iaload, 1) := by decide +kernel
theorem dX10_pawnGoes_120 : decode cX10_pawnGoes 120 = .ok (.ifCond .ne 11, 3) := by decide +kernel
theorem dX10_pawnGoes_123 : decode cX10_pawnGoes 123 = .ok (.iload_n 2, 1) := by decide +kernel
theorem dX10_pawnGoes_124 : decode cX10_pawnGoes 124 = .ok (.aload_n 0, 1) := by decide +kernel
theorem dX10_pawnGoes_125 : decode cX10_pawnGoes 125 = .ok (.getfield 13, 3) := by decide +kernel
theorem dX10_pawnGoes_128 : decode cX10_pawnGoes 128 = .ok (.if_icmp .ne 7, 3) := by decide +kernel
theorem dX10_pawnGoes_131 : decode cX10_pawnGoes 131 = .ok (.iconst 1, 1) := by decide +kernel
theorem dX10_pawnGoes_132 : decode cX10_pawnGoes 132 = .ok (.goto 4, 3) := by decide +kernel
theorem dX10_pawnGoes_135 : decode cX10_pawnGoes 135 = .ok (.iconst 0, 1) := by decide +kernel
theorem dX10_pawnGoes_136 : decode cX10_pawnGoes 136 = .ok (.ireturn, 1) := by decide +kernel
theorem dX10_kingLeaps_0 : decode cX10_kingLeaps 0 = .ok (.iload_n 2, 1) := by decide +kernel
theorem dX10_kingLeaps_1 : decode cX10_kingLeaps 1 = .ok (.iload_n 1, 1) := by decide +kernel
theorem dX10_kingLeaps_2 : decode cX10_kingLeaps 2 = .ok (.if_icmp .le 7, 3) := by decide +kernel
theorem dX10_kingLeaps_5 : decode cX10_kingLeaps 5 = .ok (.iconst 1, 1) := by decide +kernel
theorem dX10_kingLeaps_6 : decode cX10_kingLeaps 6 = .ok (.goto 4, 3) := by decide +kernel
theorem dX10_kingLeaps_9 : decode cX10_kingLeaps 9 = .ok (.iconst 0, 1) := by decide +kernel
theorem dX10_kingLeaps_10 : decode cX10_kingLeaps 10 = .ok (.istore_n 3, 1) := by decide +kernel
theorem dX10_kingLeaps_11 : decode cX10_kingLeaps 11 = .ok (.aload_n 0, 1) := by decide +kernel
theorem dX10_kingLeaps_12 : decode cX10_kingLeaps 12 = .ok (.getfield 119, 3) := by decide +kernel
theorem dX10_kingLeaps_15 : decode cX10_kingLeaps 15 = .ok (.ifCond .ne 7, 3) := by decide +kernel
theorem dX10_kingLeaps_18 : decode cX10_kingLeaps 18 = .ok (.iconst 1, 1) := by decide +kernel
theorem dX10_kingLeaps_19 : decode cX10_kingLeaps 19 = .ok (.goto 4, 3) := by decide +kernel
theorem dX10_kingLeaps_22 : decode cX10_kingLeaps 22 = .ok (.iconst 4, 1) := by decide +kernel
theorem dX10_kingLeaps_23 : decode cX10_kingLeaps 23 = .ok (.iload_n 3, 1) := by decide +kernel
theorem dX10_kingLeaps_24 : decode cX10_kingLeaps 24 = .ok (.ifCond .eq 7, 3) := by decide +kernel
theorem dX10_kingLeaps_27 : decode cX10_kingLeaps 27 = .ok (.iconst 1, 1) := by decide +kernel
theorem dX10_kingLeaps_28 : decode cX10_kingLeaps 28 = .ok (.goto 4, 3) := by decide +kernel
theorem dX10_kingLeaps_31 : decode cX10_kingLeaps 31 = .ok (.iconst 2, 1) := by decide +kernel
theorem dX10_kingLeaps_32 : decode cX10_kingLeaps 32 = .ok (.imul, 1) := by decide +kernel
theorem dX10_kingLeaps_33 : decode cX10_kingLeaps 33 = .ok (.istore 4, 2) := by decide +kernel
theorem dX10_kingLeaps_35 : decode cX10_kingLeaps 35 = .ok (.iload_n 1, 1) := by decide +kernel
theorem dX10_kingLeaps_36 : decode cX10_kingLeaps 36 = .ok (.invokestatic 69, 3) := by decide +kernel
theorem dX10_kingLeaps_39 : decode cX10_kingLeaps 39 = .ok (.iload_n 2, 1) := by decide +kernel
theorem dX10_kingLeaps_40 : decode cX10_kingLeaps 40 = .ok (.invokestatic 69, 3) := by decide +kernel
theorem dX10_kingLeaps_43 : decode cX10_kingLeaps 43 = .ok (.if_icmp .ne 23, 3) := by decide +kernel
theorem dX10_kingLeaps_46 : decode cX10_kingLeaps 46 = .ok (.iload_n 2, 1) := by decide +kernel
theorem dX10_kingLeaps_47 : decode cX10_kingLeaps 47 = .ok (.iload_n 1, 1) := by decide +kernel
theorem dX10_kingLeaps_48 : decode cX10_kingLeaps 48 = .ok (.isub, 1) := by decide +kernel
theorem dX10_kingLeaps_49 : decode cX10_kingLeaps 49 = .ok (.invokestatic 76, 3) := by decide +kernel
theorem dX10_kingLeaps_52 : decode cX10_kingLeaps 52 = .ok (.iconst 2, 1) := by decide +kernel
theorem dX10_kingLeaps_53 : decode cX10_kingLeaps 53 = .ok (.if_icmp .ne 13, 3) := by decide +kernel
theorem dX10_kingLeaps_56 : decode cX10_kingLeaps 56 = .ok (.aload_n 0, 1) := by decide +kernel
theorem dX10_kingLeaps_57 : decode cX10_kingLeaps 57 = .ok (.getfield 60, 3) := by decide +kernel
theorem dX10_kingLeaps_60 : decode cX10_kingLeaps 60 = .ok (.iload 4, 2) := by decide +kernel
theorem dX10_kingLeaps_62 : decode cX10_kingLeaps 62 = .ok (.iand, 1) := by decide +kernel
theorem dX10_kingLeaps_63 : decode cX10_kingLeaps 63 = .ok (.ifCond .ne 5, 3) := by decide +kernel
theorem dX10_kingLeaps_66 : decode cX10_kingLeaps 66 = .ok (.iconst 0, 1) := by decide +kernel
theorem dX10_kingLeaps_67 : decode cX10_kingLeaps 67 = .ok (.ireturn, 1) := by decide +kernel
theorem dX10_kingLeaps_68 : decode cX10_kingLeaps 68 = .ok (.iload_n 3, 1) := by decide +kernel
theorem dX10_kingLeaps_69 : decode cX10_kingLeaps 69 = .ok (.ifCond .eq 9, 3) := by decide +kernel
theorem dX10_kingLeaps_72 : decode cX10_kingLeaps 72 = .ok (.iload_n 1, 1) := by decide +kernel
theorem dX10_kingLeaps_73 : decode cX10_kingLeaps 73 = .ok (.iconst 3, 1) := by decide +kernel
theorem dX10_kingLeaps_74 : decode cX10_kingLeaps 74 = .ok (.iadd, 1) := by decide +kernel
theorem dX10_kingLeaps_75 : decode cX10_kingLeaps 75 = .ok (.goto 6, 3) := by decide +kernel
theorem dX10_kingLeaps_78 : decode cX10_kingLeaps 78 = .ok (.iload_n 1, 1) := by decide +kernel
theorem dX10_kingLeaps_79 : decode cX10_kingLeaps 79 = .ok (.iconst 4, 1) := by decide +kernel
theorem dX10_kingLeaps_80 : decode cX10_kingLeaps 80 = .ok (.isub, 1) := by decide +kernel
theorem dX10_kingLeaps_81 : decode cX10_kingLeaps 81 = .ok (.istore 5, 2) := by decide +kernel
theorem dX10_kingLeaps_83 : decode cX10_kingLeaps 83 = .ok (.aload_n 0, 1) := by decide +kernel
theorem dX10_kingLeaps_84 : decode cX10_kingLeaps 84 = .ok (.iload_n 1, 1) := by decide +kernel
theorem dX10_kingLeaps_85 : decode cX10_kingLeaps 85 = .ok (.iload 5, 2) := by decide +kernel
theorem dX10_kingLeaps_87 : decode cX10_kingLeaps 87 = .ok (.invokevirtual 82, 3) := by decide +kernel
theorem dX10_kingLeaps_90 : decode cX10_kingLeaps 90 = .ok (.ifCond .eq 53, 3) := by decide +kernel
theorem dX10_kingLeaps_93 : decode cX10_kingLeaps 93 = .ok (.aload_n 0, 1) := by decide +kernel
theorem dX10_kingLeaps_94 : decode cX10_kingLeaps 94 = .ok (.iload_n 1, 1) := by decide +kernel
theorem dX10_kingLeaps_95 : decode cX10_kingLeaps 95 = .ok (.iconst 1, 1) := by decide +kernel
theorem dX10_kingLeaps_96 : decode cX10_kingLeaps 96 = .ok (.aload_n 0, 1) := by decide +kernel
theorem dX10_kingLeaps_97 : decode cX10_kingLeaps 97 = .ok (.getfield 119, 3) := by decide +kernel
theorem dX10_kingLeaps_100 : decode cX10_kingLeaps 100 = .ok (.isub, 1) := by decide +kernel
theorem dX10_kingLeaps_101 : decode cX10_kingLeaps 101 = .ok (.invokevirtual 92, 3) := by decide +kernel
theorem dX10_kingLeaps_104 : decode cX10_kingLeaps 104 = .ok (.ifCond .ne 39, 3) := by decide +kernel
theorem dX10_kingLeaps_107 : decode cX10_kingLeaps 107 = .ok (.aload_n 0, 1) := by decide +kernel
theorem dX10_kingLeaps_108 : decode cX10_kingLeaps 108 = .ok (.iload_n 1, 1) := by decide +kernel
theorem dX10_kingLeaps_109 : decode cX10_kingLeaps 109 = .ok (.iload_n 2, 1) := by decide +kernel
theorem dX10_kingLeaps_110 : decode cX10_kingLeaps 110 = .ok (.iadd, 1) := by decide +kernel
theorem dX10_kingLeaps_111 : decode cX10_kingLeaps 111 = .ok (.iconst 2, 1) := by decide +kernel
theorem dX10_kingLeaps_112 : decode cX10_kingLeaps 112 = .ok (.idiv, 1) := by decide +kernel
theorem dX10_kingLeaps_113 : decode cX10_kingLeaps 113 = .ok (.iconst 1, 1) := by decide +kernel
theorem dX10_kingLeaps_114 : decode cX10_kingLeaps 114 = .ok (.aload_n 0, 1) := by decide +kernel
theorem dX10_kingLeaps_115 : decode cX10_kingLeaps 115 = .ok (.getfield 119, 3) := by decide +kernel
theorem dX10_kingLeaps_118 : decode cX10_kingLeaps 118 = .ok (.isub, 1) := by decide +kernel
theorem dX10_kingLeaps_119 : decode cX10_kingLeaps 119 = .ok (.invokevirtual 92, 3) := by decide +kernel
theorem dX10_kingLeaps_122 : decode cX10_kingLeaps 122 = .ok (.ifCond .ne 21, 3) := by decide +kernel
theorem dX10_kingLeaps_125 : decode cX10_kingLeaps 125 = .ok (.aload_n 0, 1) := by decide +kernel
theorem dX10_kingLeaps_126 : decode cX10_kingLeaps 126 = .ok (.iload_n 2, 1) := by decide +kernel
theorem dX10_kingLeaps_127 : decode cX10_kingLeaps 127 = .ok (.iconst 1, 1) := by decide +kernel
theorem dX10_kingLeaps_128 : decode cX10_kingLeaps 128 = .ok (.aload_n 0, 1) := by decide +kernel
theorem dX10_kingLeaps_129 : decode cX10_kingLeaps 129 = .ok (.getfield 119, 3) := by decide +kernel
theorem dX10_kingLeaps_132 : decode cX10_kingLeaps 132 = .ok (.isub, 1) := by decide +kernel
theorem dX10_kingLeaps_133 : decode cX10_kingLeaps 133 = .ok (.invokevirtual 92, 3) := by decide +kernel
theorem dX10_kingLeaps_136 : decode cX10_kingLeaps 136 = .ok (.ifCond .ne 7, 3) := by decide +kernel
theorem dX10_kingLeaps_139 : decode cX10_kingLeaps 139 = .ok (.iconst 1, 1) := by decide +kernel
theorem dX10_kingLeaps_140 : decode cX10_kingLeaps 140 = .ok (.goto 4, 3) := by decide +kernel
theorem dX10_kingLeaps_143 : decode cX10_kingLeaps 143 = .ok (.iconst 0, 1) := by decide +kernel
theorem dX10_kingLeaps_144 : decode cX10_kingLeaps 144 = .ok (.ireturn, 1) := by decide +kernel
theorem dX10_goes_0 : decode cX10_goes 0 = .ok (.aload_n 0, 1) := by decide +kernel
theorem dX10_goes_1 : decode cX10_goes 1 = .ok (.getfield 7, 3) := by decide +kernel
theorem dX10_goes_4 : decode cX10_goes 4 = .ok (.iload_n 2, 1) := by decide +kernel
theorem dX10_goes_5 : decode cX10_goes 5 = .ok (.iaload, 1) := by decide +kernel
theorem dX10_goes_6 : decode cX10_goes 6 = .ok (.aload_n 0, 1) := by decide +kernel
theorem dX10_goes_7 : decode cX10_goes 7 = .ok (.getfield 119, 3) := by decide +kernel
theorem dX10_goes_10 : decode cX10_goes 10 = .ok (.invokestatic 86, 3) := by decide +kernel
theorem dX10_goes_13 : decode cX10_goes 13 = .ok (.ifCond .eq 5, 3) := by decide +kernel
theorem dX10_goes_16 : decode cX10_goes 16 = .ok (.iconst 0, 1) := by decide +kernel
theorem dX10_goes_17 : decode cX10_goes 17 = .ok (.ireturn, 1) := by decide +kernel
theorem dX10_goes_18 : decode cX10_goes 18 = .ok (.aload_n 0, 1) := by decide +kernel
theorem dX10_goes_19 : decode cX10_goes 19 = .ok (.getfield 7, 3) := by decide +kernel
theorem dX10_goes_22 : decode cX10_goes 22 = .ok (.iload_n 1, 1) := by decide +kernel
theorem dX10_goes_23 : decode cX10_goes 23 = .ok (.iaload, 1) := by decide +kernel
theorem dX10_goes_24 : decode cX10_goes 24 = .ok (.invokestatic 79, 3) := by decide +kernel
theorem dX10_goes_27 : decode cX10_goes 27 = .ok (.lookupswitch 56 #[(1, 25), (6, 32)], 25) := by decide +kernel
theorem dX10_goes_52 : decode cX10_goes 52 = .ok (.aload_n 0, 1) := by decide +kernel
theorem dX10_goes_53 : decode cX10_goes 53 = .ok (.iload_n 1, 1) := by decide +kernel
theorem dX10_goes_54 : decode cX10_goes 54 = .ok (.iload_n 2, 1) := by decide +kernel
theorem dX10_goes_55 : decode cX10_goes 55 = .ok (.invokevirtual 142, 3) := by decide +kernel
theorem dX10_goes_58 : decode cX10_goes 58 = .ok (.ireturn, 1) := by decide +kernel
theorem dX10_goes_59 : decode cX10_goes 59 = .ok (.aload_n 0, 1) := by decide +kernel
theorem dX10_goes_60 : decode cX10_goes 60 = .ok (.iload_n 1, 1) := by decide +kernel
theorem dX10_goes_61 : decode cX10_goes 61 = .ok (.iload_n 2, 1) := by decide +kernel
theorem dX10_goes_62 : decode cX10_goes 62 = .ok (.invokevirtual 89, 3) := by decide +kernel
theorem dX10_goes_65 : decode cX10_goes 65 = .ok (.ifCond .ne 12, 3) := by decide +kernel
theorem dX10_goes_68 : decode cX10_goes 68 = .ok (.aload_n 0, 1) := by decide +kernel
theorem dX10_goes_69 : decode cX10_goes 69 = .ok (.iload_n 1, 1) := by decide +kernel
theorem dX10_goes_70 : decode cX10_goes 70 = .ok (.iload_n 2, 1) := by decide +kernel
theorem dX10_goes_71 : decode cX10_goes 71 = .ok (.invokevirtual 145, 3) := by decide +kernel
theorem dX10_goes_74 : decode cX10_goes 74 = .ok (.ifCond .eq 7, 3) := by decide +kernel
theorem dX10_goes_77 : decode cX10_goes 77 = .ok (.iconst 1, 1) := by decide +kernel
theorem dX10_goes_78 : decode cX10_goes 78 = .ok (.goto 4, 3) := by decide +kernel
theorem dX10_goes_81 : decode cX10_goes 81 = .ok (.iconst 0, 1) := by decide +kernel
theorem dX10_goes_82 : decode cX10_goes 82 = .ok (.ireturn, 1) := by decide +kernel
theorem dX10_goes_83 : decode cX10_goes 83 = .ok (.aload_n 0, 1) := by decide +kernel
theorem dX10_goes_84 : decode cX10_goes 84 = .ok (.iload_n 1, 1) := by decide +kernel
theorem dX10_goes_85 : decode cX10_goes 85 = .ok (.iload_n 2, 1) := by decide +kernel
theorem dX10_goes_86 : decode cX10_goes 86 = .ok (.invokevirtual 89, 3) := by decide +kernel
theorem dX10_goes_89 : decode cX10_goes 89 = .ok (.ireturn, 1) := by decide +kernel
theorem dX10_find_0 : decode cX10_find 0 = .ok (.aload_n 0, 1) := by decide +kernel
theorem dX10_find_1 : decode cX10_find 1 = .ok (.getfield 39, 3) := by decide +kernel
theorem dX10_find_4 : decode cX10_find 4 = .ok (.iload_n 1, 1) := by decide +kernel
theorem dX10_find_5 : decode cX10_find 5 = .ok (.iconst 0, 1) := by decide +kernel
theorem dX10_find_6 : decode cX10_find 6 = .ok (.iastore, 1) := by decide +kernel
theorem dX10_find_7 : decode cX10_find 7 = .ok (.iconst 0, 1) := by decide +kernel
theorem dX10_find_8 : decode cX10_find 8 = .ok (.istore_n 2, 1) := by decide +kernel
theorem dX10_find_9 : decode cX10_find 9 = .ok (.iload_n 2, 1) := by decide +kernel
theorem dX10_find_10 : decode cX10_find 10 = .ok (.bipush 64, 2) := by decide +kernel
theorem dX10_find_12 : decode cX10_find 12 = .ok (.if_icmp .ge 123, 3) := by decide +kernel
theorem dX10_find_15 : decode cX10_find 15 = .ok (.iconst 0, 1) := by decide +kernel
theorem dX10_find_16 : decode cX10_find 16 = .ok (.istore_n 3, 1) := by decide +kernel
theorem dX10_find_17 : decode cX10_find 17 = .ok (.iload_n 3, 1) := by decide +kernel
theorem dX10_find_18 : decode cX10_find 18 = .ok (.bipush 64, 2) := by decide +kernel
theorem dX10_find_20 : decode cX10_find 20 = .ok (.if_icmp .ge 109, 3) := by decide +kernel
theorem dX10_find_23 : decode cX10_find 23 = .ok (.aload_n 0, 1) := by decide +kernel
theorem dX10_find_24 : decode cX10_find 24 = .ok (.getfield 7, 3) := by decide +kernel
theorem dX10_find_27 : decode cX10_find 27 = .ok (.iload_n 2, 1) := by decide +kernel
theorem dX10_find_28 : decode cX10_find 28 = .ok (.iaload, 1) := by decide +kernel
theorem dX10_find_29 : decode cX10_find 29 = .ok (.aload_n 0, 1) := by decide +kernel
theorem dX10_find_30 : decode cX10_find 30 = .ok (.getfield 119, 3) := by decide +kernel
theorem dX10_find_33 : decode cX10_find 33 = .ok (.invokestatic 86, 3) := by decide +kernel
theorem dX10_find_36 : decode cX10_find 36 = .ok (.ifCond .eq 93, 3) := by decide +kernel
theorem dX10_find_39 : decode cX10_find 39 = .ok (.aload_n 0, 1) := by decide +kernel
theorem dX10_find_40 : decode cX10_find 40 = .ok (.iload_n 2, 1) := by decide +kernel
theorem dX10_find_41 : decode cX10_find 41 = .ok (.iload_n 3, 1) := by decide +kernel
theorem dX10_find_42 : decode cX10_find 42 = .ok (.invokevirtual 148, 3) := by decide +kernel
theorem dX10_find_45 : decode cX10_find 45 = .ok (.ifCond .eq 78, 3) := by decide +kernel
theorem dX10_find_48 : decode cX10_find 48 = .ok (.aload_n 0, 1) := by decide +kernel
theorem dX10_find_49 : decode cX10_find 49 = .ok (.getfield 7, 3) := by decide +kernel
theorem dX10_find_52 : decode cX10_find 52 = .ok (.iload_n 2, 1) := by decide +kernel
theorem dX10_find_53 : decode cX10_find 53 = .ok (.iaload, 1) := by decide +kernel
theorem dX10_find_54 : decode cX10_find 54 = .ok (.invokestatic 79, 3) := by decide +kernel
theorem dX10_find_57 : decode cX10_find 57 = .ok (.iconst 1, 1) := by decide +kernel
theorem dX10_find_58 : decode cX10_find 58 = .ok (.if_icmp .ne 20, 3) := by decide +kernel
theorem dX10_find_61 : decode cX10_find 61 = .ok (.iload_n 3, 1) := by decide +kernel
theorem dX10_find_62 : decode cX10_find 62 = .ok (.aload_n 0, 1) := by decide +kernel
theorem dX10_find_63 : decode cX10_find 63 = .ok (.getfield 119, 3) := by decide +kernel
theorem dX10_find_66 : decode cX10_find 66 = .ok (.invokestatic 138, 3) := by decide +kernel
theorem dX10_find_69 : decode cX10_find 69 = .ok (.bipush 7, 2) := by decide +kernel
theorem dX10_find_71 : decode cX10_find 71 = .ok (.if_icmp .ne 7, 3) := by decide +kernel
theorem dX10_find_74 : decode cX10_find 74 = .ok (.iconst 1, 1) := by decide +kernel
theorem dX10_find_75 : decode cX10_find 75 = .ok (.goto 4, 3) := by decide +kernel
theorem dX10_find_78 : decode cX10_find 78 = .ok (.iconst 0, 1) := by decide +kernel
theorem dX10_find_79 : decode cX10_find 79 = .ok (.istore 4, 2) := by decide +kernel
theorem dX10_find_81 : decode cX10_find 81 = .ok (.iload 4, 2) := by decide +kernel
theorem dX10_find_83 : decode cX10_find 83 = .ok (.ifCond .eq 7, 3) := by decide +kernel
theorem dX10_find_86 : decode cX10_find 86 = .ok (.iconst 2, 1) := by decide +kernel
theorem dX10_find_87 : decode cX10_find 87 = .ok (.goto 4, 3) := by decide +kernel
theorem dX10_find_90 : decode cX10_find 90 = .ok (.iconst 0, 1) := by decide +kernel
theorem dX10_find_91 : decode cX10_find 91 = .ok (.istore 5, 2) := by decide +kernel
theorem dX10_find_93 : decode cX10_find 93 = .ok (.iload 5, 2) := by decide +kernel
theorem dX10_find_95 : decode cX10_find 95 = .ok (.iload 4, 2) := by decide +kernel
theorem dX10_find_97 : decode cX10_find 97 = .ok (.ifCond .eq 7, 3) := by decide +kernel
theorem dX10_find_100 : decode cX10_find 100 = .ok (.iconst 5, 1) := by decide +kernel
theorem dX10_find_101 : decode cX10_find 101 = .ok (.goto 4, 3) := by decide +kernel
theorem dX10_find_104 : decode cX10_find 104 = .ok (.iconst 0, 1) := by decide +kernel
theorem dX10_find_105 : decode cX10_find 105 = .ok (.if_icmp .gt 18, 3) := by decide +kernel
theorem dX10_find_108 : decode cX10_find 108 = .ok (.aload_n 0, 1) := by decide +kernel
theorem dX10_find_109 : decode cX10_find 109 = .ok (.iload_n 1, 1) := by decide +kernel
theorem dX10_find_110 : decode cX10_find 110 = .ok (.iload_n 2, 1) := by decide +kernel
theorem dX10_find_111 : decode cX10_find 111 = .ok (.iload_n 3, 1) := by decide +kernel
theorem dX10_find_112 : decode cX10_find 112 = .ok (.iload 5, 2) := by decide +kernel
theorem dX10_find_114 : decode cX10_find 114 = .ok (.invokevirtual 151, 3) := by decide +kernel
theorem dX10_find_117 : decode cX10_find 117 = .ok (.iinc 5 1, 3) := by decide +kernel
theorem dX10_find_120 : decode cX10_find 120 = .ok (.goto (-27), 3) := by decide +kernel
theorem dX10_find_123 : decode cX10_find 123 = .ok (.iinc 3 1, 3) := by decide +kernel
theorem dX10_find_126 : decode cX10_find 126 = .ok (.goto (-109), 3) := by decide +kernel
theorem dX10_find_129 : decode cX10_find 129 = .ok (.iinc 2 1, 3) := by decide +kernel
theorem dX10_find_132 : decode cX10_find 132 = .ok (.goto (-123), 3) := by decide +kernel
theorem dX10_find_135 : decode cX10_find 135 = .ok (.return_, 1) := by decide +kernel
theorem dX10_isBare_0 : decode cX10_isBare 0 = .ok (.iconst 0, 1) := by decide +kernel
theorem dX10_isBare_1 : decode cX10_isBare 1 = .ok (.istore_n 1, 1) := by decide +kernel
theorem dX10_isBare_2 : decode cX10_isBare 2 = .ok (.iconst 0, 1) := by decide +kernel
theorem dX10_isBare_3 : decode cX10_isBare 3 = .ok (.istore_n 2, 1) := by decide +kernel
theorem dX10_isBare_4 : decode cX10_isBare 4 = .ok (.iconst 0, 1) := by decide +kernel
theorem dX10_isBare_5 : decode cX10_isBare 5 = .ok (.istore_n 3, 1) := by decide +kernel
theorem dX10_isBare_6 : decode cX10_isBare 6 = .ok (.iconst 0, 1) := by decide +kernel
theorem dX10_isBare_7 : decode cX10_isBare 7 = .ok (.istore 4, 2) := by decide +kernel
theorem dX10_isBare_9 : decode cX10_isBare 9 = .ok (.iconst 0, 1) := by decide +kernel
theorem dX10_isBare_10 : decode cX10_isBare 10 = .ok (.istore 5, 2) := by decide +kernel
theorem dX10_isBare_12 : decode cX10_isBare 12 = .ok (.iload 5, 2) := by decide +kernel
theorem dX10_isBare_14 : decode cX10_isBare 14 = .ok (.bipush 64, 2) := by decide +kernel
theorem dX10_isBare_16 : decode cX10_isBare 16 = .ok (.if_icmp .ge 125, 3) := by decide +kernel
theorem dX10_isBare_19 : decode cX10_isBare 19 = .ok (.aload_n 0, 1) := by decide +kernel
theorem dX10_isBare_20 : decode cX10_isBare 20 = .ok (.getfield 7, 3) := by decide +kernel
theorem dX10_isBare_23 : decode cX10_isBare 23 = .ok (.iload 5, 2) := by decide +kernel
theorem dX10_isBare_25 : decode cX10_isBare 25 = .ok (.iaload, 1) := by decide +kernel
theorem dX10_isBare_26 : decode cX10_isBare 26 = .ok (.invokestatic 79, 3) := by decide +kernel
theorem dX10_isBare_29 : decode cX10_isBare 29 = .ok (.istore 6, 2) := by decide +kernel
theorem dX10_isBare_31 : decode cX10_isBare 31 = .ok (.iload 5, 2) := by decide +kernel
theorem dX10_isBare_33 : decode cX10_isBare 33 = .ok (.invokestatic 69, 3) := by decide +kernel
theorem dX10_isBare_36 : decode cX10_isBare 36 = .ok (.iload 5, 2) := by decide +kernel
theorem dX10_isBare_38 : decode cX10_isBare 38 = .ok (.invokestatic 73, 3) := by decide +kernel
theorem dX10_isBare_41 : decode cX10_isBare 41 = .ok (.iadd, 1) := by decide +kernel
theorem dX10_isBare_42 : decode cX10_isBare 42 = .ok (.iconst 2, 1) := by decide +kernel
theorem dX10_isBare_43 : decode cX10_isBare 43 = .ok (.irem, 1) := by decide +kernel
theorem dX10_isBare_44 : decode cX10_isBare 44 = .ok (.ifCond .ne 7, 3) := by decide +kernel
theorem dX10_isBare_47 : decode cX10_isBare 47 = .ok (.iconst 1, 1) := by decide +kernel
theorem dX10_isBare_48 : decode cX10_isBare 48 = .ok (.goto 4, 3) := by decide +kernel
theorem dX10_isBare_51 : decode cX10_isBare 51 = .ok (.iconst 0, 1) := by decide +kernel
theorem dX10_isBare_52 : decode cX10_isBare 52 = .ok (.istore 7, 2) := by decide +kernel
theorem dX10_isBare_54 : decode cX10_isBare 54 = .ok (.iload 6, 2) := by decide +kernel
theorem dX10_isBare_56 : decode cX10_isBare 56 = .ok (.iconst 2, 1) := by decide +kernel
theorem dX10_isBare_57 : decode cX10_isBare 57 = .ok (.if_icmp .ne 9, 3) := by decide +kernel
theorem dX10_isBare_60 : decode cX10_isBare 60 = .ok (.iload_n 1, 1) := by decide +kernel
theorem dX10_isBare_61 : decode cX10_isBare 61 = .ok (.iconst 1, 1) := by decide +kernel
theorem dX10_isBare_62 : decode cX10_isBare 62 = .ok (.iadd, 1) := by decide +kernel
theorem dX10_isBare_63 : decode cX10_isBare 63 = .ok (.goto 4, 3) := by decide +kernel
theorem dX10_isBare_66 : decode cX10_isBare 66 = .ok (.iload_n 1, 1) := by decide +kernel
theorem dX10_isBare_67 : decode cX10_isBare 67 = .ok (.istore_n 1, 1) := by decide +kernel
theorem dX10_isBare_68 : decode cX10_isBare 68 = .ok (.iload 6, 2) := by decide +kernel
theorem dX10_isBare_70 : decode cX10_isBare 70 = .ok (.iconst 3, 1) := by decide +kernel
theorem dX10_isBare_71 : decode cX10_isBare 71 = .ok (.if_icmp .ne 14, 3) := by decide +kernel
theorem dX10_isBare_74 : decode cX10_isBare 74 = .ok (.iload 7, 2) := by decide +kernel
theorem dX10_isBare_76 : decode cX10_isBare 76 = .ok (.ifCond .eq 9, 3) := by decide +kernel
theorem dX10_isBare_79 : decode cX10_isBare 79 = .ok (.iload_n 2, 1) := by decide +kernel
theorem dX10_isBare_80 : decode cX10_isBare 80 = .ok (.iconst 1, 1) := by decide +kernel
theorem dX10_isBare_81 : decode cX10_isBare 81 = .ok (.iadd, 1) := by decide +kernel
theorem dX10_isBare_82 : decode cX10_isBare 82 = .ok (.goto 4, 3) := by decide +kernel
theorem dX10_isBare_85 : decode cX10_isBare 85 = .ok (.iload_n 2, 1) := by decide +kernel
theorem dX10_isBare_86 : decode cX10_isBare 86 = .ok (.istore_n 2, 1) := by decide +kernel
theorem dX10_isBare_87 : decode cX10_isBare 87 = .ok (.iload 6, 2) := by decide +kernel
theorem dX10_isBare_89 : decode cX10_isBare 89 = .ok (.iconst 3, 1) := by decide +kernel
theorem dX10_isBare_90 : decode cX10_isBare 90 = .ok (.if_icmp .ne 14, 3) := by decide +kernel
theorem dX10_isBare_93 : decode cX10_isBare 93 = .ok (.iload 7, 2) := by decide +kernel
theorem dX10_isBare_95 : decode cX10_isBare 95 = .ok (.ifCond .ne 9, 3) := by decide +kernel
theorem dX10_isBare_98 : decode cX10_isBare 98 = .ok (.iload_n 3, 1) := by decide +kernel
theorem dX10_isBare_99 : decode cX10_isBare 99 = .ok (.iconst 1, 1) := by decide +kernel
theorem dX10_isBare_100 : decode cX10_isBare 100 = .ok (.iadd, 1) := by decide +kernel
theorem dX10_isBare_101 : decode cX10_isBare 101 = .ok (.goto 4, 3) := by decide +kernel
theorem dX10_isBare_104 : decode cX10_isBare 104 = .ok (.iload_n 3, 1) := by decide +kernel
theorem dX10_isBare_105 : decode cX10_isBare 105 = .ok (.istore_n 3, 1) := by decide +kernel
theorem dX10_isBare_106 : decode cX10_isBare 106 = .ok (.iload 6, 2) := by decide +kernel
theorem dX10_isBare_108 : decode cX10_isBare 108 = .ok (.iconst 1, 1) := by decide +kernel
theorem dX10_isBare_109 : decode cX10_isBare 109 = .ok (.if_icmp .eq 15, 3) := by decide +kernel
theorem dX10_isBare_112 : decode cX10_isBare 112 = .ok (.iload 6, 2) := by decide +kernel
theorem dX10_isBare_114 : decode cX10_isBare 114 = .ok (.iconst 4, 1) := by decide +kernel
theorem dX10_isBare_115 : decode cX10_isBare 115 = .ok (.if_icmp .eq 9, 3) := by decide +kernel
theorem dX10_isBare_118 : decode cX10_isBare 118 = .ok (.iload 6, 2) := by decide +kernel
theorem dX10_isBare_120 : decode cX10_isBare 120 = .ok (.iconst 5, 1) := by decide +kernel
theorem dX10_isBare_121 : decode cX10_isBare 121 = .ok (.if_icmp .ne 10, 3) := by decide +kernel
theorem dX10_isBare_124 : decode cX10_isBare 124 = .ok (.iload 4, 2) := by decide +kernel
theorem dX10_isBare_126 : decode cX10_isBare 126 = .ok (.iconst 1, 1) := by decide +kernel
theorem dX10_isBare_127 : decode cX10_isBare 127 = .ok (.iadd, 1) := by decide +kernel
theorem dX10_isBare_128 : decode cX10_isBare 128 = .ok (.goto 5, 3) := by decide +kernel
theorem dX10_isBare_131 : decode cX10_isBare 131 = .ok (.iload 4, 2) := by decide +kernel
theorem dX10_isBare_133 : decode cX10_isBare 133 = .ok (.istore 4, 2) := by decide +kernel
theorem dX10_isBare_135 : decode cX10_isBare 135 = .ok (.iinc 5 1, 3) := by decide +kernel
theorem dX10_isBare_138 : decode cX10_isBare 138 = .ok (.goto (-126), 3) := by decide +kernel
theorem dX10_isBare_141 : decode cX10_isBare 141 = .ok (.iload 4, 2) := by decide +kernel
theorem dX10_isBare_143 : decode cX10_isBare 143 = .ok (.ifCond .ne 30, 3) := by decide +kernel
theorem dX10_isBare_146 : decode cX10_isBare 146 = .ok (.iload_n 1, 1) := by decide +kernel
theorem dX10_isBare_147 : decode cX10_isBare 147 = .ok (.ifCond .ne 11, 3) := by decide +kernel
theorem dX10_isBare_150 : decode cX10_isBare 150 = .ok (.iload_n 2, 1) := by decide +kernel
theorem dX10_isBare_151 : decode cX10_isBare 151 = .ok (.ifCond .eq 18, 3) := by decide +kernel
theorem dX10_isBare_154 : decode cX10_isBare 154 = .ok (.iload_n 3, 1) := by decide +kernel
theorem dX10_isBare_155 : decode cX10_isBare 155 = .ok (.ifCond .eq 14, 3) := by decide +kernel
theorem dX10_isBare_158 : decode cX10_isBare 158 = .ok (.iload_n 1, 1) := by decide +kernel
theorem dX10_isBare_159 : decode cX10_isBare 159 = .ok (.iconst 1, 1) := by decide +kernel
theorem dX10_isBare_160 : decode cX10_isBare 160 = .ok (.if_icmp .ne 13, 3) := by decide +kernel
theorem dX10_isBare_163 : decode cX10_isBare 163 = .ok (.iload_n 2, 1) := by decide +kernel
theorem dX10_isBare_164 : decode cX10_isBare 164 = .ok (.iload_n 3, 1) := by decide +kernel
theorem dX10_isBare_165 : decode cX10_isBare 165 = .ok (.iadd, 1) := by decide +kernel
theorem dX10_isBare_166 : decode cX10_isBare 166 = .ok (.ifCond .ne 7, 3) := by decide +kernel
theorem dX10_isBare_169 : decode cX10_isBare 169 = .ok (.iconst 1, 1) := by decide +kernel
theorem dX10_isBare_170 : decode cX10_isBare 170 = .ok (.goto 4, 3) := by decide +kernel
theorem dX10_isBare_173 : decode cX10_isBare 173 = .ok (.iconst 0, 1) := by decide +kernel
theorem dX10_isBare_174 : decode cX10_isBare 174 = .ok (.ireturn, 1) := by decide +kernel
theorem dX10_stood_0 : decode cX10_stood 0 = .ok (.bipush 69, 2) := by decide +kernel
theorem dX10_stood_2 : decode cX10_stood 2 = .ok (.iload_n 1, 1) := by decide +kernel
theorem dX10_stood_3 : decode cX10_stood 3 = .ok (.imul, 1) := by decide +kernel
theorem dX10_stood_4 : decode cX10_stood 4 = .ok (.istore_n 2, 1) := by decide +kernel
theorem dX10_stood_5 : decode cX10_stood 5 = .ok (.aload_n 0, 1) := by decide +kernel
theorem dX10_stood_6 : decode cX10_stood 6 = .ok (.getfield 18, 3) := by decide +kernel
theorem dX10_stood_9 : decode cX10_stood 9 = .ok (.iload_n 2, 1) := by decide +kernel
theorem dX10_stood_10 : decode cX10_stood 10 = .ok (.bipush 64, 2) := by decide +kernel
theorem dX10_stood_12 : decode cX10_stood 12 = .ok (.iadd, 1) := by decide +kernel
theorem dX10_stood_13 : decode cX10_stood 13 = .ok (.iaload, 1) := by decide +kernel
theorem dX10_stood_14 : decode cX10_stood 14 = .ok (.aload_n 0, 1) := by decide +kernel
theorem dX10_stood_15 : decode cX10_stood 15 = .ok (.getfield 119, 3) := by decide +kernel
theorem dX10_stood_18 : decode cX10_stood 18 = .ok (.if_icmp .ne 39, 3) := by decide +kernel
theorem dX10_stood_21 : decode cX10_stood 21 = .ok (.aload_n 0, 1) := by decide +kernel
theorem dX10_stood_22 : decode cX10_stood 22 = .ok (.getfield 18, 3) := by decide +kernel
theorem dX10_stood_25 : decode cX10_stood 25 = .ok (.iload_n 2, 1) := by decide +kernel
theorem dX10_stood_26 : decode cX10_stood 26 = .ok (.bipush 65, 2) := by decide +kernel
theorem dX10_stood_28 : decode cX10_stood 28 = .ok (.iadd, 1) := by decide +kernel
theorem dX10_stood_29 : decode cX10_stood 29 = .ok (.iaload, 1) := by decide +kernel
theorem dX10_stood_30 : decode cX10_stood 30 = .ok (.aload_n 0, 1) := by decide +kernel
theorem dX10_stood_31 : decode cX10_stood 31 = .ok (.getfield 60, 3) := by decide +kernel
theorem dX10_stood_34 : decode cX10_stood 34 = .ok (.if_icmp .ne 23, 3) := by decide +kernel
theorem dX10_stood_37 : decode cX10_stood 37 = .ok (.aload_n 0, 1) := by decide +kernel
theorem dX10_stood_38 : decode cX10_stood 38 = .ok (.getfield 18, 3) := by decide +kernel
theorem dX10_stood_41 : decode cX10_stood 41 = .ok (.iload_n 2, 1) := by decide +kernel
theorem dX10_stood_42 : decode cX10_stood 42 = .ok (.bipush 66, 2) := by decide +kernel
theorem dX10_stood_44 : decode cX10_stood 44 = .ok (.iadd, 1) := by decide +kernel
theorem dX10_stood_45 : decode cX10_stood 45 = .ok (.iaload, 1) := by decide +kernel
theorem dX10_stood_46 : decode cX10_stood 46 = .ok (.aload_n 0, 1) := by decide +kernel
theorem dX10_stood_47 : decode cX10_stood 47 = .ok (.getfield 13, 3) := by decide +kernel
theorem dX10_stood_50 : decode cX10_stood 50 = .ok (.if_icmp .ne 7, 3) := by decide +kernel
theorem dX10_stood_53 : decode cX10_stood 53 = .ok (.iconst 1, 1) := by decide +kernel
theorem dX10_stood_54 : decode cX10_stood 54 = .ok (.goto 4, 3) := by decide +kernel
theorem dX10_stood_57 : decode cX10_stood 57 = .ok (.iconst 0, 1) := by decide +kernel
theorem dX10_stood_58 : decode cX10_stood 58 = .ok (.istore_n 3, 1) := by decide +kernel
theorem dX10_stood_59 : decode cX10_stood 59 = .ok (.iconst 0, 1) := by decide +kernel
theorem dX10_stood_60 : decode cX10_stood 60 = .ok (.istore 4, 2) := by decide +kernel
theorem dX10_stood_62 : decode cX10_stood 62 = .ok (.iload 4, 2) := by decide +kernel
theorem dX10_stood_64 : decode cX10_stood 64 = .ok (.bipush 64, 2) := by decide +kernel
theorem dX10_stood_66 : decode cX10_stood 66 = .ok (.if_icmp .ge 38, 3) := by decide +kernel
theorem dX10_stood_69 : decode cX10_stood 69 = .ok (.iload_n 3, 1) := by decide +kernel
theorem dX10_stood_70 : decode cX10_stood 70 = .ok (.ifCond .eq 26, 3) := by decide +kernel
theorem dX10_stood_73 : decode cX10_stood 73 = .ok (.aload_n 0, 1) := by decide +kernel
theorem dX10_stood_74 : decode cX10_stood 74 = .ok (.getfield 18, 3) := by decide +kernel
theorem dX10_stood_77 : decode cX10_stood 77 = .ok (.iload_n 2, 1) := by decide +kernel
theorem dX10_stood_78 : decode cX10_stood 78 = .ok (.iload 4, 2) := by decide +kernel
theorem dX10_stood_80 : decode cX10_stood 80 = .ok (.iadd, 1) := by decide +kernel
theorem dX10_stood_81 : decode cX10_stood 81 = .ok (.iaload, 1) := by decide +kernel
theorem dX10_stood_82 : decode cX10_stood 82 = .ok (.aload_n 0, 1) := by decide +kernel
theorem dX10_stood_83 : decode cX10_stood 83 = .ok (.getfield 7, 3) := by decide +kernel
theorem dX10_stood_86 : decode cX10_stood 86 = .ok (.iload 4, 2) := by decide +kernel
theorem dX10_stood_88 : decode cX10_stood 88 = .ok (.iaload, 1) := by decide +kernel
theorem dX10_stood_89 : decode cX10_stood 89 = .ok (.if_icmp .ne 7, 3) := by decide +kernel
theorem dX10_stood_92 : decode cX10_stood 92 = .ok (.iconst 1, 1) := by decide +kernel
theorem dX10_stood_93 : decode cX10_stood 93 = .ok (.goto 4, 3) := by decide +kernel
theorem dX10_stood_96 : decode cX10_stood 96 = .ok (.iconst 0, 1) := by decide +kernel
theorem dX10_stood_97 : decode cX10_stood 97 = .ok (.istore_n 3, 1) := by decide +kernel
theorem dX10_stood_98 : decode cX10_stood 98 = .ok (.iinc 4 1, 3) := by decide +kernel
theorem dX10_stood_101 : decode cX10_stood 101 = .ok (.goto (-39), 3) := by decide +kernel
theorem dX10_stood_104 : decode cX10_stood 104 = .ok (.iload_n 3, 1) := by decide +kernel
theorem dX10_stood_105 : decode cX10_stood 105 = .ok (.ireturn, 1) := by decide +kernel
theorem dX10_isThrice_0 : decode cX10_isThrice 0 = .ok (.iconst 0, 1) := by decide +kernel
theorem dX10_isThrice_1 : decode cX10_isThrice 1 = .ok (.istore_n 1, 1) := by decide +kernel
theorem dX10_isThrice_2 : decode cX10_isThrice 2 = .ok (.iconst 0, 1) := by decide +kernel
theorem dX10_isThrice_3 : decode cX10_isThrice 3 = .ok (.istore_n 2, 1) := by decide +kernel
theorem dX10_isThrice_4 : decode cX10_isThrice 4 = .ok (.iload_n 2, 1) := by decide +kernel
theorem dX10_isThrice_5 : decode cX10_isThrice 5 = .ok (.aload_n 0, 1) := by decide +kernel
theorem dX10_isThrice_6 : decode cX10_isThrice 6 = .ok (.getfield 116, 3) := by decide +kernel
theorem dX10_isThrice_9 : decode cX10_isThrice 9 = .ok (.if_icmp .ge 25, 3) := by decide +kernel
theorem dX10_isThrice_12 : decode cX10_isThrice 12 = .ok (.aload_n 0, 1) := by decide +kernel
theorem dX10_isThrice_13 : decode cX10_isThrice 13 = .ok (.iload_n 2, 1) := by decide +kernel
theorem dX10_isThrice_14 : decode cX10_isThrice 14 = .ok (.invokevirtual 155, 3) := by decide +kernel
theorem dX10_isThrice_17 : decode cX10_isThrice 17 = .ok (.ifCond .eq 9, 3) := by decide +kernel
theorem dX10_isThrice_20 : decode cX10_isThrice 20 = .ok (.iload_n 1, 1) := by decide +kernel
theorem dX10_isThrice_21 : decode cX10_isThrice 21 = .ok (.iconst 1, 1) := by decide +kernel
theorem dX10_isThrice_22 : decode cX10_isThrice 22 = .ok (.iadd, 1) := by decide +kernel
theorem dX10_isThrice_23 : decode cX10_isThrice 23 = .ok (.goto 4, 3) := by decide +kernel
theorem dX10_isThrice_26 : decode cX10_isThrice 26 = .ok (.iload_n 1, 1) := by decide +kernel
theorem dX10_isThrice_27 : decode cX10_isThrice 27 = .ok (.istore_n 1, 1) := by decide +kernel
theorem dX10_isThrice_28 : decode cX10_isThrice 28 = .ok (.iinc 2 1, 3) := by decide +kernel
theorem dX10_isThrice_31 : decode cX10_isThrice 31 = .ok (.goto (-27), 3) := by decide +kernel
theorem dX10_isThrice_34 : decode cX10_isThrice 34 = .ok (.iload_n 1, 1) := by decide +kernel
theorem dX10_isThrice_35 : decode cX10_isThrice 35 = .ok (.iconst 1, 1) := by decide +kernel
theorem dX10_isThrice_36 : decode cX10_isThrice 36 = .ok (.if_icmp .le 7, 3) := by decide +kernel
theorem dX10_isThrice_39 : decode cX10_isThrice 39 = .ok (.iconst 1, 1) := by decide +kernel
theorem dX10_isThrice_40 : decode cX10_isThrice 40 = .ok (.goto 4, 3) := by decide +kernel
theorem dX10_isThrice_43 : decode cX10_isThrice 43 = .ok (.iconst 0, 1) := by decide +kernel
theorem dX10_isThrice_44 : decode cX10_isThrice 44 = .ok (.ireturn, 1) := by decide +kernel
theorem dX10_state_0 : decode cX10_state 0 = .ok (.aload_n 0, 1) := by decide +kernel
theorem dX10_state_1 : decode cX10_state 1 = .ok (.iconst 0, 1) := by decide +kernel
theorem dX10_state_2 : decode cX10_state 2 = .ok (.putfield 66, 3) := by decide +kernel
theorem dX10_state_5 : decode cX10_state 5 = .ok (.aload_n 0, 1) := by decide +kernel
theorem dX10_state_6 : decode cX10_state 6 = .ok (.iconst 0, 1) := by decide +kernel
theorem dX10_state_7 : decode cX10_state 7 = .ok (.invokevirtual 158, 3) := by decide +kernel
theorem dX10_state_10 : decode cX10_state 10 = .ok (.aload_n 0, 1) := by decide +kernel
theorem dX10_state_11 : decode cX10_state 11 = .ok (.getfield 39, 3) := by decide +kernel
theorem dX10_state_14 : decode cX10_state 14 = .ok (.iconst 0, 1) := by decide +kernel
theorem dX10_state_15 : decode cX10_state 15 = .ok (.iaload, 1) := by decide +kernel
theorem dX10_state_16 : decode cX10_state 16 = .ok (.ifCond .ne 20, 3) := by decide +kernel
theorem dX10_state_19 : decode cX10_state 19 = .ok (.aload_n 0, 1) := by decide +kernel
theorem dX10_state_20 : decode cX10_state 20 = .ok (.aload_n 0, 1) := by decide +kernel
theorem dX10_state_21 : decode cX10_state 21 = .ok (.getfield 119, 3) := by decide +kernel
theorem dX10_state_24 : decode cX10_state 24 = .ok (.invokevirtual 109, 3) := by decide +kernel
theorem dX10_state_27 : decode cX10_state 27 = .ok (.ifCond .eq 7, 3) := by decide +kernel
theorem dX10_state_30 : decode cX10_state 30 = .ok (.iconst 1, 1) := by decide +kernel
theorem dX10_state_31 : decode cX10_state 31 = .ok (.goto 4, 3) := by decide +kernel
theorem dX10_state_34 : decode cX10_state 34 = .ok (.iconst 2, 1) := by decide +kernel
theorem dX10_state_35 : decode cX10_state 35 = .ok (.ireturn, 1) := by decide +kernel
theorem dX10_state_36 : decode cX10_state 36 = .ok (.aload_n 0, 1) := by decide +kernel
theorem dX10_state_37 : decode cX10_state 37 = .ok (.getfield 122, 3) := by decide +kernel
theorem dX10_state_40 : decode cX10_state 40 = .ok (.bipush 100, 2) := by decide +kernel
theorem dX10_state_42 : decode cX10_state 42 = .ok (.if_icmp .lt 7, 3) := by decide +kernel
theorem dX10_state_45 : decode cX10_state 45 = .ok (.iconst 3, 1) := by decide +kernel
theorem dX10_state_46 : decode cX10_state 46 = .ok (.goto 26, 3) := by decide +kernel
theorem dX10_state_49 : decode cX10_state 49 = .ok (.aload_n 0, 1) := by decide +kernel
theorem dX10_state_50 : decode cX10_state 50 = .ok (.invokevirtual 162, 3) := by decide +kernel
theorem dX10_state_53 : decode cX10_state 53 = .ok (.ifCond .eq 7, 3) := by decide +kernel
theorem dX10_state_56 : decode cX10_state 56 = .ok (.iconst 4, 1) := by decide +kernel
theorem dX10_state_57 : decode cX10_state 57 = .ok (.goto 15, 3) := by decide +kernel
theorem dX10_state_60 : decode cX10_state 60 = .ok (.aload_n 0, 1) := by decide +kernel
theorem dX10_state_61 : decode cX10_state 61 = .ok (.invokevirtual 166, 3) := by decide +kernel
theorem dX10_state_64 : decode cX10_state 64 = .ok (.ifCond .eq 7, 3) := by decide +kernel
theorem dX10_state_67 : decode cX10_state 67 = .ok (.iconst 5, 1) := by decide +kernel
theorem dX10_state_68 : decode cX10_state 68 = .ok (.goto 4, 3) := by decide +kernel
theorem dX10_state_71 : decode cX10_state 71 = .ok (.iconst 0, 1) := by decide +kernel
theorem dX10_state_72 : decode cX10_state 72 = .ok (.ireturn, 1) := by decide +kernel
theorem dX10_worthOf_0 : decode cX10_worthOf 0 = .ok (.aload_n 0, 1) := by decide +kernel
theorem dX10_worthOf_1 : decode cX10_worthOf 1 = .ok (.getfield 7, 3) := by decide +kernel
theorem dX10_worthOf_4 : decode cX10_worthOf 4 = .ok (.iload_n 1, 1) := by decide +kernel
theorem dX10_worthOf_5 : decode cX10_worthOf 5 = .ok (.iaload, 1) := by decide +kernel
theorem dX10_worthOf_6 : decode cX10_worthOf 6 = .ok (.ifCond .le 7, 3) := by decide +kernel
theorem dX10_worthOf_9 : decode cX10_worthOf 9 = .ok (.iconst 0, 1) := by decide +kernel
theorem dX10_worthOf_10 : decode cX10_worthOf 10 = .ok (.goto 4, 3) := by decide +kernel
theorem dX10_worthOf_13 : decode cX10_worthOf 13 = .ok (.iconst 1, 1) := by decide +kernel
theorem dX10_worthOf_14 : decode cX10_worthOf 14 = .ok (.istore_n 2, 1) := by decide +kernel
theorem dX10_worthOf_15 : decode cX10_worthOf 15 = .ok (.iload_n 1, 1) := by decide +kernel
theorem dX10_worthOf_16 : decode cX10_worthOf 16 = .ok (.iload_n 2, 1) := by decide +kernel
theorem dX10_worthOf_17 : decode cX10_worthOf 17 = .ok (.invokestatic 138, 3) := by decide +kernel
theorem dX10_worthOf_20 : decode cX10_worthOf 20 = .ok (.istore_n 3, 1) := by decide +kernel
theorem dX10_worthOf_21 : decode cX10_worthOf 21 = .ok (.iload_n 1, 1) := by decide +kernel
theorem dX10_worthOf_22 : decode cX10_worthOf 22 = .ok (.invokestatic 73, 3) := by decide +kernel
theorem dX10_worthOf_25 : decode cX10_worthOf 25 = .ok (.istore 4, 2) := by decide +kernel
theorem dX10_worthOf_27 : decode cX10_worthOf 27 = .ok (.iload 4, 2) := by decide +kernel
theorem dX10_worthOf_29 : decode cX10_worthOf 29 = .ok (.bipush 7, 2) := by decide +kernel
theorem dX10_worthOf_31 : decode cX10_worthOf 31 = .ok (.iload 4, 2) := by decide +kernel
theorem dX10_worthOf_33 : decode cX10_worthOf 33 = .ok (.isub, 1) := by decide +kernel
theorem dX10_worthOf_34 : decode cX10_worthOf 34 = .ok (.if_icmp .ge 8, 3) := by decide +kernel
theorem dX10_worthOf_37 : decode cX10_worthOf 37 = .ok (.iload 4, 2) := by decide +kernel
theorem dX10_worthOf_39 : decode cX10_worthOf 39 = .ok (.goto 8, 3) := by decide +kernel
theorem dX10_worthOf_42 : decode cX10_worthOf 42 = .ok (.bipush 7, 2) := by decide +kernel
theorem dX10_worthOf_44 : decode cX10_worthOf 44 = .ok (.iload 4, 2) := by decide +kernel
theorem dX10_worthOf_46 : decode cX10_worthOf 46 = .ok (.isub, 1) := by decide +kernel
theorem dX10_worthOf_47 : decode cX10_worthOf 47 = .ok (.istore 5, 2) := by decide +kernel
theorem dX10_worthOf_49 : decode cX10_worthOf 49 = .ok (.iload 5, 2) := by decide +kernel
theorem dX10_worthOf_51 : decode cX10_worthOf 51 = .ok (.iload_n 3, 1) := by decide +kernel
theorem dX10_worthOf_52 : decode cX10_worthOf 52 = .ok (.bipush 7, 2) := by decide +kernel
theorem dX10_worthOf_54 : decode cX10_worthOf 54 = .ok (.iload_n 3, 1) := by decide +kernel
theorem dX10_worthOf_55 : decode cX10_worthOf 55 = .ok (.isub, 1) := by decide +kernel
theorem dX10_worthOf_56 : decode cX10_worthOf 56 = .ok (.if_icmp .ge 7, 3) := by decide +kernel
theorem dX10_worthOf_59 : decode cX10_worthOf 59 = .ok (.iload_n 3, 1) := by decide +kernel
theorem dX10_worthOf_60 : decode cX10_worthOf 60 = .ok (.goto 7, 3) := by decide +kernel
theorem dX10_worthOf_63 : decode cX10_worthOf 63 = .ok (.bipush 7, 2) := by decide +kernel
theorem dX10_worthOf_65 : decode cX10_worthOf 65 = .ok (.iload_n 3, 1) := by decide +kernel
theorem dX10_worthOf_66 : decode cX10_worthOf 66 = .ok (.isub, 1) := by decide +kernel
theorem dX10_worthOf_67 : decode cX10_worthOf 67 = .ok (.iadd, 1) := by decide +kernel
theorem dX10_worthOf_68 : decode cX10_worthOf 68 = .ok (.istore 6, 2) := by decide +kernel
theorem dX10_worthOf_70 : decode cX10_worthOf 70 = .ok (.aload_n 0, 1) := by decide +kernel
theorem dX10_worthOf_71 : decode cX10_worthOf 71 = .ok (.getfield 7, 3) := by decide +kernel
theorem dX10_worthOf_74 : decode cX10_worthOf 74 = .ok (.iload_n 1, 1) := by decide +kernel
theorem dX10_worthOf_75 : decode cX10_worthOf 75 = .ok (.iaload, 1) := by decide +kernel
theorem dX10_worthOf_76 : decode cX10_worthOf 76 = .ok (.invokestatic 79, 3) := by decide +kernel
theorem dX10_worthOf_79 : decode cX10_worthOf 79 = .ok (.tableswitch 99 1 6 #[37, 49, 59, 68, 84, 93], 37) := by decide +kernel
theorem dX10_worthOf_116 : decode cX10_worthOf 116 = .ok (.bipush 100, 2) := by decide +kernel
theorem dX10_worthOf_118 : decode cX10_worthOf 118 = .ok (.iconst 4, 1) := by decide +kernel
theorem dX10_worthOf_119 : decode cX10_worthOf 119 = .ok (.iload_n 3, 1) := by decide +kernel
theorem dX10_worthOf_120 : decode cX10_worthOf 120 = .ok (.imul, 1) := by decide +kernel
theorem dX10_worthOf_121 : decode cX10_worthOf 121 = .ok (.iadd, 1) := by decide +kernel
theorem dX10_worthOf_122 : decode cX10_worthOf 122 = .ok (.iconst 2, 1) := by decide +kernel
theorem dX10_worthOf_123 : decode cX10_worthOf 123 = .ok (.iload 5, 2) := by decide +kernel
theorem dX10_worthOf_125 : decode cX10_worthOf 125 = .ok (.imul, 1) := by decide +kernel
theorem dX10_worthOf_126 : decode cX10_worthOf 126 = .ok (.iadd, 1) := by decide +kernel
theorem dX10_worthOf_127 : decode cX10_worthOf 127 = .ok (.ireturn, 1) := by decide +kernel
theorem dX10_worthOf_128 : decode cX10_worthOf 128 = .ok (.sipush 320, 3) := by decide +kernel
theorem dX10_worthOf_131 : decode cX10_worthOf 131 = .ok (.bipush 6, 2) := by decide +kernel
theorem dX10_worthOf_133 : decode cX10_worthOf 133 = .ok (.iload 6, 2) := by decide +kernel
theorem dX10_worthOf_135 : decode cX10_worthOf 135 = .ok (.imul, 1) := by decide +kernel
theorem dX10_worthOf_136 : decode cX10_worthOf 136 = .ok (.iadd, 1) := by decide +kernel
theorem dX10_worthOf_137 : decode cX10_worthOf 137 = .ok (.ireturn, 1) := by decide +kernel
theorem dX10_worthOf_138 : decode cX10_worthOf 138 = .ok (.sipush 330, 3) := by decide +kernel
theorem dX10_worthOf_141 : decode cX10_worthOf 141 = .ok (.iconst 4, 1) := by decide +kernel
theorem dX10_worthOf_142 : decode cX10_worthOf 142 = .ok (.iload 6, 2) := by decide +kernel
theorem dX10_worthOf_144 : decode cX10_worthOf 144 = .ok (.imul, 1) := by decide +kernel
theorem dX10_worthOf_145 : decode cX10_worthOf 145 = .ok (.iadd, 1) := by decide +kernel
theorem dX10_worthOf_146 : decode cX10_worthOf 146 = .ok (.ireturn, 1) := by decide +kernel
theorem dX10_worthOf_147 : decode cX10_worthOf 147 = .ok (.iload_n 3, 1) := by decide +kernel
theorem dX10_worthOf_148 : decode cX10_worthOf 148 = .ok (.bipush 6, 2) := by decide +kernel
theorem dX10_worthOf_150 : decode cX10_worthOf 150 = .ok (.if_icmp .ne 9, 3) := by decide +kernel
theorem dX10_worthOf_153 : decode cX10_worthOf 153 = .ok (.sipush 520, 3) := by decide +kernel
theorem dX10_worthOf_156 : decode cX10_worthOf 156 = .ok (.goto 6, 3) := by decide +kernel
theorem dX10_worthOf_159 : decode cX10_worthOf 159 = .ok (.sipush 500, 3) := by decide +kernel
theorem dX10_worthOf_162 : decode cX10_worthOf 162 = .ok (.ireturn, 1) := by decide +kernel
theorem dX10_worthOf_163 : decode cX10_worthOf 163 = .ok (.sipush 900, 3) := by decide +kernel
theorem dX10_worthOf_166 : decode cX10_worthOf 166 = .ok (.iconst 2, 1) := by decide +kernel
theorem dX10_worthOf_167 : decode cX10_worthOf 167 = .ok (.iload 6, 2) := by decide +kernel
theorem dX10_worthOf_169 : decode cX10_worthOf 169 = .ok (.imul, 1) := by decide +kernel
theorem dX10_worthOf_170 : decode cX10_worthOf 170 = .ok (.iadd, 1) := by decide +kernel
theorem dX10_worthOf_171 : decode cX10_worthOf 171 = .ok (.ireturn, 1) := by decide +kernel
theorem dX10_worthOf_172 : decode cX10_worthOf 172 = .ok (.bipush (-3), 2) := by decide +kernel
theorem dX10_worthOf_174 : decode cX10_worthOf 174 = .ok (.iload 6, 2) := by decide +kernel
theorem dX10_worthOf_176 : decode cX10_worthOf 176 = .ok (.imul, 1) := by decide +kernel
theorem dX10_worthOf_177 : decode cX10_worthOf 177 = .ok (.ireturn, 1) := by decide +kernel
theorem dX10_worthOf_178 : decode cX10_worthOf 178 = .ok (.iconst 0, 1) := by decide +kernel
theorem dX10_worthOf_179 : decode cX10_worthOf 179 = .ok (.ireturn, 1) := by decide +kernel
theorem dX10_worthNow_0 : decode cX10_worthNow 0 = .ok (.iconst 0, 1) := by decide +kernel
theorem dX10_worthNow_1 : decode cX10_worthNow 1 = .ok (.istore_n 1, 1) := by decide +kernel
theorem dX10_worthNow_2 : decode cX10_worthNow 2 = .ok (.iconst 0, 1) := by decide +kernel
theorem dX10_worthNow_3 : decode cX10_worthNow 3 = .ok (.istore_n 2, 1) := by decide +kernel
theorem dX10_worthNow_4 : decode cX10_worthNow 4 = .ok (.iload_n 2, 1) := by decide +kernel
theorem dX10_worthNow_5 : decode cX10_worthNow 5 = .ok (.bipush 64, 2) := by decide +kernel
theorem dX10_worthNow_7 : decode cX10_worthNow 7 = .ok (.if_icmp .ge 43, 3) := by decide +kernel
theorem dX10_worthNow_10 : decode cX10_worthNow 10 = .ok (.aload_n 0, 1) := by decide +kernel
theorem dX10_worthNow_11 : decode cX10_worthNow 11 = .ok (.getfield 7, 3) := by decide +kernel
theorem dX10_worthNow_14 : decode cX10_worthNow 14 = .ok (.iload_n 2, 1) := by decide +kernel
theorem dX10_worthNow_15 : decode cX10_worthNow 15 = .ok (.iaload, 1) := by decide +kernel
theorem dX10_worthNow_16 : decode cX10_worthNow 16 = .ok (.aload_n 0, 1) := by decide +kernel
theorem dX10_worthNow_17 : decode cX10_worthNow 17 = .ok (.getfield 119, 3) := by decide +kernel
theorem dX10_worthNow_20 : decode cX10_worthNow 20 = .ok (.invokestatic 86, 3) := by decide +kernel
theorem dX10_worthNow_23 : decode cX10_worthNow 23 = .ok (.ifCond .eq 13, 3) := by decide +kernel
theorem dX10_worthNow_26 : decode cX10_worthNow 26 = .ok (.iload_n 1, 1) := by decide +kernel
theorem dX10_worthNow_27 : decode cX10_worthNow 27 = .ok (.aload_n 0, 1) := by decide +kernel
theorem dX10_worthNow_28 : decode cX10_worthNow 28 = .ok (.iload_n 2, 1) := by decide +kernel
theorem dX10_worthNow_29 : decode cX10_worthNow 29 = .ok (.invokevirtual 169, 3) := by decide +kernel
theorem dX10_worthNow_32 : decode cX10_worthNow 32 = .ok (.iadd, 1) := by decide +kernel
theorem dX10_worthNow_33 : decode cX10_worthNow 33 = .ok (.goto 10, 3) := by decide +kernel
theorem dX10_worthNow_36 : decode cX10_worthNow 36 = .ok (.iload_n 1, 1) := by decide +kernel
theorem dX10_worthNow_37 : decode cX10_worthNow 37 = .ok (.aload_n 0, 1) := by decide +kernel
theorem dX10_worthNow_38 : decode cX10_worthNow 38 = .ok (.iload_n 2, 1) := by decide +kernel
theorem dX10_worthNow_39 : decode cX10_worthNow 39 = .ok (.invokevirtual 169, 3) := by decide +kernel
theorem dX10_worthNow_42 : decode cX10_worthNow 42 = .ok (.isub, 1) := by decide +kernel
theorem dX10_worthNow_43 : decode cX10_worthNow 43 = .ok (.istore_n 1, 1) := by decide +kernel
theorem dX10_worthNow_44 : decode cX10_worthNow 44 = .ok (.iinc 2 1, 3) := by decide +kernel
theorem dX10_worthNow_47 : decode cX10_worthNow 47 = .ok (.goto (-43), 3) := by decide +kernel
theorem dX10_worthNow_50 : decode cX10_worthNow 50 = .ok (.iload_n 1, 1) := by decide +kernel
theorem dX10_worthNow_51 : decode cX10_worthNow 51 = .ok (.ireturn, 1) := by decide +kernel
theorem dX10_worth_0 : decode cX10_worth 0 = .ok (.aload_n 0, 1) := by decide +kernel
theorem dX10_worth_1 : decode cX10_worth 1 = .ok (.iconst 0, 1) := by decide +kernel
theorem dX10_worth_2 : decode cX10_worth 2 = .ok (.putfield 66, 3) := by decide +kernel
theorem dX10_worth_5 : decode cX10_worth 5 = .ok (.aload_n 0, 1) := by decide +kernel
theorem dX10_worth_6 : decode cX10_worth 6 = .ok (.invokevirtual 172, 3) := by decide +kernel
theorem dX10_worth_9 : decode cX10_worth 9 = .ok (.ireturn, 1) := by decide +kernel
theorem dX10_ended_0 : decode cX10_ended 0 = .ok (.aload_n 0, 1) := by decide +kernel
theorem dX10_ended_1 : decode cX10_ended 1 = .ok (.getfield 39, 3) := by decide +kernel
theorem dX10_ended_4 : decode cX10_ended 4 = .ok (.iload_n 1, 1) := by decide +kernel
theorem dX10_ended_5 : decode cX10_ended 5 = .ok (.iaload, 1) := by decide +kernel
theorem dX10_ended_6 : decode cX10_ended 6 = .ok (.ifCond .ne 24, 3) := by decide +kernel
theorem dX10_ended_9 : decode cX10_ended 9 = .ok (.aload_n 0, 1) := by decide +kernel
theorem dX10_ended_10 : decode cX10_ended 10 = .ok (.aload_n 0, 1) := by decide +kernel
theorem dX10_ended_11 : decode cX10_ended 11 = .ok (.getfield 119, 3) := by decide +kernel
theorem dX10_ended_14 : decode cX10_ended 14 = .ok (.invokevirtual 109, 3) := by decide +kernel
theorem dX10_ended_17 : decode cX10_ended 17 = .ok (.ifCond .eq 11, 3) := by decide +kernel
theorem dX10_ended_20 : decode cX10_ended 20 = .ok (.sipush (-30000), 3) := by decide +kernel
theorem dX10_ended_23 : decode cX10_ended 23 = .ok (.iload_n 1, 1) := by decide +kernel
theorem dX10_ended_24 : decode cX10_ended 24 = .ok (.isub, 1) := by decide +kernel
theorem dX10_ended_25 : decode cX10_ended 25 = .ok (.goto 4, 3) := by decide +kernel
theorem dX10_ended_28 : decode cX10_ended 28 = .ok (.iconst 0, 1) := by decide +kernel
theorem dX10_ended_29 : decode cX10_ended 29 = .ok (.ireturn, 1) := by decide +kernel
theorem dX10_ended_30 : decode cX10_ended 30 = .ok (.aload_n 0, 1) := by decide +kernel
theorem dX10_ended_31 : decode cX10_ended 31 = .ok (.getfield 122, 3) := by decide +kernel
theorem dX10_ended_34 : decode cX10_ended 34 = .ok (.bipush 100, 2) := by decide +kernel
theorem dX10_ended_36 : decode cX10_ended 36 = .ok (.if_icmp .ge 10, 3) := by decide +kernel
theorem dX10_ended_39 : decode cX10_ended 39 = .ok (.aload_n 0, 1) := by decide +kernel
theorem dX10_ended_40 : decode cX10_ended 40 = .ok (.invokevirtual 166, 3) := by decide +kernel
theorem dX10_ended_43 : decode cX10_ended 43 = .ok (.ifCond .eq 7, 3) := by decide +kernel
theorem dX10_ended_46 : decode cX10_ended 46 = .ok (.iconst 0, 1) := by decide +kernel
theorem dX10_ended_47 : decode cX10_ended 47 = .ok (.goto 4, 3) := by decide +kernel
theorem dX10_ended_50 : decode cX10_ended 50 = .ok (.iconst 1, 1) := by decide +kernel
theorem dX10_ended_51 : decode cX10_ended 51 = .ok (.ireturn, 1) := by decide +kernel
theorem dX10_makeMove_0 : decode cX10_makeMove 0 = .ok (.sipush 512, 3) := by decide +kernel
theorem dX10_makeMove_3 : decode cX10_makeMove 3 = .ok (.iload_n 1, 1) := by decide +kernel
theorem dX10_makeMove_4 : decode cX10_makeMove 4 = .ok (.imul, 1) := by decide +kernel
theorem dX10_makeMove_5 : decode cX10_makeMove 5 = .ok (.iload_n 2, 1) := by decide +kernel
theorem dX10_makeMove_6 : decode cX10_makeMove 6 = .ok (.iadd, 1) := by decide +kernel
theorem dX10_makeMove_7 : decode cX10_makeMove 7 = .ok (.istore_n 3, 1) := by decide +kernel
theorem dX10_makeMove_8 : decode cX10_makeMove 8 = .ok (.aload_n 0, 1) := by decide +kernel
theorem dX10_makeMove_9 : decode cX10_makeMove 9 = .ok (.aload_n 0, 1) := by decide +kernel
theorem dX10_makeMove_10 : decode cX10_makeMove 10 = .ok (.getfield 30, 3) := by decide +kernel
theorem dX10_makeMove_13 : decode cX10_makeMove 13 = .ok (.iload_n 3, 1) := by decide +kernel
theorem dX10_makeMove_14 : decode cX10_makeMove 14 = .ok (.iaload, 1) := by decide +kernel
theorem dX10_makeMove_15 : decode cX10_makeMove 15 = .ok (.aload_n 0, 1) := by decide +kernel
theorem dX10_makeMove_16 : decode cX10_makeMove 16 = .ok (.getfield 33, 3) := by decide +kernel
theorem dX10_makeMove_19 : decode cX10_makeMove 19 = .ok (.iload_n 3, 1) := by decide +kernel
theorem dX10_makeMove_20 : decode cX10_makeMove 20 = .ok (.iaload, 1) := by decide +kernel
theorem dX10_makeMove_21 : decode cX10_makeMove 21 = .ok (.aload_n 0, 1) := by decide +kernel
theorem dX10_makeMove_22 : decode cX10_makeMove 22 = .ok (.getfield 36, 3) := by decide +kernel
theorem dX10_makeMove_25 : decode cX10_makeMove 25 = .ok (.iload_n 3, 1) := by decide +kernel
theorem dX10_makeMove_26 : decode cX10_makeMove 26 = .ok (.iaload, 1) := by decide +kernel
theorem dX10_makeMove_27 : decode cX10_makeMove 27 = .ok (.invokevirtual 176, 3) := by decide +kernel
theorem dX10_makeMove_30 : decode cX10_makeMove 30 = .ok (.istore 4, 2) := by decide +kernel
theorem dX10_makeMove_32 : decode cX10_makeMove 32 = .ok (.return_, 1) := by decide +kernel
theorem dX10_valueOne_0 : decode cX10_valueOne 0 = .ok (.aload_n 0, 1) := by decide +kernel
theorem dX10_valueOne_1 : decode cX10_valueOne 1 = .ok (.iconst 1, 1) := by decide +kernel
theorem dX10_valueOne_2 : decode cX10_valueOne 2 = .ok (.invokevirtual 158, 3) := by decide +kernel
theorem dX10_valueOne_5 : decode cX10_valueOne 5 = .ok (.aload_n 0, 1) := by decide +kernel
theorem dX10_valueOne_6 : decode cX10_valueOne 6 = .ok (.iconst 1, 1) := by decide +kernel
theorem dX10_valueOne_7 : decode cX10_valueOne 7 = .ok (.invokevirtual 179, 3) := by decide +kernel
theorem dX10_valueOne_10 : decode cX10_valueOne 10 = .ok (.istore_n 1, 1) := by decide +kernel
theorem dX10_valueOne_11 : decode cX10_valueOne 11 = .ok (.iload_n 1, 1) := by decide +kernel
theorem dX10_valueOne_12 : decode cX10_valueOne 12 = .ok (.iconst 1, 1) := by decide +kernel
theorem dX10_valueOne_13 : decode cX10_valueOne 13 = .ok (.if_icmp .ne 8, 3) := by decide +kernel
theorem dX10_valueOne_16 : decode cX10_valueOne 16 = .ok (.ldc 182, 2) := by decide +kernel
theorem dX10_valueOne_18 : decode cX10_valueOne 18 = .ok (.goto 4, 3) := by decide +kernel
theorem dX10_valueOne_21 : decode cX10_valueOne 21 = .ok (.iload_n 1, 1) := by decide +kernel
theorem dX10_valueOne_22 : decode cX10_valueOne 22 = .ok (.istore_n 2, 1) := by decide +kernel
theorem dX10_valueOne_23 : decode cX10_valueOne 23 = .ok (.iconst 0, 1) := by decide +kernel
theorem dX10_valueOne_24 : decode cX10_valueOne 24 = .ok (.istore_n 3, 1) := by decide +kernel
theorem dX10_valueOne_25 : decode cX10_valueOne 25 = .ok (.iload_n 3, 1) := by decide +kernel
theorem dX10_valueOne_26 : decode cX10_valueOne 26 = .ok (.aload_n 0, 1) := by decide +kernel
theorem dX10_valueOne_27 : decode cX10_valueOne 27 = .ok (.getfield 39, 3) := by decide +kernel
theorem dX10_valueOne_30 : decode cX10_valueOne 30 = .ok (.iconst 1, 1) := by decide +kernel
theorem dX10_valueOne_31 : decode cX10_valueOne 31 = .ok (.iaload, 1) := by decide +kernel
theorem dX10_valueOne_32 : decode cX10_valueOne 32 = .ok (.if_icmp .ge 45, 3) := by decide +kernel
theorem dX10_valueOne_35 : decode cX10_valueOne 35 = .ok (.iload_n 1, 1) := by decide +kernel
theorem dX10_valueOne_36 : decode cX10_valueOne 36 = .ok (.iconst 1, 1) := by decide +kernel
theorem dX10_valueOne_37 : decode cX10_valueOne 37 = .ok (.if_icmp .ne 40, 3) := by decide +kernel
theorem dX10_valueOne_40 : decode cX10_valueOne 40 = .ok (.aload_n 0, 1) := by decide +kernel
theorem dX10_valueOne_41 : decode cX10_valueOne 41 = .ok (.iconst 1, 1) := by decide +kernel
theorem dX10_valueOne_42 : decode cX10_valueOne 42 = .ok (.iload_n 3, 1) := by decide +kernel
theorem dX10_valueOne_43 : decode cX10_valueOne 43 = .ok (.invokevirtual 183, 3) := by decide +kernel
theorem dX10_valueOne_46 : decode cX10_valueOne 46 = .ok (.iconst 0, 1) := by decide +kernel
theorem dX10_valueOne_47 : decode cX10_valueOne 47 = .ok (.aload_n 0, 1) := by decide +kernel
theorem dX10_valueOne_48 : decode cX10_valueOne 48 = .ok (.invokevirtual 172, 3) := by decide +kernel
theorem dX10_valueOne_51 : decode cX10_valueOne 51 = .ok (.isub, 1) := by decide +kernel
theorem dX10_valueOne_52 : decode cX10_valueOne 52 = .ok (.istore 4, 2) := by decide +kernel
theorem dX10_valueOne_54 : decode cX10_valueOne 54 = .ok (.aload_n 0, 1) := by decide +kernel
theorem dX10_valueOne_55 : decode cX10_valueOne 55 = .ok (.invokevirtual 186, 3) := by decide +kernel
theorem dX10_valueOne_58 : decode cX10_valueOne 58 = .ok (.iload 4, 2) := by decide +kernel
theorem dX10_valueOne_60 : decode cX10_valueOne 60 = .ok (.iload_n 2, 1) := by decide +kernel
theorem dX10_valueOne_61 : decode cX10_valueOne 61 = .ok (.if_icmp .le 8, 3) := by decide +kernel
theorem dX10_valueOne_64 : decode cX10_valueOne 64 = .ok (.iload 4, 2) := by decide +kernel
theorem dX10_valueOne_66 : decode cX10_valueOne 66 = .ok (.goto 4, 3) := by decide +kernel
theorem dX10_valueOne_69 : decode cX10_valueOne 69 = .ok (.iload_n 2, 1) := by decide +kernel
theorem dX10_valueOne_70 : decode cX10_valueOne 70 = .ok (.istore_n 2, 1) := by decide +kernel
theorem dX10_valueOne_71 : decode cX10_valueOne 71 = .ok (.iinc 3 1, 3) := by decide +kernel
theorem dX10_valueOne_74 : decode cX10_valueOne 74 = .ok (.goto (-49), 3) := by decide +kernel
theorem dX10_valueOne_77 : decode cX10_valueOne 77 = .ok (.iload_n 2, 1) := by decide +kernel
theorem dX10_valueOne_78 : decode cX10_valueOne 78 = .ok (.ireturn, 1) := by decide +kernel
theorem dX10_valueTwo_0 : decode cX10_valueTwo 0 = .ok (.aload_n 0, 1) := by decide +kernel
theorem dX10_valueTwo_1 : decode cX10_valueTwo 1 = .ok (.iconst 2, 1) := by decide +kernel
theorem dX10_valueTwo_2 : decode cX10_valueTwo 2 = .ok (.invokevirtual 158, 3) := by decide +kernel
theorem dX10_valueTwo_5 : decode cX10_valueTwo 5 = .ok (.aload_n 0, 1) := by decide +kernel
theorem dX10_valueTwo_6 : decode cX10_valueTwo 6 = .ok (.iconst 2, 1) := by decide +kernel
theorem dX10_valueTwo_7 : decode cX10_valueTwo 7 = .ok (.invokevirtual 179, 3) := by decide +kernel
theorem dX10_valueTwo_10 : decode cX10_valueTwo 10 = .ok (.istore_n 1, 1) := by decide +kernel
theorem dX10_valueTwo_11 : decode cX10_valueTwo 11 = .ok (.iload_n 1, 1) := by decide +kernel
theorem dX10_valueTwo_12 : decode cX10_valueTwo 12 = .ok (.iconst 1, 1) := by decide +kernel
theorem dX10_valueTwo_13 : decode cX10_valueTwo 13 = .ok (.if_icmp .ne 8, 3) := by decide +kernel
theorem dX10_valueTwo_16 : decode cX10_valueTwo 16 = .ok (.ldc 182, 2) := by decide +kernel
theorem dX10_valueTwo_18 : decode cX10_valueTwo 18 = .ok (.goto 4, 3) := by decide +kernel
theorem dX10_valueTwo_21 : decode cX10_valueTwo 21 = .ok (.iload_n 1, 1) := by decide +kernel
theorem dX10_valueTwo_22 : decode cX10_valueTwo 22 = .ok (.istore_n 2, 1) := by decide +kernel
theorem dX10_valueTwo_23 : decode cX10_valueTwo 23 = .ok (.iconst 0, 1) := by decide +kernel
theorem dX10_valueTwo_24 : decode cX10_valueTwo 24 = .ok (.istore_n 3, 1) := by decide +kernel
theorem dX10_valueTwo_25 : decode cX10_valueTwo 25 = .ok (.iload_n 3, 1) := by decide +kernel
theorem dX10_valueTwo_26 : decode cX10_valueTwo 26 = .ok (.aload_n 0, 1) := by decide +kernel
theorem dX10_valueTwo_27 : decode cX10_valueTwo 27 = .ok (.getfield 39, 3) := by decide +kernel
theorem dX10_valueTwo_30 : decode cX10_valueTwo 30 = .ok (.iconst 2, 1) := by decide +kernel
theorem dX10_valueTwo_31 : decode cX10_valueTwo 31 = .ok (.iaload, 1) := by decide +kernel
theorem dX10_valueTwo_32 : decode cX10_valueTwo 32 = .ok (.if_icmp .ge 45, 3) := by decide +kernel
theorem dX10_valueTwo_35 : decode cX10_valueTwo 35 = .ok (.iload_n 1, 1) := by decide +kernel
theorem dX10_valueTwo_36 : decode cX10_valueTwo 36 = .ok (.iconst 1, 1) := by decide +kernel
theorem dX10_valueTwo_37 : decode cX10_valueTwo 37 = .ok (.if_icmp .ne 40, 3) := by decide +kernel
theorem dX10_valueTwo_40 : decode cX10_valueTwo 40 = .ok (.aload_n 0, 1) := by decide +kernel
theorem dX10_valueTwo_41 : decode cX10_valueTwo 41 = .ok (.iconst 2, 1) := by decide +kernel
theorem dX10_valueTwo_42 : decode cX10_valueTwo 42 = .ok (.iload_n 3, 1) := by decide +kernel
theorem dX10_valueTwo_43 : decode cX10_valueTwo 43 = .ok (.invokevirtual 183, 3) := by decide +kernel
theorem dX10_valueTwo_46 : decode cX10_valueTwo 46 = .ok (.iconst 0, 1) := by decide +kernel
theorem dX10_valueTwo_47 : decode cX10_valueTwo 47 = .ok (.aload_n 0, 1) := by decide +kernel
theorem dX10_valueTwo_48 : decode cX10_valueTwo 48 = .ok (.invokevirtual 189, 3) := by decide +kernel
theorem dX10_valueTwo_51 : decode cX10_valueTwo 51 = .ok (.isub, 1) := by decide +kernel
theorem dX10_valueTwo_52 : decode cX10_valueTwo 52 = .ok (.istore 4, 2) := by decide +kernel
theorem dX10_valueTwo_54 : decode cX10_valueTwo 54 = .ok (.aload_n 0, 1) := by decide +kernel
theorem dX10_valueTwo_55 : decode cX10_valueTwo 55 = .ok (.invokevirtual 186, 3) := by decide +kernel
theorem dX10_valueTwo_58 : decode cX10_valueTwo 58 = .ok (.iload 4, 2) := by decide +kernel
theorem dX10_valueTwo_60 : decode cX10_valueTwo 60 = .ok (.iload_n 2, 1) := by decide +kernel
theorem dX10_valueTwo_61 : decode cX10_valueTwo 61 = .ok (.if_icmp .le 8, 3) := by decide +kernel
theorem dX10_valueTwo_64 : decode cX10_valueTwo 64 = .ok (.iload 4, 2) := by decide +kernel
theorem dX10_valueTwo_66 : decode cX10_valueTwo 66 = .ok (.goto 4, 3) := by decide +kernel
theorem dX10_valueTwo_69 : decode cX10_valueTwo 69 = .ok (.iload_n 2, 1) := by decide +kernel
theorem dX10_valueTwo_70 : decode cX10_valueTwo 70 = .ok (.istore_n 2, 1) := by decide +kernel
theorem dX10_valueTwo_71 : decode cX10_valueTwo 71 = .ok (.iinc 3 1, 3) := by decide +kernel
theorem dX10_valueTwo_74 : decode cX10_valueTwo 74 = .ok (.goto (-49), 3) := by decide +kernel
theorem dX10_valueTwo_77 : decode cX10_valueTwo 77 = .ok (.iload_n 2, 1) := by decide +kernel
theorem dX10_valueTwo_78 : decode cX10_valueTwo 78 = .ok (.ireturn, 1) := by decide +kernel
theorem dX10_behind_0 : decode cX10_behind 0 = .ok (.aload_n 0, 1) := by decide +kernel
theorem dX10_behind_1 : decode cX10_behind 1 = .ok (.iload_n 1, 1) := by decide +kernel
theorem dX10_behind_2 : decode cX10_behind 2 = .ok (.iload_n 2, 1) := by decide +kernel
theorem dX10_behind_3 : decode cX10_behind 3 = .ok (.invokevirtual 183, 3) := by decide +kernel
theorem dX10_behind_6 : decode cX10_behind 6 = .ok (.iload_n 1, 1) := by decide +kernel
theorem dX10_behind_7 : decode cX10_behind 7 = .ok (.iconst 1, 1) := by decide +kernel
theorem dX10_behind_8 : decode cX10_behind 8 = .ok (.if_icmp .ne 10, 3) := by decide +kernel
theorem dX10_behind_11 : decode cX10_behind 11 = .ok (.aload_n 0, 1) := by decide +kernel
theorem dX10_behind_12 : decode cX10_behind 12 = .ok (.invokevirtual 172, 3) := by decide +kernel
theorem dX10_behind_15 : decode cX10_behind 15 = .ok (.goto 19, 3) := by decide +kernel
theorem dX10_behind_18 : decode cX10_behind 18 = .ok (.iload_n 1, 1) := by decide +kernel
theorem dX10_behind_19 : decode cX10_behind 19 = .ok (.iconst 2, 1) := by decide +kernel
theorem dX10_behind_20 : decode cX10_behind 20 = .ok (.if_icmp .ne 10, 3) := by decide +kernel
theorem dX10_behind_23 : decode cX10_behind 23 = .ok (.aload_n 0, 1) := by decide +kernel
theorem dX10_behind_24 : decode cX10_behind 24 = .ok (.invokevirtual 189, 3) := by decide +kernel
theorem dX10_behind_27 : decode cX10_behind 27 = .ok (.goto 7, 3) := by decide +kernel
theorem dX10_behind_30 : decode cX10_behind 30 = .ok (.aload_n 0, 1) := by decide +kernel
theorem dX10_behind_31 : decode cX10_behind 31 = .ok (.invokevirtual 192, 3) := by decide +kernel
theorem dX10_behind_34 : decode cX10_behind 34 = .ok (.istore_n 3, 1) := by decide +kernel
theorem dX10_behind_35 : decode cX10_behind 35 = .ok (.aload_n 0, 1) := by decide +kernel
theorem dX10_behind_36 : decode cX10_behind 36 = .ok (.invokevirtual 186, 3) := by decide +kernel
theorem dX10_behind_39 : decode cX10_behind 39 = .ok (.iload_n 3, 1) := by decide +kernel
theorem dX10_behind_40 : decode cX10_behind 40 = .ok (.ireturn, 1) := by decide +kernel
theorem dX10_search_0 : decode cX10_search 0 = .ok (.aload_n 0, 1) := by decide +kernel
theorem dX10_search_1 : decode cX10_search 1 = .ok (.iload_n 1, 1) := by decide +kernel
theorem dX10_search_2 : decode cX10_search 2 = .ok (.iconst 1, 1) := by decide +kernel
theorem dX10_search_3 : decode cX10_search 3 = .ok (.if_icmp .lt 8, 3) := by decide +kernel
theorem dX10_search_6 : decode cX10_search 6 = .ok (.iload_n 1, 1) := by decide +kernel
theorem dX10_search_7 : decode cX10_search 7 = .ok (.iconst 3, 1) := by decide +kernel
theorem dX10_search_8 : decode cX10_search 8 = .ok (.if_icmp .le 7, 3) := by decide +kernel
theorem dX10_search_11 : decode cX10_search 11 = .ok (.iconst 1, 1) := by decide +kernel
theorem dX10_search_12 : decode cX10_search 12 = .ok (.goto 4, 3) := by decide +kernel
theorem dX10_search_15 : decode cX10_search 15 = .ok (.iconst 0, 1) := by decide +kernel
theorem dX10_search_16 : decode cX10_search 16 = .ok (.putfield 66, 3) := by decide +kernel
theorem dX10_search_19 : decode cX10_search 19 = .ok (.aload_n 0, 1) := by decide +kernel
theorem dX10_search_20 : decode cX10_search 20 = .ok (.getfield 66, 3) := by decide +kernel
theorem dX10_search_23 : decode cX10_search 23 = .ok (.ifCond .le 5, 3) := by decide +kernel
theorem dX10_search_26 : decode cX10_search 26 = .ok (.iconst 0, 1) := by decide +kernel
theorem dX10_search_27 : decode cX10_search 27 = .ok (.ireturn, 1) := by decide +kernel
theorem dX10_search_28 : decode cX10_search 28 = .ok (.aload_n 0, 1) := by decide +kernel
theorem dX10_search_29 : decode cX10_search 29 = .ok (.iconst (-1), 1) := by decide +kernel
theorem dX10_search_30 : decode cX10_search 30 = .ok (.putfield 42, 3) := by decide +kernel
theorem dX10_search_33 : decode cX10_search 33 = .ok (.aload_n 0, 1) := by decide +kernel
theorem dX10_search_34 : decode cX10_search 34 = .ok (.iconst (-1), 1) := by decide +kernel
theorem dX10_search_35 : decode cX10_search 35 = .ok (.putfield 45, 3) := by decide +kernel
theorem dX10_search_38 : decode cX10_search 38 = .ok (.aload_n 0, 1) := by decide +kernel
theorem dX10_search_39 : decode cX10_search 39 = .ok (.iconst (-1), 1) := by decide +kernel
theorem dX10_search_40 : decode cX10_search 40 = .ok (.putfield 48, 3) := by decide +kernel
theorem dX10_search_43 : decode cX10_search 43 = .ok (.aload_n 0, 1) := by decide +kernel
theorem dX10_search_44 : decode cX10_search 44 = .ok (.iload_n 1, 1) := by decide +kernel
theorem dX10_search_45 : decode cX10_search 45 = .ok (.invokevirtual 158, 3) := by decide +kernel
theorem dX10_search_48 : decode cX10_search 48 = .ok (.ldc 195, 2) := by decide +kernel
theorem dX10_search_50 : decode cX10_search 50 = .ok (.istore_n 2, 1) := by decide +kernel
theorem dX10_search_51 : decode cX10_search 51 = .ok (.iconst 0, 1) := by decide +kernel
theorem dX10_search_52 : decode cX10_search 52 = .ok (.istore_n 3, 1) := by decide +kernel
theorem dX10_search_53 : decode cX10_search 53 = .ok (.iload_n 3, 1) := by decide +kernel
theorem dX10_search_54 : decode cX10_search 54 = .ok (.aload_n 0, 1) := by decide +kernel
theorem dX10_search_55 : decode cX10_search 55 = .ok (.getfield 39, 3) := by decide +kernel
theorem dX10_search_58 : decode cX10_search 58 = .ok (.iload_n 1, 1) := by decide +kernel
theorem dX10_search_59 : decode cX10_search 59 = .ok (.iaload, 1) := by decide +kernel
theorem dX10_search_60 : decode cX10_search 60 = .ok (.if_icmp .ge 74, 3) := by decide +kernel
theorem dX10_search_63 : decode cX10_search 63 = .ok (.aload_n 0, 1) := by decide +kernel
theorem dX10_search_64 : decode cX10_search 64 = .ok (.iload_n 1, 1) := by decide +kernel
theorem dX10_search_65 : decode cX10_search 65 = .ok (.iload_n 3, 1) := by decide +kernel
theorem dX10_search_66 : decode cX10_search 66 = .ok (.invokevirtual 196, 3) := by decide +kernel
theorem dX10_search_69 : decode cX10_search 69 = .ok (.istore 4, 2) := by decide +kernel
theorem dX10_search_71 : decode cX10_search 71 = .ok (.iload 4, 2) := by decide +kernel
theorem dX10_search_73 : decode cX10_search 73 = .ok (.iload_n 2, 1) := by decide +kernel
theorem dX10_search_74 : decode cX10_search 74 = .ok (.if_icmp .ge 54, 3) := by decide +kernel
theorem dX10_search_77 : decode cX10_search 77 = .ok (.iload 4, 2) := by decide +kernel
theorem dX10_search_79 : decode cX10_search 79 = .ok (.istore_n 2, 1) := by decide +kernel
theorem dX10_search_80 : decode cX10_search 80 = .ok (.aload_n 0, 1) := by decide +kernel
theorem dX10_search_81 : decode cX10_search 81 = .ok (.aload_n 0, 1) := by decide +kernel
theorem dX10_search_82 : decode cX10_search 82 = .ok (.getfield 30, 3) := by decide +kernel
theorem dX10_search_85 : decode cX10_search 85 = .ok (.sipush 512, 3) := by decide +kernel
theorem dX10_search_88 : decode cX10_search 88 = .ok (.iload_n 1, 1) := by decide +kernel
theorem dX10_search_89 : decode cX10_search 89 = .ok (.imul, 1) := by decide +kernel
theorem dX10_search_90 : decode cX10_search 90 = .ok (.iload_n 3, 1) := by decide +kernel
theorem dX10_search_91 : decode cX10_search 91 = .ok (.iadd, 1) := by decide +kernel
theorem dX10_search_92 : decode cX10_search 92 = .ok (.iaload, 1) := by decide +kernel
theorem dX10_search_93 : decode cX10_search 93 = .ok (.putfield 42, 3) := by decide +kernel
theorem dX10_search_96 : decode cX10_search 96 = .ok (.aload_n 0, 1) := by decide +kernel
theorem dX10_search_97 : decode cX10_search 97 = .ok (.aload_n 0, 1) := by decide +kernel
theorem dX10_search_98 : decode cX10_search 98 = .ok (.getfield 33, 3) := by decide +kernel
theorem dX10_search_101 : decode cX10_search 101 = .ok (.sipush 512, 3) := by decide +kernel
theorem dX10_search_104 : decode cX10_search 104 = .ok (.iload_n 1, 1) := by decide +kernel
theorem dX10_search_105 : decode cX10_search 105 = .ok (.imul, 1) := by decide +kernel
theorem dX10_search_106 : decode cX10_search 106 = .ok (.iload_n 3, 1) := by decide +kernel
theorem dX10_search_107 : decode cX10_search 107 = .ok (.iadd, 1) := by decide +kernel
theorem dX10_search_108 : decode cX10_search 108 = .ok (.iaload, 1) := by decide +kernel
theorem dX10_search_109 : decode cX10_search 109 = .ok (.putfield 45, 3) := by decide +kernel
theorem dX10_search_112 : decode cX10_search 112 = .ok (.aload_n 0, 1) := by decide +kernel
theorem dX10_search_113 : decode cX10_search 113 = .ok (.aload_n 0, 1) := by decide +kernel
theorem dX10_search_114 : decode cX10_search 114 = .ok (.getfield 36, 3) := by decide +kernel
theorem dX10_search_117 : decode cX10_search 117 = .ok (.sipush 512, 3) := by decide +kernel
theorem dX10_search_120 : decode cX10_search 120 = .ok (.iload_n 1, 1) := by decide +kernel
theorem dX10_search_121 : decode cX10_search 121 = .ok (.imul, 1) := by decide +kernel
theorem dX10_search_122 : decode cX10_search 122 = .ok (.iload_n 3, 1) := by decide +kernel
theorem dX10_search_123 : decode cX10_search 123 = .ok (.iadd, 1) := by decide +kernel
theorem dX10_search_124 : decode cX10_search 124 = .ok (.iaload, 1) := by decide +kernel
theorem dX10_search_125 : decode cX10_search 125 = .ok (.putfield 48, 3) := by decide +kernel
theorem dX10_search_128 : decode cX10_search 128 = .ok (.iinc 3 1, 3) := by decide +kernel
theorem dX10_search_131 : decode cX10_search 131 = .ok (.goto (-78), 3) := by decide +kernel
theorem dX10_search_134 : decode cX10_search 134 = .ok (.aload_n 0, 1) := by decide +kernel
theorem dX10_search_135 : decode cX10_search 135 = .ok (.iload_n 1, 1) := by decide +kernel
theorem dX10_search_136 : decode cX10_search 136 = .ok (.invokevirtual 179, 3) := by decide +kernel
theorem dX10_search_139 : decode cX10_search 139 = .ok (.istore_n 3, 1) := by decide +kernel
theorem dX10_search_140 : decode cX10_search 140 = .ok (.iload_n 3, 1) := by decide +kernel
theorem dX10_search_141 : decode cX10_search 141 = .ok (.iconst 1, 1) := by decide +kernel
theorem dX10_search_142 : decode cX10_search 142 = .ok (.if_icmp .ne 9, 3) := by decide +kernel
theorem dX10_search_145 : decode cX10_search 145 = .ok (.iconst 0, 1) := by decide +kernel
theorem dX10_search_146 : decode cX10_search 146 = .ok (.iload_n 2, 1) := by decide +kernel
theorem dX10_search_147 : decode cX10_search 147 = .ok (.isub, 1) := by decide +kernel
theorem dX10_search_148 : decode cX10_search 148 = .ok (.goto 4, 3) := by decide +kernel
theorem dX10_search_151 : decode cX10_search 151 = .ok (.iload_n 3, 1) := by decide +kernel
theorem dX10_search_152 : decode cX10_search 152 = .ok (.ireturn, 1) := by decide +kernel
theorem dX10_chosen_0 : decode cX10_chosen 0 = .ok (.aload_n 0, 1) := by decide +kernel
theorem dX10_chosen_1 : decode cX10_chosen 1 = .ok (.iload_n 1, 1) := by decide +kernel
theorem dX10_chosen_2 : decode cX10_chosen 2 = .ok (.ifCond .lt 8, 3) := by decide +kernel
theorem dX10_chosen_5 : decode cX10_chosen 5 = .ok (.iload_n 1, 1) := by decide +kernel
theorem dX10_chosen_6 : decode cX10_chosen 6 = .ok (.iconst 2, 1) := by decide +kernel
theorem dX10_chosen_7 : decode cX10_chosen 7 = .ok (.if_icmp .le 7, 3) := by decide +kernel
theorem dX10_chosen_10 : decode cX10_chosen 10 = .ok (.iconst 1, 1) := by decide +kernel
theorem dX10_chosen_11 : decode cX10_chosen 11 = .ok (.goto 4, 3) := by decide +kernel
theorem dX10_chosen_14 : decode cX10_chosen 14 = .ok (.iconst 0, 1) := by decide +kernel
theorem dX10_chosen_15 : decode cX10_chosen 15 = .ok (.putfield 66, 3) := by decide +kernel
theorem dX10_chosen_18 : decode cX10_chosen 18 = .ok (.aload_n 0, 1) := by decide +kernel
theorem dX10_chosen_19 : decode cX10_chosen 19 = .ok (.getfield 66, 3) := by decide +kernel
theorem dX10_chosen_22 : decode cX10_chosen 22 = .ok (.ifCond .le 7, 3) := by decide +kernel
theorem dX10_chosen_25 : decode cX10_chosen 25 = .ok (.iconst 0, 1) := by decide +kernel
theorem dX10_chosen_26 : decode cX10_chosen 26 = .ok (.goto 30, 3) := by decide +kernel
theorem dX10_chosen_29 : decode cX10_chosen 29 = .ok (.iload_n 1, 1) := by decide +kernel
theorem dX10_chosen_30 : decode cX10_chosen 30 = .ok (.ifCond .ne 10, 3) := by decide +kernel
theorem dX10_chosen_33 : decode cX10_chosen 33 = .ok (.aload_n 0, 1) := by decide +kernel
theorem dX10_chosen_34 : decode cX10_chosen 34 = .ok (.getfield 42, 3) := by decide +kernel
theorem dX10_chosen_37 : decode cX10_chosen 37 = .ok (.goto 19, 3) := by decide +kernel
theorem dX10_chosen_40 : decode cX10_chosen 40 = .ok (.iload_n 1, 1) := by decide +kernel
theorem dX10_chosen_41 : decode cX10_chosen 41 = .ok (.iconst 1, 1) := by decide +kernel
theorem dX10_chosen_42 : decode cX10_chosen 42 = .ok (.if_icmp .ne 10, 3) := by decide +kernel
theorem dX10_chosen_45 : decode cX10_chosen 45 = .ok (.aload_n 0, 1) := by decide +kernel
theorem dX10_chosen_46 : decode cX10_chosen 46 = .ok (.getfield 45, 3) := by decide +kernel
theorem dX10_chosen_49 : decode cX10_chosen 49 = .ok (.goto 7, 3) := by decide +kernel
theorem dX10_chosen_52 : decode cX10_chosen 52 = .ok (.aload_n 0, 1) := by decide +kernel
theorem dX10_chosen_53 : decode cX10_chosen 53 = .ok (.getfield 48, 3) := by decide +kernel
theorem dX10_chosen_56 : decode cX10_chosen 56 = .ok (.ireturn, 1) := by decide +kernel
theorem dX10_waysOne_0 : decode cX10_waysOne 0 = .ok (.aload_n 0, 1) := by decide +kernel
theorem dX10_waysOne_1 : decode cX10_waysOne 1 = .ok (.iconst 1, 1) := by decide +kernel
theorem dX10_waysOne_2 : decode cX10_waysOne 2 = .ok (.invokevirtual 158, 3) := by decide +kernel
theorem dX10_waysOne_5 : decode cX10_waysOne 5 = .ok (.aload_n 0, 1) := by decide +kernel
theorem dX10_waysOne_6 : decode cX10_waysOne 6 = .ok (.getfield 39, 3) := by decide +kernel
theorem dX10_waysOne_9 : decode cX10_waysOne 9 = .ok (.iconst 1, 1) := by decide +kernel
theorem dX10_waysOne_10 : decode cX10_waysOne 10 = .ok (.iaload, 1) := by decide +kernel
theorem dX10_waysOne_11 : decode cX10_waysOne 11 = .ok (.ireturn, 1) := by decide +kernel
theorem dX10_waysTwo_0 : decode cX10_waysTwo 0 = .ok (.aload_n 0, 1) := by decide +kernel
theorem dX10_waysTwo_1 : decode cX10_waysTwo 1 = .ok (.iconst 2, 1) := by decide +kernel
theorem dX10_waysTwo_2 : decode cX10_waysTwo 2 = .ok (.invokevirtual 158, 3) := by decide +kernel
theorem dX10_waysTwo_5 : decode cX10_waysTwo 5 = .ok (.iconst 0, 1) := by decide +kernel
theorem dX10_waysTwo_6 : decode cX10_waysTwo 6 = .ok (.istore_n 1, 1) := by decide +kernel
theorem dX10_waysTwo_7 : decode cX10_waysTwo 7 = .ok (.iconst 0, 1) := by decide +kernel
theorem dX10_waysTwo_8 : decode cX10_waysTwo 8 = .ok (.istore_n 2, 1) := by decide +kernel
theorem dX10_waysTwo_9 : decode cX10_waysTwo 9 = .ok (.iload_n 2, 1) := by decide +kernel
theorem dX10_waysTwo_10 : decode cX10_waysTwo 10 = .ok (.aload_n 0, 1) := by decide +kernel
theorem dX10_waysTwo_11 : decode cX10_waysTwo 11 = .ok (.getfield 39, 3) := by decide +kernel
theorem dX10_waysTwo_14 : decode cX10_waysTwo 14 = .ok (.iconst 2, 1) := by decide +kernel
theorem dX10_waysTwo_15 : decode cX10_waysTwo 15 = .ok (.iaload, 1) := by decide +kernel
theorem dX10_waysTwo_16 : decode cX10_waysTwo 16 = .ok (.if_icmp .ge 26, 3) := by decide +kernel
theorem dX10_waysTwo_19 : decode cX10_waysTwo 19 = .ok (.aload_n 0, 1) := by decide +kernel
theorem dX10_waysTwo_20 : decode cX10_waysTwo 20 = .ok (.iconst 2, 1) := by decide +kernel
theorem dX10_waysTwo_21 : decode cX10_waysTwo 21 = .ok (.iload_n 2, 1) := by decide +kernel
theorem dX10_waysTwo_22 : decode cX10_waysTwo 22 = .ok (.invokevirtual 183, 3) := by decide +kernel
theorem dX10_waysTwo_25 : decode cX10_waysTwo 25 = .ok (.iload_n 1, 1) := by decide +kernel
theorem dX10_waysTwo_26 : decode cX10_waysTwo 26 = .ok (.aload_n 0, 1) := by decide +kernel
theorem dX10_waysTwo_27 : decode cX10_waysTwo 27 = .ok (.invokevirtual 199, 3) := by decide +kernel
theorem dX10_waysTwo_30 : decode cX10_waysTwo 30 = .ok (.iadd, 1) := by decide +kernel
theorem dX10_waysTwo_31 : decode cX10_waysTwo 31 = .ok (.istore_n 1, 1) := by decide +kernel
theorem dX10_waysTwo_32 : decode cX10_waysTwo 32 = .ok (.aload_n 0, 1) := by decide +kernel
theorem dX10_waysTwo_33 : decode cX10_waysTwo 33 = .ok (.invokevirtual 186, 3) := by decide +kernel
theorem dX10_waysTwo_36 : decode cX10_waysTwo 36 = .ok (.iinc 2 1, 3) := by decide +kernel
theorem dX10_waysTwo_39 : decode cX10_waysTwo 39 = .ok (.goto (-30), 3) := by decide +kernel
theorem dX10_waysTwo_42 : decode cX10_waysTwo 42 = .ok (.iload_n 1, 1) := by decide +kernel
theorem dX10_waysTwo_43 : decode cX10_waysTwo 43 = .ok (.ireturn, 1) := by decide +kernel
theorem dX10_waysThree_0 : decode cX10_waysThree 0 = .ok (.aload_n 0, 1) := by decide +kernel
theorem dX10_waysThree_1 : decode cX10_waysThree 1 = .ok (.iconst 3, 1) := by decide +kernel
theorem dX10_waysThree_2 : decode cX10_waysThree 2 = .ok (.invokevirtual 158, 3) := by decide +kernel
theorem dX10_waysThree_5 : decode cX10_waysThree 5 = .ok (.iconst 0, 1) := by decide +kernel
theorem dX10_waysThree_6 : decode cX10_waysThree 6 = .ok (.istore_n 1, 1) := by decide +kernel
theorem dX10_waysThree_7 : decode cX10_waysThree 7 = .ok (.iconst 0, 1) := by decide +kernel
theorem dX10_waysThree_8 : decode cX10_waysThree 8 = .ok (.istore_n 2, 1) := by decide +kernel
theorem dX10_waysThree_9 : decode cX10_waysThree 9 = .ok (.iload_n 2, 1) := by decide +kernel
theorem dX10_waysThree_10 : decode cX10_waysThree 10 = .ok (.aload_n 0, 1) := by decide +kernel
theorem dX10_waysThree_11 : decode cX10_waysThree 11 = .ok (.getfield 39, 3) := by decide +kernel
theorem dX10_waysThree_14 : decode cX10_waysThree 14 = .ok (.iconst 3, 1) := by decide +kernel
theorem dX10_waysThree_15 : decode cX10_waysThree 15 = .ok (.iaload, 1) := by decide +kernel
theorem dX10_waysThree_16 : decode cX10_waysThree 16 = .ok (.if_icmp .ge 26, 3) := by decide +kernel
theorem dX10_waysThree_19 : decode cX10_waysThree 19 = .ok (.aload_n 0, 1) := by decide +kernel
theorem dX10_waysThree_20 : decode cX10_waysThree 20 = .ok (.iconst 3, 1) := by decide +kernel
theorem dX10_waysThree_21 : decode cX10_waysThree 21 = .ok (.iload_n 2, 1) := by decide +kernel
theorem dX10_waysThree_22 : decode cX10_waysThree 22 = .ok (.invokevirtual 183, 3) := by decide +kernel
theorem dX10_waysThree_25 : decode cX10_waysThree 25 = .ok (.iload_n 1, 1) := by decide +kernel
theorem dX10_waysThree_26 : decode cX10_waysThree 26 = .ok (.aload_n 0, 1) := by decide +kernel
theorem dX10_waysThree_27 : decode cX10_waysThree 27 = .ok (.invokevirtual 202, 3) := by decide +kernel
theorem dX10_waysThree_30 : decode cX10_waysThree 30 = .ok (.iadd, 1) := by decide +kernel
theorem dX10_waysThree_31 : decode cX10_waysThree 31 = .ok (.istore_n 1, 1) := by decide +kernel
theorem dX10_waysThree_32 : decode cX10_waysThree 32 = .ok (.aload_n 0, 1) := by decide +kernel
theorem dX10_waysThree_33 : decode cX10_waysThree 33 = .ok (.invokevirtual 186, 3) := by decide +kernel
theorem dX10_waysThree_36 : decode cX10_waysThree 36 = .ok (.iinc 2 1, 3) := by decide +kernel
theorem dX10_waysThree_39 : decode cX10_waysThree 39 = .ok (.goto (-30), 3) := by decide +kernel
theorem dX10_waysThree_42 : decode cX10_waysThree 42 = .ok (.iload_n 1, 1) := by decide +kernel
theorem dX10_waysThree_43 : decode cX10_waysThree 43 = .ok (.ireturn, 1) := by decide +kernel
theorem dX10_ways_0 : decode cX10_ways 0 = .ok (.aload_n 0, 1) := by decide +kernel
theorem dX10_ways_1 : decode cX10_ways 1 = .ok (.iload_n 1, 1) := by decide +kernel
theorem dX10_ways_2 : decode cX10_ways 2 = .ok (.ifCond .lt 8, 3) := by decide +kernel
theorem dX10_ways_5 : decode cX10_ways 5 = .ok (.iload_n 1, 1) := by decide +kernel
theorem dX10_ways_6 : decode cX10_ways 6 = .ok (.iconst 3, 1) := by decide +kernel
theorem dX10_ways_7 : decode cX10_ways 7 = .ok (.if_icmp .le 7, 3) := by decide +kernel
theorem dX10_ways_10 : decode cX10_ways 10 = .ok (.iconst 1, 1) := by decide +kernel
theorem dX10_ways_11 : decode cX10_ways 11 = .ok (.goto 4, 3) := by decide +kernel
theorem dX10_ways_14 : decode cX10_ways 14 = .ok (.iconst 0, 1) := by decide +kernel
theorem dX10_ways_15 : decode cX10_ways 15 = .ok (.putfield 66, 3) := by decide +kernel
theorem dX10_ways_18 : decode cX10_ways 18 = .ok (.aload_n 0, 1) := by decide +kernel
theorem dX10_ways_19 : decode cX10_ways 19 = .ok (.getfield 66, 3) := by decide +kernel
theorem dX10_ways_22 : decode cX10_ways 22 = .ok (.ifCond .le 5, 3) := by decide +kernel
theorem dX10_ways_25 : decode cX10_ways 25 = .ok (.iconst 0, 1) := by decide +kernel
theorem dX10_ways_26 : decode cX10_ways 26 = .ok (.ireturn, 1) := by decide +kernel
theorem dX10_ways_27 : decode cX10_ways 27 = .ok (.iload_n 1, 1) := by decide +kernel
theorem dX10_ways_28 : decode cX10_ways 28 = .ok (.ifCond .ne 7, 3) := by decide +kernel
theorem dX10_ways_31 : decode cX10_ways 31 = .ok (.iconst 1, 1) := by decide +kernel
theorem dX10_ways_32 : decode cX10_ways 32 = .ok (.goto 31, 3) := by decide +kernel
theorem dX10_ways_35 : decode cX10_ways 35 = .ok (.iload_n 1, 1) := by decide +kernel
theorem dX10_ways_36 : decode cX10_ways 36 = .ok (.iconst 1, 1) := by decide +kernel
theorem dX10_ways_37 : decode cX10_ways 37 = .ok (.if_icmp .ne 10, 3) := by decide +kernel
theorem dX10_ways_40 : decode cX10_ways 40 = .ok (.aload_n 0, 1) := by decide +kernel
theorem dX10_ways_41 : decode cX10_ways 41 = .ok (.invokevirtual 199, 3) := by decide +kernel
theorem dX10_ways_44 : decode cX10_ways 44 = .ok (.goto 19, 3) := by decide +kernel
theorem dX10_ways_47 : decode cX10_ways 47 = .ok (.iload_n 1, 1) := by decide +kernel
theorem dX10_ways_48 : decode cX10_ways 48 = .ok (.iconst 2, 1) := by decide +kernel
theorem dX10_ways_49 : decode cX10_ways 49 = .ok (.if_icmp .ne 10, 3) := by decide +kernel
theorem dX10_ways_52 : decode cX10_ways 52 = .ok (.aload_n 0, 1) := by decide +kernel
theorem dX10_ways_53 : decode cX10_ways 53 = .ok (.invokevirtual 202, 3) := by decide +kernel
theorem dX10_ways_56 : decode cX10_ways 56 = .ok (.goto 7, 3) := by decide +kernel
theorem dX10_ways_59 : decode cX10_ways 59 = .ok (.aload_n 0, 1) := by decide +kernel
theorem dX10_ways_60 : decode cX10_ways 60 = .ok (.invokevirtual 205, 3) := by decide +kernel
theorem dX10_ways_63 : decode cX10_ways 63 = .ok (.ireturn, 1) := by decide +kernel
theorem dX10_moves_0 : decode cX10_moves 0 = .ok (.aload_n 0, 1) := by decide +kernel
theorem dX10_moves_1 : decode cX10_moves 1 = .ok (.iconst 0, 1) := by decide +kernel
theorem dX10_moves_2 : decode cX10_moves 2 = .ok (.putfield 66, 3) := by decide +kernel
theorem dX10_moves_5 : decode cX10_moves 5 = .ok (.aload_n 0, 1) := by decide +kernel
theorem dX10_moves_6 : decode cX10_moves 6 = .ok (.iconst 0, 1) := by decide +kernel
theorem dX10_moves_7 : decode cX10_moves 7 = .ok (.invokevirtual 158, 3) := by decide +kernel
theorem dX10_moves_10 : decode cX10_moves 10 = .ok (.aload_n 0, 1) := by decide +kernel
theorem dX10_moves_11 : decode cX10_moves 11 = .ok (.getfield 39, 3) := by decide +kernel
theorem dX10_moves_14 : decode cX10_moves 14 = .ok (.iconst 0, 1) := by decide +kernel
theorem dX10_moves_15 : decode cX10_moves 15 = .ok (.iaload, 1) := by decide +kernel
theorem dX10_moves_16 : decode cX10_moves 16 = .ok (.ireturn, 1) := by decide +kernel
theorem dX10_move_0 : decode cX10_move 0 = .ok (.aload_n 0, 1) := by decide +kernel
theorem dX10_move_1 : decode cX10_move 1 = .ok (.iconst 0, 1) := by decide +kernel
theorem dX10_move_2 : decode cX10_move 2 = .ok (.invokevirtual 158, 3) := by decide +kernel
theorem dX10_move_5 : decode cX10_move 5 = .ok (.aload_n 0, 1) := by decide +kernel
theorem dX10_move_6 : decode cX10_move 6 = .ok (.iload_n 1, 1) := by decide +kernel
theorem dX10_move_7 : decode cX10_move 7 = .ok (.ifCond .lt 13, 3) := by decide +kernel
theorem dX10_move_10 : decode cX10_move 10 = .ok (.iload_n 1, 1) := by decide +kernel
theorem dX10_move_11 : decode cX10_move 11 = .ok (.aload_n 0, 1) := by decide +kernel
theorem dX10_move_12 : decode cX10_move 12 = .ok (.getfield 39, 3) := by decide +kernel
theorem dX10_move_15 : decode cX10_move 15 = .ok (.iconst 0, 1) := by decide +kernel
theorem dX10_move_16 : decode cX10_move 16 = .ok (.iaload, 1) := by decide +kernel
theorem dX10_move_17 : decode cX10_move 17 = .ok (.if_icmp .lt 7, 3) := by decide +kernel
theorem dX10_move_20 : decode cX10_move 20 = .ok (.iconst 1, 1) := by decide +kernel
theorem dX10_move_21 : decode cX10_move 21 = .ok (.goto 17, 3) := by decide +kernel
theorem dX10_move_24 : decode cX10_move 24 = .ok (.iload_n 2, 1) := by decide +kernel
theorem dX10_move_25 : decode cX10_move 25 = .ok (.ifCond .lt 8, 3) := by decide +kernel
theorem dX10_move_28 : decode cX10_move 28 = .ok (.iload_n 2, 1) := by decide +kernel
theorem dX10_move_29 : decode cX10_move 29 = .ok (.iconst 2, 1) := by decide +kernel
theorem dX10_move_30 : decode cX10_move 30 = .ok (.if_icmp .le 7, 3) := by decide +kernel
theorem dX10_move_33 : decode cX10_move 33 = .ok (.iconst 2, 1) := by decide +kernel
theorem dX10_move_34 : decode cX10_move 34 = .ok (.goto 4, 3) := by decide +kernel
theorem dX10_move_37 : decode cX10_move 37 = .ok (.iconst 0, 1) := by decide +kernel
theorem dX10_move_38 : decode cX10_move 38 = .ok (.putfield 66, 3) := by decide +kernel
theorem dX10_move_41 : decode cX10_move 41 = .ok (.aload_n 0, 1) := by decide +kernel
theorem dX10_move_42 : decode cX10_move 42 = .ok (.getfield 66, 3) := by decide +kernel
theorem dX10_move_45 : decode cX10_move 45 = .ok (.ifCond .le 7, 3) := by decide +kernel
theorem dX10_move_48 : decode cX10_move 48 = .ok (.iconst 0, 1) := by decide +kernel
theorem dX10_move_49 : decode cX10_move 49 = .ok (.goto 36, 3) := by decide +kernel
theorem dX10_move_52 : decode cX10_move 52 = .ok (.iload_n 2, 1) := by decide +kernel
theorem dX10_move_53 : decode cX10_move 53 = .ok (.ifCond .ne 12, 3) := by decide +kernel
theorem dX10_move_56 : decode cX10_move 56 = .ok (.aload_n 0, 1) := by decide +kernel
theorem dX10_move_57 : decode cX10_move 57 = .ok (.getfield 30, 3) := by decide +kernel
theorem dX10_move_60 : decode cX10_move 60 = .ok (.iload_n 1, 1) := by decide +kernel
theorem dX10_move_61 : decode cX10_move 61 = .ok (.iaload, 1) := by decide +kernel
theorem dX10_move_62 : decode cX10_move 62 = .ok (.goto 23, 3) := by decide +kernel
theorem dX10_move_65 : decode cX10_move 65 = .ok (.iload_n 2, 1) := by decide +kernel
theorem dX10_move_66 : decode cX10_move 66 = .ok (.iconst 1, 1) := by decide +kernel
theorem dX10_move_67 : decode cX10_move 67 = .ok (.if_icmp .ne 12, 3) := by decide +kernel
theorem dX10_move_70 : decode cX10_move 70 = .ok (.aload_n 0, 1) := by decide +kernel
theorem dX10_move_71 : decode cX10_move 71 = .ok (.getfield 33, 3) := by decide +kernel
theorem dX10_move_74 : decode cX10_move 74 = .ok (.iload_n 1, 1) := by decide +kernel
theorem dX10_move_75 : decode cX10_move 75 = .ok (.iaload, 1) := by decide +kernel
theorem dX10_move_76 : decode cX10_move 76 = .ok (.goto 9, 3) := by decide +kernel
theorem dX10_move_79 : decode cX10_move 79 = .ok (.aload_n 0, 1) := by decide +kernel
theorem dX10_move_80 : decode cX10_move 80 = .ok (.getfield 36, 3) := by decide +kernel
theorem dX10_move_83 : decode cX10_move 83 = .ok (.iload_n 1, 1) := by decide +kernel
theorem dX10_move_84 : decode cX10_move 84 = .ok (.iaload, 1) := by decide +kernel
theorem dX10_move_85 : decode cX10_move 85 = .ok (.ireturn, 1) := by decide +kernel
theorem dX10_play_0 : decode cX10_play 0 = .ok (.aload_n 0, 1) := by decide +kernel
theorem dX10_play_1 : decode cX10_play 1 = .ok (.iload_n 1, 1) := by decide +kernel
theorem dX10_play_2 : decode cX10_play 2 = .ok (.ifCond .lt 19, 3) := by decide +kernel
theorem dX10_play_5 : decode cX10_play 5 = .ok (.iload_n 1, 1) := by decide +kernel
theorem dX10_play_6 : decode cX10_play 6 = .ok (.bipush 63, 2) := by decide +kernel
theorem dX10_play_8 : decode cX10_play 8 = .ok (.if_icmp .gt 13, 3) := by decide +kernel
theorem dX10_play_11 : decode cX10_play 11 = .ok (.iload_n 2, 1) := by decide +kernel
theorem dX10_play_12 : decode cX10_play 12 = .ok (.ifCond .lt 9, 3) := by decide +kernel
theorem dX10_play_15 : decode cX10_play 15 = .ok (.iload_n 2, 1) := by decide +kernel
theorem dX10_play_16 : decode cX10_play 16 = .ok (.bipush 63, 2) := by decide +kernel
theorem dX10_play_18 : decode cX10_play 18 = .ok (.if_icmp .le 7, 3) := by decide +kernel
theorem dX10_play_21 : decode cX10_play 21 = .ok (.iconst 1, 1) := by decide +kernel
theorem dX10_play_22 : decode cX10_play 22 = .ok (.goto 4, 3) := by decide +kernel
theorem dX10_play_25 : decode cX10_play 25 = .ok (.iconst 0, 1) := by decide +kernel
theorem dX10_play_26 : decode cX10_play 26 = .ok (.putfield 66, 3) := by decide +kernel
theorem dX10_play_29 : decode cX10_play 29 = .ok (.aload_n 0, 1) := by decide +kernel
theorem dX10_play_30 : decode cX10_play 30 = .ok (.getfield 66, 3) := by decide +kernel
theorem dX10_play_33 : decode cX10_play 33 = .ok (.ifCond .le 5, 3) := by decide +kernel
theorem dX10_play_36 : decode cX10_play 36 = .ok (.iconst 0, 1) := by decide +kernel
theorem dX10_play_37 : decode cX10_play 37 = .ok (.ireturn, 1) := by decide +kernel
theorem dX10_play_38 : decode cX10_play 38 = .ok (.aload_n 0, 1) := by decide +kernel
theorem dX10_play_39 : decode cX10_play 39 = .ok (.iconst 0, 1) := by decide +kernel
theorem dX10_play_40 : decode cX10_play 40 = .ok (.invokevirtual 158, 3) := by decide +kernel
theorem dX10_play_43 : decode cX10_play 43 = .ok (.iconst 0, 1) := by decide +kernel
theorem dX10_play_44 : decode cX10_play 44 = .ok (.istore 4, 2) := by decide +kernel
theorem dX10_play_46 : decode cX10_play 46 = .ok (.iconst 0, 1) := by decide +kernel
theorem dX10_play_47 : decode cX10_play 47 = .ok (.istore 5, 2) := by decide +kernel
theorem dX10_play_49 : decode cX10_play 49 = .ok (.iload 5, 2) := by decide +kernel
theorem dX10_play_51 : decode cX10_play 51 = .ok (.aload_n 0, 1) := by decide +kernel
theorem dX10_play_52 : decode cX10_play 52 = .ok (.getfield 39, 3) := by decide +kernel
theorem dX10_play_55 : decode cX10_play 55 = .ok (.iconst 0, 1) := by decide +kernel
theorem dX10_play_56 : decode cX10_play 56 = .ok (.iaload, 1) := by decide +kernel
theorem dX10_play_57 : decode cX10_play 57 = .ok (.if_icmp .ge 54, 3) := by decide +kernel
theorem dX10_play_60 : decode cX10_play 60 = .ok (.iload 4, 2) := by decide +kernel
theorem dX10_play_62 : decode cX10_play 62 = .ok (.ifCond .ne 36, 3) := by decide +kernel
theorem dX10_play_65 : decode cX10_play 65 = .ok (.aload_n 0, 1) := by decide +kernel
theorem dX10_play_66 : decode cX10_play 66 = .ok (.getfield 30, 3) := by decide +kernel
theorem dX10_play_69 : decode cX10_play 69 = .ok (.iload 5, 2) := by decide +kernel
theorem dX10_play_71 : decode cX10_play 71 = .ok (.iaload, 1) := by decide +kernel
theorem dX10_play_72 : decode cX10_play 72 = .ok (.iload_n 1, 1) := by decide +kernel
theorem dX10_play_73 : decode cX10_play 73 = .ok (.if_icmp .ne 29, 3) := by decide +kernel
theorem dX10_play_76 : decode cX10_play 76 = .ok (.aload_n 0, 1) := by decide +kernel
theorem dX10_play_77 : decode cX10_play 77 = .ok (.getfield 33, 3) := by decide +kernel
theorem dX10_play_80 : decode cX10_play 80 = .ok (.iload 5, 2) := by decide +kernel
theorem dX10_play_82 : decode cX10_play 82 = .ok (.iaload, 1) := by decide +kernel
theorem dX10_play_83 : decode cX10_play 83 = .ok (.iload_n 2, 1) := by decide +kernel
theorem dX10_play_84 : decode cX10_play 84 = .ok (.if_icmp .ne 18, 3) := by decide +kernel
theorem dX10_play_87 : decode cX10_play 87 = .ok (.aload_n 0, 1) := by decide +kernel
theorem dX10_play_88 : decode cX10_play 88 = .ok (.getfield 36, 3) := by decide +kernel
theorem dX10_play_91 : decode cX10_play 91 = .ok (.iload 5, 2) := by decide +kernel
theorem dX10_play_93 : decode cX10_play 93 = .ok (.iaload, 1) := by decide +kernel
theorem dX10_play_94 : decode cX10_play 94 = .ok (.iload_n 3, 1) := by decide +kernel
theorem dX10_play_95 : decode cX10_play 95 = .ok (.if_icmp .ne 7, 3) := by decide +kernel
theorem dX10_play_98 : decode cX10_play 98 = .ok (.iconst 1, 1) := by decide +kernel
theorem dX10_play_99 : decode cX10_play 99 = .ok (.goto 4, 3) := by decide +kernel
theorem dX10_play_102 : decode cX10_play 102 = .ok (.iconst 0, 1) := by decide +kernel
theorem dX10_play_103 : decode cX10_play 103 = .ok (.istore 4, 2) := by decide +kernel
theorem dX10_play_105 : decode cX10_play 105 = .ok (.iinc 5 1, 3) := by decide +kernel
theorem dX10_play_108 : decode cX10_play 108 = .ok (.goto (-59), 3) := by decide +kernel
theorem dX10_play_111 : decode cX10_play 111 = .ok (.aload_n 0, 1) := by decide +kernel
theorem dX10_play_112 : decode cX10_play 112 = .ok (.iload 4, 2) := by decide +kernel
theorem dX10_play_114 : decode cX10_play 114 = .ok (.ifCond .eq 13, 3) := by decide +kernel
theorem dX10_play_117 : decode cX10_play 117 = .ok (.aload_n 0, 1) := by decide +kernel
theorem dX10_play_118 : decode cX10_play 118 = .ok (.getfield 116, 3) := by decide +kernel
theorem dX10_play_121 : decode cX10_play 121 = .ok (.sipush 1024, 3) := by decide +kernel
theorem dX10_play_124 : decode cX10_play 124 = .ok (.if_icmp .ne 7, 3) := by decide +kernel
theorem dX10_play_127 : decode cX10_play 127 = .ok (.iconst 2, 1) := by decide +kernel
theorem dX10_play_128 : decode cX10_play 128 = .ok (.goto 4, 3) := by decide +kernel
theorem dX10_play_131 : decode cX10_play 131 = .ok (.iconst 0, 1) := by decide +kernel
theorem dX10_play_132 : decode cX10_play 132 = .ok (.putfield 66, 3) := by decide +kernel
theorem dX10_play_135 : decode cX10_play 135 = .ok (.aload_n 0, 1) := by decide +kernel
theorem dX10_play_136 : decode cX10_play 136 = .ok (.getfield 66, 3) := by decide +kernel
theorem dX10_play_139 : decode cX10_play 139 = .ok (.ifCond .le 7, 3) := by decide +kernel
theorem dX10_play_142 : decode cX10_play 142 = .ok (.iconst 0, 1) := by decide +kernel
theorem dX10_play_143 : decode cX10_play 143 = .ok (.goto 10, 3) := by decide +kernel
theorem dX10_play_146 : decode cX10_play 146 = .ok (.aload_n 0, 1) := by decide +kernel
theorem dX10_play_147 : decode cX10_play 147 = .ok (.iload_n 1, 1) := by decide +kernel
theorem dX10_play_148 : decode cX10_play 148 = .ok (.iload_n 2, 1) := by decide +kernel
theorem dX10_play_149 : decode cX10_play 149 = .ok (.iload_n 3, 1) := by decide +kernel
theorem dX10_play_150 : decode cX10_play 150 = .ok (.invokevirtual 176, 3) := by decide +kernel
theorem dX10_play_153 : decode cX10_play 153 = .ok (.ireturn, 1) := by decide +kernel
theorem dX10_back_0 : decode cX10_back 0 = .ok (.aload_n 0, 1) := by decide +kernel
theorem dX10_back_1 : decode cX10_back 1 = .ok (.aload_n 0, 1) := by decide +kernel
theorem dX10_back_2 : decode cX10_back 2 = .ok (.getfield 116, 3) := by decide +kernel
theorem dX10_back_5 : decode cX10_back 5 = .ok (.ifCond .ne 7, 3) := by decide +kernel
theorem dX10_back_8 : decode cX10_back 8 = .ok (.iconst 1, 1) := by decide +kernel
theorem dX10_back_9 : decode cX10_back 9 = .ok (.goto 4, 3) := by decide +kernel
theorem dX10_back_12 : decode cX10_back 12 = .ok (.iconst 0, 1) := by decide +kernel
theorem dX10_back_13 : decode cX10_back 13 = .ok (.putfield 66, 3) := by decide +kernel
theorem dX10_back_16 : decode cX10_back 16 = .ok (.aload_n 0, 1) := by decide +kernel
theorem dX10_back_17 : decode cX10_back 17 = .ok (.getfield 66, 3) := by decide +kernel
theorem dX10_back_20 : decode cX10_back 20 = .ok (.ifCond .le 5, 3) := by decide +kernel
theorem dX10_back_23 : decode cX10_back 23 = .ok (.iconst 0, 1) := by decide +kernel
theorem dX10_back_24 : decode cX10_back 24 = .ok (.ireturn, 1) := by decide +kernel
theorem dX10_back_25 : decode cX10_back 25 = .ok (.aload_n 0, 1) := by decide +kernel
theorem dX10_back_26 : decode cX10_back 26 = .ok (.invokevirtual 186, 3) := by decide +kernel
theorem dX10_back_29 : decode cX10_back 29 = .ok (.aload_n 0, 1) := by decide +kernel
theorem dX10_back_30 : decode cX10_back 30 = .ok (.getfield 116, 3) := by decide +kernel
theorem dX10_back_33 : decode cX10_back 33 = .ok (.ireturn, 1) := by decide +kernel
theorem dX10_man_0 : decode cX10_man 0 = .ok (.aload_n 0, 1) := by decide +kernel
theorem dX10_man_1 : decode cX10_man 1 = .ok (.iload_n 1, 1) := by decide +kernel
theorem dX10_man_2 : decode cX10_man 2 = .ok (.ifCond .lt 9, 3) := by decide +kernel
theorem dX10_man_5 : decode cX10_man 5 = .ok (.iload_n 1, 1) := by decide +kernel
theorem dX10_man_6 : decode cX10_man 6 = .ok (.bipush 63, 2) := by decide +kernel
theorem dX10_man_8 : decode cX10_man 8 = .ok (.if_icmp .le 7, 3) := by decide +kernel
theorem dX10_man_11 : decode cX10_man 11 = .ok (.iconst 1, 1) := by decide +kernel
theorem dX10_man_12 : decode cX10_man 12 = .ok (.goto 4, 3) := by decide +kernel
theorem dX10_man_15 : decode cX10_man 15 = .ok (.iconst 0, 1) := by decide +kernel
theorem dX10_man_16 : decode cX10_man 16 = .ok (.putfield 66, 3) := by decide +kernel
theorem dX10_man_19 : decode cX10_man 19 = .ok (.aload_n 0, 1) := by decide +kernel
theorem dX10_man_20 : decode cX10_man 20 = .ok (.getfield 66, 3) := by decide +kernel
theorem dX10_man_23 : decode cX10_man 23 = .ok (.ifCond .le 7, 3) := by decide +kernel
theorem dX10_man_26 : decode cX10_man 26 = .ok (.iconst 0, 1) := by decide +kernel
theorem dX10_man_27 : decode cX10_man 27 = .ok (.goto 9, 3) := by decide +kernel
theorem dX10_man_30 : decode cX10_man 30 = .ok (.aload_n 0, 1) := by decide +kernel
theorem dX10_man_31 : decode cX10_man 31 = .ok (.getfield 7, 3) := by decide +kernel
theorem dX10_man_34 : decode cX10_man 34 = .ok (.iload_n 1, 1) := by decide +kernel
theorem dX10_man_35 : decode cX10_man 35 = .ok (.iaload, 1) := by decide +kernel
theorem dX10_man_36 : decode cX10_man 36 = .ok (.ireturn, 1) := by decide +kernel
theorem dX10_about_0 : decode cX10_about 0 = .ok (.aload_n 0, 1) := by decide +kernel
theorem dX10_about_1 : decode cX10_about 1 = .ok (.iload_n 1, 1) := by decide +kernel
theorem dX10_about_2 : decode cX10_about 2 = .ok (.ifCond .lt 8, 3) := by decide +kernel
theorem dX10_about_5 : decode cX10_about 5 = .ok (.iload_n 1, 1) := by decide +kernel
theorem dX10_about_6 : decode cX10_about 6 = .ok (.iconst 5, 1) := by decide +kernel
theorem dX10_about_7 : decode cX10_about 7 = .ok (.if_icmp .le 7, 3) := by decide +kernel
theorem dX10_about_10 : decode cX10_about 10 = .ok (.iconst 1, 1) := by decide +kernel
theorem dX10_about_11 : decode cX10_about 11 = .ok (.goto 4, 3) := by decide +kernel
theorem dX10_about_14 : decode cX10_about 14 = .ok (.iconst 0, 1) := by decide +kernel
theorem dX10_about_15 : decode cX10_about 15 = .ok (.putfield 66, 3) := by decide +kernel
theorem dX10_about_18 : decode cX10_about 18 = .ok (.aload_n 0, 1) := by decide +kernel
theorem dX10_about_19 : decode cX10_about 19 = .ok (.getfield 66, 3) := by decide +kernel
theorem dX10_about_22 : decode cX10_about 22 = .ok (.ifCond .le 5, 3) := by decide +kernel
theorem dX10_about_25 : decode cX10_about 25 = .ok (.iconst 0, 1) := by decide +kernel
theorem dX10_about_26 : decode cX10_about 26 = .ok (.ireturn, 1) := by decide +kernel
theorem dX10_about_27 : decode cX10_about 27 = .ok (.iload_n 1, 1) := by decide +kernel
theorem dX10_about_28 : decode cX10_about 28 = .ok (.tableswitch 61 0 4 #[36, 41, 46, 51, 56], 36) := by decide +kernel
theorem dX10_about_64 : decode cX10_about 64 = .ok (.aload_n 0, 1) := by decide +kernel
theorem dX10_about_65 : decode cX10_about 65 = .ok (.getfield 119, 3) := by decide +kernel
theorem dX10_about_68 : decode cX10_about 68 = .ok (.ireturn, 1) := by decide +kernel
theorem dX10_about_69 : decode cX10_about 69 = .ok (.aload_n 0, 1) := by decide +kernel
theorem dX10_about_70 : decode cX10_about 70 = .ok (.getfield 60, 3) := by decide +kernel
theorem dX10_about_73 : decode cX10_about 73 = .ok (.ireturn, 1) := by decide +kernel
theorem dX10_about_74 : decode cX10_about 74 = .ok (.aload_n 0, 1) := by decide +kernel
theorem dX10_about_75 : decode cX10_about 75 = .ok (.getfield 13, 3) := by decide +kernel
theorem dX10_about_78 : decode cX10_about 78 = .ok (.ireturn, 1) := by decide +kernel
theorem dX10_about_79 : decode cX10_about 79 = .ok (.aload_n 0, 1) := by decide +kernel
theorem dX10_about_80 : decode cX10_about 80 = .ok (.getfield 122, 3) := by decide +kernel
theorem dX10_about_83 : decode cX10_about 83 = .ok (.ireturn, 1) := by decide +kernel
theorem dX10_about_84 : decode cX10_about 84 = .ok (.aload_n 0, 1) := by decide +kernel
theorem dX10_about_85 : decode cX10_about 85 = .ok (.getfield 63, 3) := by decide +kernel
theorem dX10_about_88 : decode cX10_about 88 = .ok (.ireturn, 1) := by decide +kernel
theorem dX10_about_89 : decode cX10_about 89 = .ok (.aload_n 0, 1) := by decide +kernel
theorem dX10_about_90 : decode cX10_about 90 = .ok (.aload_n 0, 1) := by decide +kernel
theorem dX10_about_91 : decode cX10_about 91 = .ok (.getfield 119, 3) := by decide +kernel
theorem dX10_about_94 : decode cX10_about 94 = .ok (.invokevirtual 109, 3) := by decide +kernel
theorem dX10_about_97 : decode cX10_about 97 = .ok (.ifCond .eq 7, 3) := by decide +kernel
theorem dX10_about_100 : decode cX10_about 100 = .ok (.iconst 1, 1) := by decide +kernel
theorem dX10_about_101 : decode cX10_about 101 = .ok (.goto 4, 3) := by decide +kernel
theorem dX10_about_104 : decode cX10_about 104 = .ok (.iconst 0, 1) := by decide +kernel
theorem dX10_about_105 : decode cX10_about 105 = .ok (.ireturn, 1) := by decide +kernel
theorem dX10_attacked_0 : decode cX10_attacked 0 = .ok (.aload_n 0, 1) := by decide +kernel
theorem dX10_attacked_1 : decode cX10_attacked 1 = .ok (.iload_n 1, 1) := by decide +kernel
theorem dX10_attacked_2 : decode cX10_attacked 2 = .ok (.ifCond .lt 9, 3) := by decide +kernel
theorem dX10_attacked_5 : decode cX10_attacked 5 = .ok (.iload_n 1, 1) := by decide +kernel
theorem dX10_attacked_6 : decode cX10_attacked 6 = .ok (.bipush 63, 2) := by decide +kernel
theorem dX10_attacked_8 : decode cX10_attacked 8 = .ok (.if_icmp .le 7, 3) := by decide +kernel
theorem dX10_attacked_11 : decode cX10_attacked 11 = .ok (.iconst 1, 1) := by decide +kernel
theorem dX10_attacked_12 : decode cX10_attacked 12 = .ok (.goto 17, 3) := by decide +kernel
theorem dX10_attacked_15 : decode cX10_attacked 15 = .ok (.iload_n 2, 1) := by decide +kernel
theorem dX10_attacked_16 : decode cX10_attacked 16 = .ok (.ifCond .lt 8, 3) := by decide +kernel
theorem dX10_attacked_19 : decode cX10_attacked 19 = .ok (.iload_n 2, 1) := by decide +kernel
theorem dX10_attacked_20 : decode cX10_attacked 20 = .ok (.iconst 1, 1) := by decide +kernel
theorem dX10_attacked_21 : decode cX10_attacked 21 = .ok (.if_icmp .le 7, 3) := by decide +kernel
theorem dX10_attacked_24 : decode cX10_attacked 24 = .ok (.iconst 2, 1) := by decide +kernel
theorem dX10_attacked_25 : decode cX10_attacked 25 = .ok (.goto 4, 3) := by decide +kernel
theorem dX10_attacked_28 : decode cX10_attacked 28 = .ok (.iconst 0, 1) := by decide +kernel
theorem dX10_attacked_29 : decode cX10_attacked 29 = .ok (.putfield 66, 3) := by decide +kernel
theorem dX10_attacked_32 : decode cX10_attacked 32 = .ok (.aload_n 0, 1) := by decide +kernel
theorem dX10_attacked_33 : decode cX10_attacked 33 = .ok (.getfield 66, 3) := by decide +kernel
theorem dX10_attacked_36 : decode cX10_attacked 36 = .ok (.ifCond .ne 16, 3) := by decide +kernel
theorem dX10_attacked_39 : decode cX10_attacked 39 = .ok (.aload_n 0, 1) := by decide +kernel
theorem dX10_attacked_40 : decode cX10_attacked 40 = .ok (.iload_n 1, 1) := by decide +kernel
theorem dX10_attacked_41 : decode cX10_attacked 41 = .ok (.iload_n 2, 1) := by decide +kernel
theorem dX10_attacked_42 : decode cX10_attacked 42 = .ok (.invokevirtual 92, 3) := by decide +kernel
theorem dX10_attacked_45 : decode cX10_attacked 45 = .ok (.ifCond .eq 7, 3) := by decide +kernel
theorem dX10_attacked_48 : decode cX10_attacked 48 = .ok (.iconst 1, 1) := by decide +kernel
theorem dX10_attacked_49 : decode cX10_attacked 49 = .ok (.goto 4, 3) := by decide +kernel
theorem dX10_attacked_52 : decode cX10_attacked 52 = .ok (.iconst 0, 1) := by decide +kernel
theorem dX10_attacked_53 : decode cX10_attacked 53 = .ok (.ireturn, 1) := by decide +kernel
theorem dX10_type_0 : decode cX10_type 0 = .ok (.iload_n 3, 1) := by decide +kernel
theorem dX10_type_1 : decode cX10_type 1 = .ok (.ifCond .le 13, 3) := by decide +kernel
theorem dX10_type_4 : decode cX10_type 4 = .ok (.iload_n 3, 1) := by decide +kernel
theorem dX10_type_5 : decode cX10_type 5 = .ok (.bipush 9, 2) := by decide +kernel
theorem dX10_type_7 : decode cX10_type 7 = .ok (.if_icmp .ge 7, 3) := by decide +kernel
theorem dX10_type_10 : decode cX10_type 10 = .ok (.iconst 1, 1) := by decide +kernel
theorem dX10_type_11 : decode cX10_type 11 = .ok (.goto 4, 3) := by decide +kernel
theorem dX10_type_14 : decode cX10_type 14 = .ok (.iconst 0, 1) := by decide +kernel
theorem dX10_type_15 : decode cX10_type 15 = .ok (.istore 4, 2) := by decide +kernel
theorem dX10_type_17 : decode cX10_type 17 = .ok (.iconst 0, 1) := by decide +kernel
theorem dX10_type_18 : decode cX10_type 18 = .ok (.istore 5, 2) := by decide +kernel
theorem dX10_type_20 : decode cX10_type 20 = .ok (.iload 5, 2) := by decide +kernel
theorem dX10_type_22 : decode cX10_type 22 = .ok (.iload_n 3, 1) := by decide +kernel
theorem dX10_type_23 : decode cX10_type 23 = .ok (.if_icmp .ge 56, 3) := by decide +kernel
theorem dX10_type_26 : decode cX10_type 26 = .ok (.iload 5, 2) := by decide +kernel
theorem dX10_type_28 : decode cX10_type 28 = .ok (.bipush 8, 2) := by decide +kernel
theorem dX10_type_30 : decode cX10_type 30 = .ok (.if_icmp .ge 49, 3) := by decide +kernel
theorem dX10_type_33 : decode cX10_type 33 = .ok (.lload_n 1, 1) := by decide +kernel
theorem dX10_type_34 : decode cX10_type 34 = .ok (.bipush 8, 2) := by decide +kernel
theorem dX10_type_36 : decode cX10_type 36 = .ok (.iload 5, 2) := by decide +kernel
theorem dX10_type_38 : decode cX10_type 38 = .ok (.imul, 1) := by decide +kernel
theorem dX10_type_39 : decode cX10_type 39 = .ok (.lshr, 1) := by decide +kernel
theorem dX10_type_40 : decode cX10_type 40 = .ok (.l2i, 1) := by decide +kernel
theorem dX10_type_41 : decode cX10_type 41 = .ok (.sipush 255, 3) := by decide +kernel
theorem dX10_type_44 : decode cX10_type 44 = .ok (.iand, 1) := by decide +kernel
theorem dX10_type_45 : decode cX10_type 45 = .ok (.istore 6, 2) := by decide +kernel
theorem dX10_type_47 : decode cX10_type 47 = .ok (.iload 4, 2) := by decide +kernel
theorem dX10_type_49 : decode cX10_type 49 = .ok (.ifCond .eq 21, 3) := by decide +kernel
theorem dX10_type_52 : decode cX10_type 52 = .ok (.iload 6, 2) := by decide +kernel
theorem dX10_type_54 : decode cX10_type 54 = .ok (.bipush 31, 2) := by decide +kernel
theorem dX10_type_56 : decode cX10_type 56 = .ok (.if_icmp .le 14, 3) := by decide +kernel
theorem dX10_type_59 : decode cX10_type 59 = .ok (.iload 6, 2) := by decide +kernel
theorem dX10_type_61 : decode cX10_type 61 = .ok (.bipush 127, 2) := by decide +kernel
theorem dX10_type_63 : decode cX10_type 63 = .ok (.if_icmp .ge 7, 3) := by decide +kernel
theorem dX10_type_66 : decode cX10_type 66 = .ok (.iconst 1, 1) := by decide +kernel
theorem dX10_type_67 : decode cX10_type 67 = .ok (.goto 4, 3) := by decide +kernel
theorem dX10_type_70 : decode cX10_type 70 = .ok (.iconst 0, 1) := by decide +kernel
theorem dX10_type_71 : decode cX10_type 71 = .ok (.istore 4, 2) := by decide +kernel
theorem dX10_type_73 : decode cX10_type 73 = .ok (.iinc 5 1, 3) := by decide +kernel
theorem dX10_type_76 : decode cX10_type 76 = .ok (.goto (-56), 3) := by decide +kernel
theorem dX10_type_79 : decode cX10_type 79 = .ok (.aload_n 0, 1) := by decide +kernel
theorem dX10_type_80 : decode cX10_type 80 = .ok (.iload 4, 2) := by decide +kernel
theorem dX10_type_82 : decode cX10_type 82 = .ok (.ifCond .ne 7, 3) := by decide +kernel
theorem dX10_type_85 : decode cX10_type 85 = .ok (.iconst 1, 1) := by decide +kernel
theorem dX10_type_86 : decode cX10_type 86 = .ok (.goto 20, 3) := by decide +kernel
theorem dX10_type_89 : decode cX10_type 89 = .ok (.aload_n 0, 1) := by decide +kernel
theorem dX10_type_90 : decode cX10_type 90 = .ok (.getfield 208, 3) := by decide +kernel
theorem dX10_type_93 : decode cX10_type 93 = .ok (.iload_n 3, 1) := by decide +kernel
theorem dX10_type_94 : decode cX10_type 94 = .ok (.iadd, 1) := by decide +kernel
theorem dX10_type_95 : decode cX10_type 95 = .ok (.sipush 128, 3) := by decide +kernel
theorem dX10_type_98 : decode cX10_type 98 = .ok (.if_icmp .le 7, 3) := by decide +kernel
theorem dX10_type_101 : decode cX10_type 101 = .ok (.iconst 2, 1) := by decide +kernel
theorem dX10_type_102 : decode cX10_type 102 = .ok (.goto 4, 3) := by decide +kernel
theorem dX10_type_105 : decode cX10_type 105 = .ok (.iconst 0, 1) := by decide +kernel
theorem dX10_type_106 : decode cX10_type 106 = .ok (.putfield 66, 3) := by decide +kernel
theorem dX10_type_109 : decode cX10_type 109 = .ok (.aload_n 0, 1) := by decide +kernel
theorem dX10_type_110 : decode cX10_type 110 = .ok (.getfield 66, 3) := by decide +kernel
theorem dX10_type_113 : decode cX10_type 113 = .ok (.ifCond .le 5, 3) := by decide +kernel
theorem dX10_type_116 : decode cX10_type 116 = .ok (.iconst 0, 1) := by decide +kernel
theorem dX10_type_117 : decode cX10_type 117 = .ok (.ireturn, 1) := by decide +kernel
theorem dX10_type_118 : decode cX10_type 118 = .ok (.iconst 0, 1) := by decide +kernel
theorem dX10_type_119 : decode cX10_type 119 = .ok (.istore 5, 2) := by decide +kernel
theorem dX10_type_121 : decode cX10_type 121 = .ok (.iload 5, 2) := by decide +kernel
theorem dX10_type_123 : decode cX10_type 123 = .ok (.iload_n 3, 1) := by decide +kernel
theorem dX10_type_124 : decode cX10_type 124 = .ok (.if_icmp .ge 40, 3) := by decide +kernel
theorem dX10_type_127 : decode cX10_type 127 = .ok (.aload_n 0, 1) := by decide +kernel
theorem dX10_type_128 : decode cX10_type 128 = .ok (.getfield 21, 3) := by decide +kernel
theorem dX10_type_131 : decode cX10_type 131 = .ok (.aload_n 0, 1) := by decide +kernel
theorem dX10_type_132 : decode cX10_type 132 = .ok (.getfield 208, 3) := by decide +kernel
theorem dX10_type_135 : decode cX10_type 135 = .ok (.lload_n 1, 1) := by decide +kernel
theorem dX10_type_136 : decode cX10_type 136 = .ok (.bipush 8, 2) := by decide +kernel
theorem dX10_type_138 : decode cX10_type 138 = .ok (.iload 5, 2) := by decide +kernel
theorem dX10_type_140 : decode cX10_type 140 = .ok (.imul, 1) := by decide +kernel
theorem dX10_type_141 : decode cX10_type 141 = .ok (.lshr, 1) := by decide +kernel
theorem dX10_type_142 : decode cX10_type 142 = .ok (.l2i, 1) := by decide +kernel
theorem dX10_type_143 : decode cX10_type 143 = .ok (.sipush 255, 3) := by decide +kernel
theorem dX10_type_146 : decode cX10_type 146 = .ok (.iand, 1) := by decide +kernel
theorem dX10_type_147 : decode cX10_type 147 = .ok (.iastore, 1) := by decide +kernel
theorem dX10_type_148 : decode cX10_type 148 = .ok (.aload_n 0, 1) := by decide +kernel
theorem dX10_type_149 : decode cX10_type 149 = .ok (.dup, 1) := by decide +kernel
theorem dX10_type_150 : decode cX10_type 150 = .ok (.getfield 208, 3) := by decide +kernel
theorem dX10_type_153 : decode cX10_type 153 = .ok (.iconst 1, 1) := by decide +kernel
theorem dX10_type_154 : decode cX10_type 154 = .ok (.iadd, 1) := by decide +kernel
theorem dX10_type_155 : decode cX10_type 155 = .ok (.putfield 208, 3) := by decide +kernel
theorem dX10_type_158 : decode cX10_type 158 = .ok (.iinc 5 1, 3) := by decide +kernel
theorem dX10_type_161 : decode cX10_type 161 = .ok (.goto (-40), 3) := by decide +kernel
theorem dX10_type_164 : decode cX10_type 164 = .ok (.aload_n 0, 1) := by decide +kernel
theorem dX10_type_165 : decode cX10_type 165 = .ok (.getfield 208, 3) := by decide +kernel
theorem dX10_type_168 : decode cX10_type 168 = .ok (.ireturn, 1) := by decide +kernel
theorem dX10_next_0 : decode cX10_next 0 = .ok (.aload_n 0, 1) := by decide +kernel
theorem dX10_next_1 : decode cX10_next 1 = .ok (.getfield 211, 3) := by decide +kernel
theorem dX10_next_4 : decode cX10_next 4 = .ok (.aload_n 0, 1) := by decide +kernel
theorem dX10_next_5 : decode cX10_next 5 = .ok (.getfield 208, 3) := by decide +kernel
theorem dX10_next_8 : decode cX10_next 8 = .ok (.if_icmp .ge 15, 3) := by decide +kernel
theorem dX10_next_11 : decode cX10_next 11 = .ok (.aload_n 0, 1) := by decide +kernel
theorem dX10_next_12 : decode cX10_next 12 = .ok (.getfield 21, 3) := by decide +kernel
theorem dX10_next_15 : decode cX10_next 15 = .ok (.aload_n 0, 1) := by decide +kernel
theorem dX10_next_16 : decode cX10_next 16 = .ok (.getfield 211, 3) := by decide +kernel
theorem dX10_next_19 : decode cX10_next 19 = .ok (.iaload, 1) := by decide +kernel
theorem dX10_next_20 : decode cX10_next 20 = .ok (.goto 4, 3) := by decide +kernel
theorem dX10_next_23 : decode cX10_next 23 = .ok (.iconst 0, 1) := by decide +kernel
theorem dX10_next_24 : decode cX10_next 24 = .ok (.ireturn, 1) := by decide +kernel
theorem dX10_takes_0 : decode cX10_takes 0 = .ok (.aload_n 0, 1) := by decide +kernel
theorem dX10_takes_1 : decode cX10_takes 1 = .ok (.invokevirtual 214, 3) := by decide +kernel
theorem dX10_takes_4 : decode cX10_takes 4 = .ok (.iload_n 1, 1) := by decide +kernel
theorem dX10_takes_5 : decode cX10_takes 5 = .ok (.if_icmp .ne 7, 3) := by decide +kernel
theorem dX10_takes_8 : decode cX10_takes 8 = .ok (.iconst 1, 1) := by decide +kernel
theorem dX10_takes_9 : decode cX10_takes 9 = .ok (.goto 4, 3) := by decide +kernel
theorem dX10_takes_12 : decode cX10_takes 12 = .ok (.iconst 0, 1) := by decide +kernel
theorem dX10_takes_13 : decode cX10_takes 13 = .ok (.istore_n 2, 1) := by decide +kernel
theorem dX10_takes_14 : decode cX10_takes 14 = .ok (.aload_n 0, 1) := by decide +kernel
theorem dX10_takes_15 : decode cX10_takes 15 = .ok (.iload_n 2, 1) := by decide +kernel
theorem dX10_takes_16 : decode cX10_takes 16 = .ok (.ifCond .eq 12, 3) := by decide +kernel
theorem dX10_takes_19 : decode cX10_takes 19 = .ok (.aload_n 0, 1) := by decide +kernel
theorem dX10_takes_20 : decode cX10_takes 20 = .ok (.getfield 211, 3) := by decide +kernel
theorem dX10_takes_23 : decode cX10_takes 23 = .ok (.iconst 1, 1) := by decide +kernel
theorem dX10_takes_24 : decode cX10_takes 24 = .ok (.iadd, 1) := by decide +kernel
theorem dX10_takes_25 : decode cX10_takes 25 = .ok (.goto 7, 3) := by decide +kernel
theorem dX10_takes_28 : decode cX10_takes 28 = .ok (.aload_n 0, 1) := by decide +kernel
theorem dX10_takes_29 : decode cX10_takes 29 = .ok (.getfield 211, 3) := by decide +kernel
theorem dX10_takes_32 : decode cX10_takes 32 = .ok (.putfield 211, 3) := by decide +kernel
theorem dX10_takes_35 : decode cX10_takes 35 = .ok (.iload_n 2, 1) := by decide +kernel
theorem dX10_takes_36 : decode cX10_takes 36 = .ok (.ireturn, 1) := by decide +kernel
theorem dX10_manOf_0 : decode cX10_manOf 0 = .ok (.iload_n 0, 1) := by decide +kernel
theorem dX10_manOf_1 : decode cX10_manOf 1 = .ok (.tableswitch 241 66 114 #[215, 241, 241, 241, 241, 241, 241, 241, 241, 221, 241, 241, 213, 241, 211, 219, 217, 241, 241, 241, 241, 241, 241, 241, 241, 241, 241, 241, 241, 241, 241, 241, 229, 241, 241, 241, 241, 241, 241, 241, 241, 238, 241, 241, 226, 241, 224, 235, 232], 211) := by decide +kernel
theorem dX10_manOf_212 : decode cX10_manOf 212 = .ok (.iconst 1, 1) := by decide +kernel
theorem dX10_manOf_213 : decode cX10_manOf 213 = .ok (.ireturn, 1) := by decide +kernel
theorem dX10_manOf_214 : decode cX10_manOf 214 = .ok (.iconst 2, 1) := by decide +kernel
theorem dX10_manOf_215 : decode cX10_manOf 215 = .ok (.ireturn, 1) := by decide +kernel
theorem dX10_manOf_216 : decode cX10_manOf 216 = .ok (.iconst 3, 1) := by decide +kernel
theorem dX10_manOf_217 : decode cX10_manOf 217 = .ok (.ireturn, 1) := by decide +kernel
theorem dX10_manOf_218 : decode cX10_manOf 218 = .ok (.iconst 4, 1) := by decide +kernel
theorem dX10_manOf_219 : decode cX10_manOf 219 = .ok (.ireturn, 1) := by decide +kernel
theorem dX10_manOf_220 : decode cX10_manOf 220 = .ok (.iconst 5, 1) := by decide +kernel
theorem dX10_manOf_221 : decode cX10_manOf 221 = .ok (.ireturn, 1) := by decide +kernel
theorem dX10_manOf_222 : decode cX10_manOf 222 = .ok (.bipush 6, 2) := by decide +kernel
theorem dX10_manOf_224 : decode cX10_manOf 224 = .ok (.ireturn, 1) := by decide +kernel
theorem dX10_manOf_225 : decode cX10_manOf 225 = .ok (.iconst (-1), 1) := by decide +kernel
theorem dX10_manOf_226 : decode cX10_manOf 226 = .ok (.ireturn, 1) := by decide +kernel
theorem dX10_manOf_227 : decode cX10_manOf 227 = .ok (.bipush (-2), 2) := by decide +kernel
theorem dX10_manOf_229 : decode cX10_manOf 229 = .ok (.ireturn, 1) := by decide +kernel
theorem dX10_manOf_230 : decode cX10_manOf 230 = .ok (.bipush (-3), 2) := by decide +kernel
theorem dX10_manOf_232 : decode cX10_manOf 232 = .ok (.ireturn, 1) := by decide +kernel
theorem dX10_manOf_233 : decode cX10_manOf 233 = .ok (.bipush (-4), 2) := by decide +kernel
theorem dX10_manOf_235 : decode cX10_manOf 235 = .ok (.ireturn, 1) := by decide +kernel
theorem dX10_manOf_236 : decode cX10_manOf 236 = .ok (.bipush (-5), 2) := by decide +kernel
theorem dX10_manOf_238 : decode cX10_manOf 238 = .ok (.ireturn, 1) := by decide +kernel
theorem dX10_manOf_239 : decode cX10_manOf 239 = .ok (.bipush (-6), 2) := by decide +kernel
theorem dX10_manOf_241 : decode cX10_manOf 241 = .ok (.ireturn, 1) := by decide +kernel
theorem dX10_manOf_242 : decode cX10_manOf 242 = .ok (.iconst 0, 1) := by decide +kernel
theorem dX10_manOf_243 : decode cX10_manOf 243 = .ok (.ireturn, 1) := by decide +kernel
theorem dX10_isDigit_0 : decode cX10_isDigit 0 = .ok (.iload_n 0, 1) := by decide +kernel
theorem dX10_isDigit_1 : decode cX10_isDigit 1 = .ok (.bipush 48, 2) := by decide +kernel
theorem dX10_isDigit_3 : decode cX10_isDigit 3 = .ok (.if_icmp .lt 13, 3) := by decide +kernel
theorem dX10_isDigit_6 : decode cX10_isDigit 6 = .ok (.iload_n 0, 1) := by decide +kernel
theorem dX10_isDigit_7 : decode cX10_isDigit 7 = .ok (.bipush 57, 2) := by decide +kernel
theorem dX10_isDigit_9 : decode cX10_isDigit 9 = .ok (.if_icmp .gt 7, 3) := by decide +kernel
theorem dX10_isDigit_12 : decode cX10_isDigit 12 = .ok (.iconst 1, 1) := by decide +kernel
theorem dX10_isDigit_13 : decode cX10_isDigit 13 = .ok (.goto 4, 3) := by decide +kernel
theorem dX10_isDigit_16 : decode cX10_isDigit 16 = .ok (.iconst 0, 1) := by decide +kernel
theorem dX10_isDigit_17 : decode cX10_isDigit 17 = .ok (.ireturn, 1) := by decide +kernel
theorem dX10_readRow_0 : decode cX10_readRow 0 = .ok (.iconst 0, 1) := by decide +kernel
theorem dX10_readRow_1 : decode cX10_readRow 1 = .ok (.istore_n 2, 1) := by decide +kernel
theorem dX10_readRow_2 : decode cX10_readRow 2 = .ok (.iconst 0, 1) := by decide +kernel
theorem dX10_readRow_3 : decode cX10_readRow 3 = .ok (.istore_n 3, 1) := by decide +kernel
theorem dX10_readRow_4 : decode cX10_readRow 4 = .ok (.iload_n 2, 1) := by decide +kernel
theorem dX10_readRow_5 : decode cX10_readRow 5 = .ok (.bipush 8, 2) := by decide +kernel
theorem dX10_readRow_7 : decode cX10_readRow 7 = .ok (.if_icmp .ge 121, 3) := by decide +kernel
theorem dX10_readRow_10 : decode cX10_readRow 10 = .ok (.aload_n 0, 1) := by decide +kernel
theorem dX10_readRow_11 : decode cX10_readRow 11 = .ok (.invokevirtual 214, 3) := by decide +kernel
theorem dX10_readRow_14 : decode cX10_readRow 14 = .ok (.istore 4, 2) := by decide +kernel
theorem dX10_readRow_16 : decode cX10_readRow 16 = .ok (.iload 4, 2) := by decide +kernel
theorem dX10_readRow_18 : decode cX10_readRow 18 = .ok (.invokestatic 217, 3) := by decide +kernel
theorem dX10_readRow_21 : decode cX10_readRow 21 = .ok (.istore 5, 2) := by decide +kernel
theorem dX10_readRow_23 : decode cX10_readRow 23 = .ok (.iload 4, 2) := by decide +kernel
theorem dX10_readRow_25 : decode cX10_readRow 25 = .ok (.bipush 49, 2) := by decide +kernel
theorem dX10_readRow_27 : decode cX10_readRow 27 = .ok (.if_icmp .lt 30, 3) := by decide +kernel
theorem dX10_readRow_30 : decode cX10_readRow 30 = .ok (.iload 4, 2) := by decide +kernel
theorem dX10_readRow_32 : decode cX10_readRow 32 = .ok (.bipush 56, 2) := by decide +kernel
theorem dX10_readRow_34 : decode cX10_readRow 34 = .ok (.if_icmp .gt 23, 3) := by decide +kernel
theorem dX10_readRow_37 : decode cX10_readRow 37 = .ok (.iload_n 3, 1) := by decide +kernel
theorem dX10_readRow_38 : decode cX10_readRow 38 = .ok (.ifCond .ne 19, 3) := by decide +kernel
theorem dX10_readRow_41 : decode cX10_readRow 41 = .ok (.iload_n 2, 1) := by decide +kernel
theorem dX10_readRow_42 : decode cX10_readRow 42 = .ok (.iload 4, 2) := by decide +kernel
theorem dX10_readRow_44 : decode cX10_readRow 44 = .ok (.iadd, 1) := by decide +kernel
theorem dX10_readRow_45 : decode cX10_readRow 45 = .ok (.bipush 48, 2) := by decide +kernel
theorem dX10_readRow_47 : decode cX10_readRow 47 = .ok (.isub, 1) := by decide +kernel
theorem dX10_readRow_48 : decode cX10_readRow 48 = .ok (.bipush 8, 2) := by decide +kernel
theorem dX10_readRow_50 : decode cX10_readRow 50 = .ok (.if_icmp .gt 7, 3) := by decide +kernel
theorem dX10_readRow_53 : decode cX10_readRow 53 = .ok (.iconst 1, 1) := by decide +kernel
theorem dX10_readRow_54 : decode cX10_readRow 54 = .ok (.goto 4, 3) := by decide +kernel
theorem dX10_readRow_57 : decode cX10_readRow 57 = .ok (.iconst 0, 1) := by decide +kernel
theorem dX10_readRow_58 : decode cX10_readRow 58 = .ok (.istore 6, 2) := by decide +kernel
theorem dX10_readRow_60 : decode cX10_readRow 60 = .ok (.iload 5, 2) := by decide +kernel
theorem dX10_readRow_62 : decode cX10_readRow 62 = .ok (.ifCond .ne 10, 3) := by decide +kernel
theorem dX10_readRow_65 : decode cX10_readRow 65 = .ok (.iload 6, 2) := by decide +kernel
theorem dX10_readRow_67 : decode cX10_readRow 67 = .ok (.ifCond .ne 5, 3) := by decide +kernel
theorem dX10_readRow_70 : decode cX10_readRow 70 = .ok (.iconst 0, 1) := by decide +kernel
theorem dX10_readRow_71 : decode cX10_readRow 71 = .ok (.ireturn, 1) := by decide +kernel
theorem dX10_readRow_72 : decode cX10_readRow 72 = .ok (.aload_n 0, 1) := by decide +kernel
theorem dX10_readRow_73 : decode cX10_readRow 73 = .ok (.dup, 1) := by decide +kernel
theorem dX10_readRow_74 : decode cX10_readRow 74 = .ok (.getfield 211, 3) := by decide +kernel
theorem dX10_readRow_77 : decode cX10_readRow 77 = .ok (.iconst 1, 1) := by decide +kernel
theorem dX10_readRow_78 : decode cX10_readRow 78 = .ok (.iadd, 1) := by decide +kernel
theorem dX10_readRow_79 : decode cX10_readRow 79 = .ok (.putfield 211, 3) := by decide +kernel
theorem dX10_readRow_82 : decode cX10_readRow 82 = .ok (.aload_n 0, 1) := by decide +kernel
theorem dX10_readRow_83 : decode cX10_readRow 83 = .ok (.getfield 57, 3) := by decide +kernel
theorem dX10_readRow_86 : decode cX10_readRow 86 = .ok (.bipush 8, 2) := by decide +kernel
theorem dX10_readRow_88 : decode cX10_readRow 88 = .ok (.iload_n 1, 1) := by decide +kernel
theorem dX10_readRow_89 : decode cX10_readRow 89 = .ok (.imul, 1) := by decide +kernel
theorem dX10_readRow_90 : decode cX10_readRow 90 = .ok (.iload_n 2, 1) := by decide +kernel
theorem dX10_readRow_91 : decode cX10_readRow 91 = .ok (.iadd, 1) := by decide +kernel
theorem dX10_readRow_92 : decode cX10_readRow 92 = .ok (.iload 5, 2) := by decide +kernel
theorem dX10_readRow_94 : decode cX10_readRow 94 = .ok (.iastore, 1) := by decide +kernel
theorem dX10_readRow_95 : decode cX10_readRow 95 = .ok (.iload 5, 2) := by decide +kernel
theorem dX10_readRow_97 : decode cX10_readRow 97 = .ok (.ifCond .eq 9, 3) := by decide +kernel
theorem dX10_readRow_100 : decode cX10_readRow 100 = .ok (.iload_n 2, 1) := by decide +kernel
theorem dX10_readRow_101 : decode cX10_readRow 101 = .ok (.iconst 1, 1) := by decide +kernel
theorem dX10_readRow_102 : decode cX10_readRow 102 = .ok (.iadd, 1) := by decide +kernel
theorem dX10_readRow_103 : decode cX10_readRow 103 = .ok (.goto 10, 3) := by decide +kernel
theorem dX10_readRow_106 : decode cX10_readRow 106 = .ok (.iload_n 2, 1) := by decide +kernel
theorem dX10_readRow_107 : decode cX10_readRow 107 = .ok (.iload 4, 2) := by decide +kernel
theorem dX10_readRow_109 : decode cX10_readRow 109 = .ok (.iadd, 1) := by decide +kernel
theorem dX10_readRow_110 : decode cX10_readRow 110 = .ok (.bipush 48, 2) := by decide +kernel
theorem dX10_readRow_112 : decode cX10_readRow 112 = .ok (.isub, 1) := by decide +kernel
theorem dX10_readRow_113 : decode cX10_readRow 113 = .ok (.istore_n 2, 1) := by decide +kernel
theorem dX10_readRow_114 : decode cX10_readRow 114 = .ok (.iload 5, 2) := by decide +kernel
theorem dX10_readRow_116 : decode cX10_readRow 116 = .ok (.ifCond .ne 7, 3) := by decide +kernel
theorem dX10_readRow_119 : decode cX10_readRow 119 = .ok (.iconst 1, 1) := by decide +kernel
theorem dX10_readRow_120 : decode cX10_readRow 120 = .ok (.goto 4, 3) := by decide +kernel
theorem dX10_readRow_123 : decode cX10_readRow 123 = .ok (.iconst 0, 1) := by decide +kernel
theorem dX10_readRow_124 : decode cX10_readRow 124 = .ok (.istore_n 3, 1) := by decide +kernel
theorem dX10_readRow_125 : decode cX10_readRow 125 = .ok (.goto (-121), 3) := by decide +kernel
theorem dX10_readRow_128 : decode cX10_readRow 128 = .ok (.iconst 1, 1) := by decide +kernel
theorem dX10_readRow_129 : decode cX10_readRow 129 = .ok (.ireturn, 1) := by decide +kernel
theorem dX10_readSquares_0 : decode cX10_readSquares 0 = .ok (.iconst 0, 1) := by decide +kernel
theorem dX10_readSquares_1 : decode cX10_readSquares 1 = .ok (.istore_n 1, 1) := by decide +kernel
theorem dX10_readSquares_2 : decode cX10_readSquares 2 = .ok (.iload_n 1, 1) := by decide +kernel
theorem dX10_readSquares_3 : decode cX10_readSquares 3 = .ok (.bipush 64, 2) := by decide +kernel
theorem dX10_readSquares_5 : decode cX10_readSquares 5 = .ok (.if_icmp .ge 16, 3) := by decide +kernel
theorem dX10_readSquares_8 : decode cX10_readSquares 8 = .ok (.aload_n 0, 1) := by decide +kernel
theorem dX10_readSquares_9 : decode cX10_readSquares 9 = .ok (.getfield 57, 3) := by decide +kernel
theorem dX10_readSquares_12 : decode cX10_readSquares 12 = .ok (.iload_n 1, 1) := by decide +kernel
theorem dX10_readSquares_13 : decode cX10_readSquares 13 = .ok (.iconst 0, 1) := by decide +kernel
theorem dX10_readSquares_14 : decode cX10_readSquares 14 = .ok (.iastore, 1) := by decide +kernel
theorem dX10_readSquares_15 : decode cX10_readSquares 15 = .ok (.iinc 1 1, 3) := by decide +kernel
theorem dX10_readSquares_18 : decode cX10_readSquares 18 = .ok (.goto (-16), 3) := by decide +kernel
theorem dX10_readSquares_21 : decode cX10_readSquares 21 = .ok (.bipush 7, 2) := by decide +kernel
theorem dX10_readSquares_23 : decode cX10_readSquares 23 = .ok (.istore_n 1, 1) := by decide +kernel
theorem dX10_readSquares_24 : decode cX10_readSquares 24 = .ok (.iload_n 1, 1) := by decide +kernel
theorem dX10_readSquares_25 : decode cX10_readSquares 25 = .ok (.ifCond .lt 37, 3) := by decide +kernel
theorem dX10_readSquares_28 : decode cX10_readSquares 28 = .ok (.aload_n 0, 1) := by decide +kernel
theorem dX10_readSquares_29 : decode cX10_readSquares 29 = .ok (.iload_n 1, 1) := by decide +kernel
theorem dX10_readSquares_30 : decode cX10_readSquares 30 = .ok (.invokevirtual 220, 3) := by decide +kernel
theorem dX10_readSquares_33 : decode cX10_readSquares 33 = .ok (.ifCond .eq 21, 3) := by decide +kernel
theorem dX10_readSquares_36 : decode cX10_readSquares 36 = .ok (.aload_n 0, 1) := by decide +kernel
theorem dX10_readSquares_37 : decode cX10_readSquares 37 = .ok (.iload_n 1, 1) := by decide +kernel
theorem dX10_readSquares_38 : decode cX10_readSquares 38 = .ok (.ifCond .le 8, 3) := by decide +kernel
theorem dX10_readSquares_41 : decode cX10_readSquares 41 = .ok (.bipush 47, 2) := by decide +kernel
theorem dX10_readSquares_43 : decode cX10_readSquares 43 = .ok (.goto 5, 3) := by decide +kernel
theorem dX10_readSquares_46 : decode cX10_readSquares 46 = .ok (.bipush 32, 2) := by decide +kernel
theorem dX10_readSquares_48 : decode cX10_readSquares 48 = .ok (.invokevirtual 223, 3) := by decide +kernel
theorem dX10_readSquares_51 : decode cX10_readSquares 51 = .ok (.ifCond .ne 5, 3) := by decide +kernel
theorem dX10_readSquares_54 : decode cX10_readSquares 54 = .ok (.iconst 0, 1) := by decide +kernel
theorem dX10_readSquares_55 : decode cX10_readSquares 55 = .ok (.ireturn, 1) := by decide +kernel
theorem dX10_readSquares_56 : decode cX10_readSquares 56 = .ok (.iinc 1 (-1), 3) := by decide +kernel
theorem dX10_readSquares_59 : decode cX10_readSquares 59 = .ok (.goto (-35), 3) := by decide +kernel
theorem dX10_readSquares_62 : decode cX10_readSquares 62 = .ok (.iconst 1, 1) := by decide +kernel
theorem dX10_readSquares_63 : decode cX10_readSquares 63 = .ok (.ireturn, 1) := by decide +kernel
theorem dX10_readMover_0 : decode cX10_readMover 0 = .ok (.aload_n 0, 1) := by decide +kernel
theorem dX10_readMover_1 : decode cX10_readMover 1 = .ok (.aload_n 0, 1) := by decide +kernel
theorem dX10_readMover_2 : decode cX10_readMover 2 = .ok (.invokevirtual 214, 3) := by decide +kernel
theorem dX10_readMover_5 : decode cX10_readMover 5 = .ok (.bipush 119, 2) := by decide +kernel
theorem dX10_readMover_7 : decode cX10_readMover 7 = .ok (.if_icmp .ne 7, 3) := by decide +kernel
theorem dX10_readMover_10 : decode cX10_readMover 10 = .ok (.iconst 0, 1) := by decide +kernel
theorem dX10_readMover_11 : decode cX10_readMover 11 = .ok (.goto 4, 3) := by decide +kernel
theorem dX10_readMover_14 : decode cX10_readMover 14 = .ok (.iconst 1, 1) := by decide +kernel
theorem dX10_readMover_15 : decode cX10_readMover 15 = .ok (.putfield 226, 3) := by decide +kernel
theorem dX10_readMover_18 : decode cX10_readMover 18 = .ok (.aload_n 0, 1) := by decide +kernel
theorem dX10_readMover_19 : decode cX10_readMover 19 = .ok (.bipush 119, 2) := by decide +kernel
theorem dX10_readMover_21 : decode cX10_readMover 21 = .ok (.invokevirtual 223, 3) := by decide +kernel
theorem dX10_readMover_24 : decode cX10_readMover 24 = .ok (.ifCond .ne 12, 3) := by decide +kernel
theorem dX10_readMover_27 : decode cX10_readMover 27 = .ok (.aload_n 0, 1) := by decide +kernel
theorem dX10_readMover_28 : decode cX10_readMover 28 = .ok (.bipush 98, 2) := by decide +kernel
theorem dX10_readMover_30 : decode cX10_readMover 30 = .ok (.invokevirtual 223, 3) := by decide +kernel
theorem dX10_readMover_33 : decode cX10_readMover 33 = .ok (.ifCond .eq 16, 3) := by decide +kernel
theorem dX10_readMover_36 : decode cX10_readMover 36 = .ok (.aload_n 0, 1) := by decide +kernel
theorem dX10_readMover_37 : decode cX10_readMover 37 = .ok (.bipush 32, 2) := by decide +kernel
theorem dX10_readMover_39 : decode cX10_readMover 39 = .ok (.invokevirtual 223, 3) := by decide +kernel
theorem dX10_readMover_42 : decode cX10_readMover 42 = .ok (.ifCond .eq 7, 3) := by decide +kernel
theorem dX10_readMover_45 : decode cX10_readMover 45 = .ok (.iconst 1, 1) := by decide +kernel
theorem dX10_readMover_46 : decode cX10_readMover 46 = .ok (.goto 4, 3) := by decide +kernel
theorem dX10_readMover_49 : decode cX10_readMover 49 = .ok (.iconst 0, 1) := by decide +kernel
theorem dX10_readMover_50 : decode cX10_readMover 50 = .ok (.ireturn, 1) := by decide +kernel
theorem dX10_readCastles_0 : decode cX10_readCastles 0 = .ok (.aload_n 0, 1) := by decide +kernel
theorem dX10_readCastles_1 : decode cX10_readCastles 1 = .ok (.iconst 0, 1) := by decide +kernel
theorem dX10_readCastles_2 : decode cX10_readCastles 2 = .ok (.putfield 229, 3) := by decide +kernel
theorem dX10_readCastles_5 : decode cX10_readCastles 5 = .ok (.aload_n 0, 1) := by decide +kernel
theorem dX10_readCastles_6 : decode cX10_readCastles 6 = .ok (.bipush 45, 2) := by decide +kernel
theorem dX10_readCastles_8 : decode cX10_readCastles 8 = .ok (.invokevirtual 223, 3) := by decide +kernel
theorem dX10_readCastles_11 : decode cX10_readCastles 11 = .ok (.ifCond .eq 10, 3) := by decide +kernel
theorem dX10_readCastles_14 : decode cX10_readCastles 14 = .ok (.aload_n 0, 1) := by decide +kernel
theorem dX10_readCastles_15 : decode cX10_readCastles 15 = .ok (.bipush 32, 2) := by decide +kernel
theorem dX10_readCastles_17 : decode cX10_readCastles 17 = .ok (.invokevirtual 223, 3) := by decide +kernel
theorem dX10_readCastles_20 : decode cX10_readCastles 20 = .ok (.ireturn, 1) := by decide +kernel
theorem dX10_readCastles_21 : decode cX10_readCastles 21 = .ok (.aload_n 0, 1) := by decide +kernel
theorem dX10_readCastles_22 : decode cX10_readCastles 22 = .ok (.aload_n 0, 1) := by decide +kernel
theorem dX10_readCastles_23 : decode cX10_readCastles 23 = .ok (.bipush 75, 2) := by decide +kernel
theorem dX10_readCastles_25 : decode cX10_readCastles 25 = .ok (.invokevirtual 223, 3) := by decide +kernel
theorem dX10_readCastles_28 : decode cX10_readCastles 28 = .ok (.ifCond .eq 12, 3) := by decide +kernel
theorem dX10_readCastles_31 : decode cX10_readCastles 31 = .ok (.aload_n 0, 1) := by decide +kernel
theorem dX10_readCastles_32 : decode cX10_readCastles 32 = .ok (.getfield 229, 3) := by decide +kernel
theorem dX10_readCastles_35 : decode cX10_readCastles 35 = .ok (.iconst 1, 1) := by decide +kernel
theorem dX10_readCastles_36 : decode cX10_readCastles 36 = .ok (.iadd, 1) := by decide +kernel
theorem dX10_readCastles_37 : decode cX10_readCastles 37 = .ok (.goto 7, 3) := by decide +kernel
theorem dX10_readCastles_40 : decode cX10_readCastles 40 = .ok (.aload_n 0, 1) := by decide +kernel
theorem dX10_readCastles_41 : decode cX10_readCastles 41 = .ok (.getfield 229, 3) := by decide +kernel
theorem dX10_readCastles_44 : decode cX10_readCastles 44 = .ok (.putfield 229, 3) := by decide +kernel
theorem dX10_readCastles_47 : decode cX10_readCastles 47 = .ok (.aload_n 0, 1) := by decide +kernel
theorem dX10_readCastles_48 : decode cX10_readCastles 48 = .ok (.aload_n 0, 1) := by decide +kernel
theorem dX10_readCastles_49 : decode cX10_readCastles 49 = .ok (.bipush 81, 2) := by decide +kernel
theorem dX10_readCastles_51 : decode cX10_readCastles 51 = .ok (.invokevirtual 223, 3) := by decide +kernel
theorem dX10_readCastles_54 : decode cX10_readCastles 54 = .ok (.ifCond .eq 12, 3) := by decide +kernel
theorem dX10_readCastles_57 : decode cX10_readCastles 57 = .ok (.aload_n 0, 1) := by decide +kernel
theorem dX10_readCastles_58 : decode cX10_readCastles 58 = .ok (.getfield 229, 3) := by decide +kernel
theorem dX10_readCastles_61 : decode cX10_readCastles 61 = .ok (.iconst 2, 1) := by decide +kernel
theorem dX10_readCastles_62 : decode cX10_readCastles 62 = .ok (.iadd, 1) := by decide +kernel
theorem dX10_readCastles_63 : decode cX10_readCastles 63 = .ok (.goto 7, 3) := by decide +kernel
theorem dX10_readCastles_66 : decode cX10_readCastles 66 = .ok (.aload_n 0, 1) := by decide +kernel
theorem dX10_readCastles_67 : decode cX10_readCastles 67 = .ok (.getfield 229, 3) := by decide +kernel
theorem dX10_readCastles_70 : decode cX10_readCastles 70 = .ok (.putfield 229, 3) := by decide +kernel
theorem dX10_readCastles_73 : decode cX10_readCastles 73 = .ok (.aload_n 0, 1) := by decide +kernel
theorem dX10_readCastles_74 : decode cX10_readCastles 74 = .ok (.aload_n 0, 1) := by decide +kernel
theorem dX10_readCastles_75 : decode cX10_readCastles 75 = .ok (.bipush 107, 2) := by decide +kernel
theorem dX10_readCastles_77 : decode cX10_readCastles 77 = .ok (.invokevirtual 223, 3) := by decide +kernel
theorem dX10_readCastles_80 : decode cX10_readCastles 80 = .ok (.ifCond .eq 12, 3) := by decide +kernel
theorem dX10_readCastles_83 : decode cX10_readCastles 83 = .ok (.aload_n 0, 1) := by decide +kernel
theorem dX10_readCastles_84 : decode cX10_readCastles 84 = .ok (.getfield 229, 3) := by decide +kernel
theorem dX10_readCastles_87 : decode cX10_readCastles 87 = .ok (.iconst 4, 1) := by decide +kernel
theorem dX10_readCastles_88 : decode cX10_readCastles 88 = .ok (.iadd, 1) := by decide +kernel
theorem dX10_readCastles_89 : decode cX10_readCastles 89 = .ok (.goto 7, 3) := by decide +kernel
theorem dX10_readCastles_92 : decode cX10_readCastles 92 = .ok (.aload_n 0, 1) := by decide +kernel
theorem dX10_readCastles_93 : decode cX10_readCastles 93 = .ok (.getfield 229, 3) := by decide +kernel
theorem dX10_readCastles_96 : decode cX10_readCastles 96 = .ok (.putfield 229, 3) := by decide +kernel
theorem dX10_readCastles_99 : decode cX10_readCastles 99 = .ok (.aload_n 0, 1) := by decide +kernel
theorem dX10_readCastles_100 : decode cX10_readCastles 100 = .ok (.aload_n 0, 1) := by decide +kernel
theorem dX10_readCastles_101 : decode cX10_readCastles 101 = .ok (.bipush 113, 2) := by decide +kernel
theorem dX10_readCastles_103 : decode cX10_readCastles 103 = .ok (.invokevirtual 223, 3) := by decide +kernel
theorem dX10_readCastles_106 : decode cX10_readCastles 106 = .ok (.ifCond .eq 13, 3) := by decide +kernel
theorem dX10_readCastles_109 : decode cX10_readCastles 109 = .ok (.aload_n 0, 1) := by decide +kernel
theorem dX10_readCastles_110 : decode cX10_readCastles 110 = .ok (.getfield 229, 3) := by decide +kernel
theorem dX10_readCastles_113 : decode cX10_readCastles 113 = .ok (.bipush 8, 2) := by decide +kernel
theorem dX10_readCastles_115 : decode cX10_readCastles 115 = .ok (.iadd, 1) := by decide +kernel
theorem dX10_readCastles_116 : decode cX10_readCastles 116 = .ok (.goto 7, 3) := by decide +kernel
theorem dX10_readCastles_119 : decode cX10_readCastles 119 = .ok (.aload_n 0, 1) := by decide +kernel
theorem dX10_readCastles_120 : decode cX10_readCastles 120 = .ok (.getfield 229, 3) := by decide +kernel
theorem dX10_readCastles_123 : decode cX10_readCastles 123 = .ok (.putfield 229, 3) := by decide +kernel
theorem dX10_readCastles_126 : decode cX10_readCastles 126 = .ok (.aload_n 0, 1) := by decide +kernel
theorem dX10_readCastles_127 : decode cX10_readCastles 127 = .ok (.getfield 229, 3) := by decide +kernel
theorem dX10_readCastles_130 : decode cX10_readCastles 130 = .ok (.ifCond .le 16, 3) := by decide +kernel
theorem dX10_readCastles_133 : decode cX10_readCastles 133 = .ok (.aload_n 0, 1) := by decide +kernel
theorem dX10_readCastles_134 : decode cX10_readCastles 134 = .ok (.bipush 32, 2) := by decide +kernel
theorem dX10_readCastles_136 : decode cX10_readCastles 136 = .ok (.invokevirtual 223, 3) := by decide +kernel
theorem dX10_readCastles_139 : decode cX10_readCastles 139 = .ok (.ifCond .eq 7, 3) := by decide +kernel
theorem dX10_readCastles_142 : decode cX10_readCastles 142 = .ok (.iconst 1, 1) := by decide +kernel
theorem dX10_readCastles_143 : decode cX10_readCastles 143 = .ok (.goto 4, 3) := by decide +kernel
theorem dX10_readCastles_146 : decode cX10_readCastles 146 = .ok (.iconst 0, 1) := by decide +kernel
theorem dX10_readCastles_147 : decode cX10_readCastles 147 = .ok (.ireturn, 1) := by decide +kernel
theorem dX10_readSquare_0 : decode cX10_readSquare 0 = .ok (.aload_n 0, 1) := by decide +kernel
theorem dX10_readSquare_1 : decode cX10_readSquare 1 = .ok (.iconst (-1), 1) := by decide +kernel
theorem dX10_readSquare_2 : decode cX10_readSquare 2 = .ok (.putfield 232, 3) := by decide +kernel
theorem dX10_readSquare_5 : decode cX10_readSquare 5 = .ok (.aload_n 0, 1) := by decide +kernel
theorem dX10_readSquare_6 : decode cX10_readSquare 6 = .ok (.bipush 45, 2) := by decide +kernel
theorem dX10_readSquare_8 : decode cX10_readSquare 8 = .ok (.invokevirtual 223, 3) := by decide +kernel
theorem dX10_readSquare_11 : decode cX10_readSquare 11 = .ok (.ifCond .eq 10, 3) := by decide +kernel
theorem dX10_readSquare_14 : decode cX10_readSquare 14 = .ok (.aload_n 0, 1) := by decide +kernel
theorem dX10_readSquare_15 : decode cX10_readSquare 15 = .ok (.bipush 32, 2) := by decide +kernel
theorem dX10_readSquare_17 : decode cX10_readSquare 17 = .ok (.invokevirtual 223, 3) := by decide +kernel
theorem dX10_readSquare_20 : decode cX10_readSquare 20 = .ok (.ireturn, 1) := by decide +kernel
theorem dX10_readSquare_21 : decode cX10_readSquare 21 = .ok (.aload_n 0, 1) := by decide +kernel
theorem dX10_readSquare_22 : decode cX10_readSquare 22 = .ok (.invokevirtual 214, 3) := by decide +kernel
theorem dX10_readSquare_25 : decode cX10_readSquare 25 = .ok (.istore_n 1, 1) := by decide +kernel
theorem dX10_readSquare_26 : decode cX10_readSquare 26 = .ok (.iload_n 1, 1) := by decide +kernel
theorem dX10_readSquare_27 : decode cX10_readSquare 27 = .ok (.bipush 97, 2) := by decide +kernel
theorem dX10_readSquare_29 : decode cX10_readSquare 29 = .ok (.if_icmp .lt 9, 3) := by decide +kernel
theorem dX10_readSquare_32 : decode cX10_readSquare 32 = .ok (.iload_n 1, 1) := by decide +kernel
theorem dX10_readSquare_33 : decode cX10_readSquare 33 = .ok (.bipush 104, 2) := by decide +kernel
theorem dX10_readSquare_35 : decode cX10_readSquare 35 = .ok (.if_icmp .le 5, 3) := by decide +kernel
theorem dX10_readSquare_38 : decode cX10_readSquare 38 = .ok (.iconst 0, 1) := by decide +kernel
theorem dX10_readSquare_39 : decode cX10_readSquare 39 = .ok (.ireturn, 1) := by decide +kernel
theorem dX10_readSquare_40 : decode cX10_readSquare 40 = .ok (.aload_n 0, 1) := by decide +kernel
theorem dX10_readSquare_41 : decode cX10_readSquare 41 = .ok (.dup, 1) := by decide +kernel
theorem dX10_readSquare_42 : decode cX10_readSquare 42 = .ok (.getfield 211, 3) := by decide +kernel
theorem dX10_readSquare_45 : decode cX10_readSquare 45 = .ok (.iconst 1, 1) := by decide +kernel
theorem dX10_readSquare_46 : decode cX10_readSquare 46 = .ok (.iadd, 1) := by decide +kernel
theorem dX10_readSquare_47 : decode cX10_readSquare 47 = .ok (.putfield 211, 3) := by decide +kernel
theorem dX10_readSquare_50 : decode cX10_readSquare 50 = .ok (.aload_n 0, 1) := by decide +kernel
theorem dX10_readSquare_51 : decode cX10_readSquare 51 = .ok (.invokevirtual 214, 3) := by decide +kernel
theorem dX10_readSquare_54 : decode cX10_readSquare 54 = .ok (.istore_n 2, 1) := by decide +kernel
theorem dX10_readSquare_55 : decode cX10_readSquare 55 = .ok (.iload_n 2, 1) := by decide +kernel
theorem dX10_readSquare_56 : decode cX10_readSquare 56 = .ok (.bipush 49, 2) := by decide +kernel
theorem dX10_readSquare_58 : decode cX10_readSquare 58 = .ok (.if_icmp .lt 9, 3) := by decide +kernel
theorem dX10_readSquare_61 : decode cX10_readSquare 61 = .ok (.iload_n 2, 1) := by decide +kernel
theorem dX10_readSquare_62 : decode cX10_readSquare 62 = .ok (.bipush 56, 2) := by decide +kernel
theorem dX10_readSquare_64 : decode cX10_readSquare 64 = .ok (.if_icmp .le 5, 3) := by decide +kernel
theorem dX10_readSquare_67 : decode cX10_readSquare 67 = .ok (.iconst 0, 1) := by decide +kernel
theorem dX10_readSquare_68 : decode cX10_readSquare 68 = .ok (.ireturn, 1) := by decide +kernel
theorem dX10_readSquare_69 : decode cX10_readSquare 69 = .ok (.aload_n 0, 1) := by decide +kernel
theorem dX10_readSquare_70 : decode cX10_readSquare 70 = .ok (.dup, 1) := by decide +kernel
theorem dX10_readSquare_71 : decode cX10_readSquare 71 = .ok (.getfield 211, 3) := by decide +kernel
theorem dX10_readSquare_74 : decode cX10_readSquare 74 = .ok (.iconst 1, 1) := by decide +kernel
theorem dX10_readSquare_75 : decode cX10_readSquare 75 = .ok (.iadd, 1) := by decide +kernel
theorem dX10_readSquare_76 : decode cX10_readSquare 76 = .ok (.putfield 211, 3) := by decide +kernel
theorem dX10_readSquare_79 : decode cX10_readSquare 79 = .ok (.aload_n 0, 1) := by decide +kernel
theorem dX10_readSquare_80 : decode cX10_readSquare 80 = .ok (.bipush 8, 2) := by decide +kernel
theorem dX10_readSquare_82 : decode cX10_readSquare 82 = .ok (.iload_n 2, 1) := by decide +kernel
theorem dX10_readSquare_83 : decode cX10_readSquare 83 = .ok (.bipush 49, 2) := by decide +kernel
theorem dX10_readSquare_85 : decode cX10_readSquare 85 = .ok (.isub, 1) := by decide +kernel
theorem dX10_readSquare_86 : decode cX10_readSquare 86 = .ok (.imul, 1) := by decide +kernel
theorem dX10_readSquare_87 : decode cX10_readSquare 87 = .ok (.iload_n 1, 1) := by decide +kernel
theorem dX10_readSquare_88 : decode cX10_readSquare 88 = .ok (.iadd, 1) := by decide +kernel
theorem dX10_readSquare_89 : decode cX10_readSquare 89 = .ok (.bipush 97, 2) := by decide +kernel
theorem dX10_readSquare_91 : decode cX10_readSquare 91 = .ok (.isub, 1) := by decide +kernel
theorem dX10_readSquare_92 : decode cX10_readSquare 92 = .ok (.putfield 232, 3) := by decide +kernel
theorem dX10_readSquare_95 : decode cX10_readSquare 95 = .ok (.aload_n 0, 1) := by decide +kernel
theorem dX10_readSquare_96 : decode cX10_readSquare 96 = .ok (.bipush 32, 2) := by decide +kernel
theorem dX10_readSquare_98 : decode cX10_readSquare 98 = .ok (.invokevirtual 223, 3) := by decide +kernel
theorem dX10_readSquare_101 : decode cX10_readSquare 101 = .ok (.ireturn, 1) := by decide +kernel
theorem dX10_numberFrom_0 : decode cX10_numberFrom 0 = .ok (.aload_n 0, 1) := by decide +kernel
theorem dX10_numberFrom_1 : decode cX10_numberFrom 1 = .ok (.invokevirtual 214, 3) := by decide +kernel
theorem dX10_numberFrom_4 : decode cX10_numberFrom 4 = .ok (.bipush 48, 2) := by decide +kernel
theorem dX10_numberFrom_6 : decode cX10_numberFrom 6 = .ok (.isub, 1) := by decide +kernel
theorem dX10_numberFrom_7 : decode cX10_numberFrom 7 = .ok (.istore_n 2, 1) := by decide +kernel
theorem dX10_numberFrom_8 : decode cX10_numberFrom 8 = .ok (.aload_n 0, 1) := by decide +kernel
theorem dX10_numberFrom_9 : decode cX10_numberFrom 9 = .ok (.invokevirtual 214, 3) := by decide +kernel
theorem dX10_numberFrom_12 : decode cX10_numberFrom 12 = .ok (.invokestatic 235, 3) := by decide +kernel
theorem dX10_numberFrom_15 : decode cX10_numberFrom 15 = .ok (.ifCond .eq 8, 3) := by decide +kernel
theorem dX10_numberFrom_18 : decode cX10_numberFrom 18 = .ok (.iload_n 2, 1) := by decide +kernel
theorem dX10_numberFrom_19 : decode cX10_numberFrom 19 = .ok (.iload_n 1, 1) := by decide +kernel
theorem dX10_numberFrom_20 : decode cX10_numberFrom 20 = .ok (.if_icmp .ge 5, 3) := by decide +kernel
theorem dX10_numberFrom_23 : decode cX10_numberFrom 23 = .ok (.iconst (-1), 1) := by decide +kernel
theorem dX10_numberFrom_24 : decode cX10_numberFrom 24 = .ok (.ireturn, 1) := by decide +kernel
theorem dX10_numberFrom_25 : decode cX10_numberFrom 25 = .ok (.aload_n 0, 1) := by decide +kernel
theorem dX10_numberFrom_26 : decode cX10_numberFrom 26 = .ok (.dup, 1) := by decide +kernel
theorem dX10_numberFrom_27 : decode cX10_numberFrom 27 = .ok (.getfield 211, 3) := by decide +kernel
theorem dX10_numberFrom_30 : decode cX10_numberFrom 30 = .ok (.iconst 1, 1) := by decide +kernel
theorem dX10_numberFrom_31 : decode cX10_numberFrom 31 = .ok (.iadd, 1) := by decide +kernel
theorem dX10_numberFrom_32 : decode cX10_numberFrom 32 = .ok (.putfield 211, 3) := by decide +kernel
theorem dX10_numberFrom_35 : decode cX10_numberFrom 35 = .ok (.iload_n 2, 1) := by decide +kernel
theorem dX10_numberFrom_36 : decode cX10_numberFrom 36 = .ok (.ifCond .le 59, 3) := by decide +kernel
theorem dX10_numberFrom_39 : decode cX10_numberFrom 39 = .ok (.aload_n 0, 1) := by decide +kernel
theorem dX10_numberFrom_40 : decode cX10_numberFrom 40 = .ok (.invokevirtual 214, 3) := by decide +kernel
theorem dX10_numberFrom_43 : decode cX10_numberFrom 43 = .ok (.invokestatic 235, 3) := by decide +kernel
theorem dX10_numberFrom_46 : decode cX10_numberFrom 46 = .ok (.ifCond .eq 49, 3) := by decide +kernel
theorem dX10_numberFrom_49 : decode cX10_numberFrom 49 = .ok (.bipush 10, 2) := by decide +kernel
theorem dX10_numberFrom_51 : decode cX10_numberFrom 51 = .ok (.iload_n 2, 1) := by decide +kernel
theorem dX10_numberFrom_52 : decode cX10_numberFrom 52 = .ok (.imul, 1) := by decide +kernel
theorem dX10_numberFrom_53 : decode cX10_numberFrom 53 = .ok (.aload_n 0, 1) := by decide +kernel
theorem dX10_numberFrom_54 : decode cX10_numberFrom 54 = .ok (.invokevirtual 214, 3) := by decide +kernel
theorem dX10_numberFrom_57 : decode cX10_numberFrom 57 = .ok (.iadd, 1) := by decide +kernel
theorem dX10_numberFrom_58 : decode cX10_numberFrom 58 = .ok (.bipush 48, 2) := by decide +kernel
theorem dX10_numberFrom_60 : decode cX10_numberFrom 60 = .ok (.isub, 1) := by decide +kernel
theorem dX10_numberFrom_61 : decode cX10_numberFrom 61 = .ok (.sipush 9999, 3) := by decide +kernel
theorem dX10_numberFrom_64 : decode cX10_numberFrom 64 = .ok (.if_icmp .le 5, 3) := by decide +kernel
theorem dX10_numberFrom_67 : decode cX10_numberFrom 67 = .ok (.iconst (-1), 1) := by decide +kernel
theorem dX10_numberFrom_68 : decode cX10_numberFrom 68 = .ok (.ireturn, 1) := by decide +kernel
theorem dX10_numberFrom_69 : decode cX10_numberFrom 69 = .ok (.bipush 10, 2) := by decide +kernel
theorem dX10_numberFrom_71 : decode cX10_numberFrom 71 = .ok (.iload_n 2, 1) := by decide +kernel
theorem dX10_numberFrom_72 : decode cX10_numberFrom 72 = .ok (.imul, 1) := by decide +kernel
theorem dX10_numberFrom_73 : decode cX10_numberFrom 73 = .ok (.aload_n 0, 1) := by decide +kernel
theorem dX10_numberFrom_74 : decode cX10_numberFrom 74 = .ok (.invokevirtual 214, 3) := by decide +kernel
theorem dX10_numberFrom_77 : decode cX10_numberFrom 77 = .ok (.iadd, 1) := by decide +kernel
theorem dX10_numberFrom_78 : decode cX10_numberFrom 78 = .ok (.bipush 48, 2) := by decide +kernel
theorem dX10_numberFrom_80 : decode cX10_numberFrom 80 = .ok (.isub, 1) := by decide +kernel
theorem dX10_numberFrom_81 : decode cX10_numberFrom 81 = .ok (.istore_n 2, 1) := by decide +kernel
theorem dX10_numberFrom_82 : decode cX10_numberFrom 82 = .ok (.aload_n 0, 1) := by decide +kernel
theorem dX10_numberFrom_83 : decode cX10_numberFrom 83 = .ok (.dup, 1) := by decide +kernel
theorem dX10_numberFrom_84 : decode cX10_numberFrom 84 = .ok (.getfield 211, 3) := by decide +kernel
theorem dX10_numberFrom_87 : decode cX10_numberFrom 87 = .ok (.iconst 1, 1) := by decide +kernel
theorem dX10_numberFrom_88 : decode cX10_numberFrom 88 = .ok (.iadd, 1) := by decide +kernel
theorem dX10_numberFrom_89 : decode cX10_numberFrom 89 = .ok (.putfield 211, 3) := by decide +kernel
theorem dX10_numberFrom_92 : decode cX10_numberFrom 92 = .ok (.goto (-57), 3) := by decide +kernel
theorem dX10_numberFrom_95 : decode cX10_numberFrom 95 = .ok (.iload_n 2, 1) := by decide +kernel
theorem dX10_numberFrom_96 : decode cX10_numberFrom 96 = .ok (.ireturn, 1) := by decide +kernel
theorem dX10_isWritten_0 : decode cX10_isWritten 0 = .ok (.aload_n 0, 1) := by decide +kernel
theorem dX10_isWritten_1 : decode cX10_isWritten 1 = .ok (.iconst 0, 1) := by decide +kernel
theorem dX10_isWritten_2 : decode cX10_isWritten 2 = .ok (.putfield 211, 3) := by decide +kernel
theorem dX10_isWritten_5 : decode cX10_isWritten 5 = .ok (.aload_n 0, 1) := by decide +kernel
theorem dX10_isWritten_6 : decode cX10_isWritten 6 = .ok (.invokevirtual 238, 3) := by decide +kernel
theorem dX10_isWritten_9 : decode cX10_isWritten 9 = .ok (.ifCond .eq 24, 3) := by decide +kernel
theorem dX10_isWritten_12 : decode cX10_isWritten 12 = .ok (.aload_n 0, 1) := by decide +kernel
theorem dX10_isWritten_13 : decode cX10_isWritten 13 = .ok (.invokevirtual 241, 3) := by decide +kernel
theorem dX10_isWritten_16 : decode cX10_isWritten 16 = .ok (.ifCond .eq 17, 3) := by decide +kernel
theorem dX10_isWritten_19 : decode cX10_isWritten 19 = .ok (.aload_n 0, 1) := by decide +kernel
theorem dX10_isWritten_20 : decode cX10_isWritten 20 = .ok (.invokevirtual 244, 3) := by decide +kernel
theorem dX10_isWritten_23 : decode cX10_isWritten 23 = .ok (.ifCond .eq 10, 3) := by decide +kernel
theorem dX10_isWritten_26 : decode cX10_isWritten 26 = .ok (.aload_n 0, 1) := by decide +kernel
theorem dX10_isWritten_27 : decode cX10_isWritten 27 = .ok (.invokevirtual 247, 3) := by decide +kernel
theorem dX10_isWritten_30 : decode cX10_isWritten 30 = .ok (.ifCond .ne 5, 3) := by decide +kernel
theorem dX10_isWritten_33 : decode cX10_isWritten 33 = .ok (.iconst 0, 1) := by decide +kernel
theorem dX10_isWritten_34 : decode cX10_isWritten 34 = .ok (.ireturn, 1) := by decide +kernel
theorem dX10_isWritten_35 : decode cX10_isWritten 35 = .ok (.aload_n 0, 1) := by decide +kernel
theorem dX10_isWritten_36 : decode cX10_isWritten 36 = .ok (.aload_n 0, 1) := by decide +kernel
theorem dX10_isWritten_37 : decode cX10_isWritten 37 = .ok (.iconst 0, 1) := by decide +kernel
theorem dX10_isWritten_38 : decode cX10_isWritten 38 = .ok (.invokevirtual 250, 3) := by decide +kernel
theorem dX10_isWritten_41 : decode cX10_isWritten 41 = .ok (.putfield 253, 3) := by decide +kernel
theorem dX10_isWritten_44 : decode cX10_isWritten 44 = .ok (.aload_n 0, 1) := by decide +kernel
theorem dX10_isWritten_45 : decode cX10_isWritten 45 = .ok (.getfield 253, 3) := by decide +kernel
theorem dX10_isWritten_48 : decode cX10_isWritten 48 = .ok (.ifCond .lt 12, 3) := by decide +kernel
theorem dX10_isWritten_51 : decode cX10_isWritten 51 = .ok (.aload_n 0, 1) := by decide +kernel
theorem dX10_isWritten_52 : decode cX10_isWritten 52 = .ok (.bipush 32, 2) := by decide +kernel
theorem dX10_isWritten_54 : decode cX10_isWritten 54 = .ok (.invokevirtual 223, 3) := by decide +kernel
theorem dX10_isWritten_57 : decode cX10_isWritten 57 = .ok (.ifCond .ne 5, 3) := by decide +kernel
theorem dX10_isWritten_60 : decode cX10_isWritten 60 = .ok (.iconst 0, 1) := by decide +kernel
theorem dX10_isWritten_61 : decode cX10_isWritten 61 = .ok (.ireturn, 1) := by decide +kernel
theorem dX10_isWritten_62 : decode cX10_isWritten 62 = .ok (.aload_n 0, 1) := by decide +kernel
theorem dX10_isWritten_63 : decode cX10_isWritten 63 = .ok (.aload_n 0, 1) := by decide +kernel
theorem dX10_isWritten_64 : decode cX10_isWritten 64 = .ok (.iconst 1, 1) := by decide +kernel
theorem dX10_isWritten_65 : decode cX10_isWritten 65 = .ok (.invokevirtual 250, 3) := by decide +kernel
theorem dX10_isWritten_68 : decode cX10_isWritten 68 = .ok (.putfield 256, 3) := by decide +kernel
theorem dX10_isWritten_71 : decode cX10_isWritten 71 = .ok (.aload_n 0, 1) := by decide +kernel
theorem dX10_isWritten_72 : decode cX10_isWritten 72 = .ok (.getfield 256, 3) := by decide +kernel
theorem dX10_isWritten_75 : decode cX10_isWritten 75 = .ok (.ifCond .le 18, 3) := by decide +kernel
theorem dX10_isWritten_78 : decode cX10_isWritten 78 = .ok (.aload_n 0, 1) := by decide +kernel
theorem dX10_isWritten_79 : decode cX10_isWritten 79 = .ok (.getfield 211, 3) := by decide +kernel
theorem dX10_isWritten_82 : decode cX10_isWritten 82 = .ok (.aload_n 0, 1) := by decide +kernel
theorem dX10_isWritten_83 : decode cX10_isWritten 83 = .ok (.getfield 208, 3) := by decide +kernel
theorem dX10_isWritten_86 : decode cX10_isWritten 86 = .ok (.if_icmp .ne 7, 3) := by decide +kernel
theorem dX10_isWritten_89 : decode cX10_isWritten 89 = .ok (.iconst 1, 1) := by decide +kernel
theorem dX10_isWritten_90 : decode cX10_isWritten 90 = .ok (.goto 4, 3) := by decide +kernel
theorem dX10_isWritten_93 : decode cX10_isWritten 93 = .ok (.iconst 0, 1) := by decide +kernel
theorem dX10_isWritten_94 : decode cX10_isWritten 94 = .ok (.ireturn, 1) := by decide +kernel
theorem dX10_men_0 : decode cX10_men 0 = .ok (.iconst 0, 1) := by decide +kernel
theorem dX10_men_1 : decode cX10_men 1 = .ok (.istore_n 3, 1) := by decide +kernel
theorem dX10_men_2 : decode cX10_men 2 = .ok (.iconst 0, 1) := by decide +kernel
theorem dX10_men_3 : decode cX10_men 3 = .ok (.istore 4, 2) := by decide +kernel
theorem dX10_men_5 : decode cX10_men 5 = .ok (.iload 4, 2) := by decide +kernel
theorem dX10_men_7 : decode cX10_men 7 = .ok (.bipush 64, 2) := by decide +kernel
theorem dX10_men_9 : decode cX10_men 9 = .ok (.if_icmp .ge 50, 3) := by decide +kernel
theorem dX10_men_12 : decode cX10_men 12 = .ok (.aload_n 0, 1) := by decide +kernel
theorem dX10_men_13 : decode cX10_men 13 = .ok (.getfield 7, 3) := by decide +kernel
theorem dX10_men_16 : decode cX10_men 16 = .ok (.iload 4, 2) := by decide +kernel
theorem dX10_men_18 : decode cX10_men 18 = .ok (.iaload, 1) := by decide +kernel
theorem dX10_men_19 : decode cX10_men 19 = .ok (.iload_n 1, 1) := by decide +kernel
theorem dX10_men_20 : decode cX10_men 20 = .ok (.invokestatic 86, 3) := by decide +kernel
theorem dX10_men_23 : decode cX10_men 23 = .ok (.ifCond .eq 28, 3) := by decide +kernel
theorem dX10_men_26 : decode cX10_men 26 = .ok (.iload_n 2, 1) := by decide +kernel
theorem dX10_men_27 : decode cX10_men 27 = .ok (.ifCond .eq 18, 3) := by decide +kernel
theorem dX10_men_30 : decode cX10_men 30 = .ok (.aload_n 0, 1) := by decide +kernel
theorem dX10_men_31 : decode cX10_men 31 = .ok (.getfield 7, 3) := by decide +kernel
theorem dX10_men_34 : decode cX10_men 34 = .ok (.iload 4, 2) := by decide +kernel
theorem dX10_men_36 : decode cX10_men 36 = .ok (.iaload, 1) := by decide +kernel
theorem dX10_men_37 : decode cX10_men 37 = .ok (.invokestatic 79, 3) := by decide +kernel
theorem dX10_men_40 : decode cX10_men 40 = .ok (.bipush 6, 2) := by decide +kernel
theorem dX10_men_42 : decode cX10_men 42 = .ok (.if_icmp .ne 9, 3) := by decide +kernel
theorem dX10_men_45 : decode cX10_men 45 = .ok (.iload_n 3, 1) := by decide +kernel
theorem dX10_men_46 : decode cX10_men 46 = .ok (.iconst 1, 1) := by decide +kernel
theorem dX10_men_47 : decode cX10_men 47 = .ok (.iadd, 1) := by decide +kernel
theorem dX10_men_48 : decode cX10_men 48 = .ok (.goto 4, 3) := by decide +kernel
theorem dX10_men_51 : decode cX10_men 51 = .ok (.iload_n 3, 1) := by decide +kernel
theorem dX10_men_52 : decode cX10_men 52 = .ok (.istore_n 3, 1) := by decide +kernel
theorem dX10_men_53 : decode cX10_men 53 = .ok (.iinc 4 1, 3) := by decide +kernel
theorem dX10_men_56 : decode cX10_men 56 = .ok (.goto (-51), 3) := by decide +kernel
theorem dX10_men_59 : decode cX10_men 59 = .ok (.iload_n 3, 1) := by decide +kernel
theorem dX10_men_60 : decode cX10_men 60 = .ok (.ireturn, 1) := by decide +kernel
theorem dX10_isEdgePawn_0 : decode cX10_isEdgePawn 0 = .ok (.iconst 0, 1) := by decide +kernel
theorem dX10_isEdgePawn_1 : decode cX10_isEdgePawn 1 = .ok (.istore_n 1, 1) := by decide +kernel
theorem dX10_isEdgePawn_2 : decode cX10_isEdgePawn 2 = .ok (.iconst 0, 1) := by decide +kernel
theorem dX10_isEdgePawn_3 : decode cX10_isEdgePawn 3 = .ok (.istore_n 2, 1) := by decide +kernel
theorem dX10_isEdgePawn_4 : decode cX10_isEdgePawn 4 = .ok (.iload_n 2, 1) := by decide +kernel
theorem dX10_isEdgePawn_5 : decode cX10_isEdgePawn 5 = .ok (.bipush 64, 2) := by decide +kernel
theorem dX10_isEdgePawn_7 : decode cX10_isEdgePawn 7 = .ok (.if_icmp .ge 44, 3) := by decide +kernel
theorem dX10_isEdgePawn_10 : decode cX10_isEdgePawn 10 = .ok (.iload_n 1, 1) := by decide +kernel
theorem dX10_isEdgePawn_11 : decode cX10_isEdgePawn 11 = .ok (.ifCond .ne 28, 3) := by decide +kernel
theorem dX10_isEdgePawn_14 : decode cX10_isEdgePawn 14 = .ok (.aload_n 0, 1) := by decide +kernel
theorem dX10_isEdgePawn_15 : decode cX10_isEdgePawn 15 = .ok (.getfield 7, 3) := by decide +kernel
theorem dX10_isEdgePawn_18 : decode cX10_isEdgePawn 18 = .ok (.iload_n 2, 1) := by decide +kernel
theorem dX10_isEdgePawn_19 : decode cX10_isEdgePawn 19 = .ok (.iaload, 1) := by decide +kernel
theorem dX10_isEdgePawn_20 : decode cX10_isEdgePawn 20 = .ok (.invokestatic 79, 3) := by decide +kernel
theorem dX10_isEdgePawn_23 : decode cX10_isEdgePawn 23 = .ok (.iconst 1, 1) := by decide +kernel
theorem dX10_isEdgePawn_24 : decode cX10_isEdgePawn 24 = .ok (.if_icmp .ne 19, 3) := by decide +kernel
theorem dX10_isEdgePawn_27 : decode cX10_isEdgePawn 27 = .ok (.iload_n 2, 1) := by decide +kernel
theorem dX10_isEdgePawn_28 : decode cX10_isEdgePawn 28 = .ok (.bipush 8, 2) := by decide +kernel
theorem dX10_isEdgePawn_30 : decode cX10_isEdgePawn 30 = .ok (.if_icmp .lt 9, 3) := by decide +kernel
theorem dX10_isEdgePawn_33 : decode cX10_isEdgePawn 33 = .ok (.iload_n 2, 1) := by decide +kernel
theorem dX10_isEdgePawn_34 : decode cX10_isEdgePawn 34 = .ok (.bipush 55, 2) := by decide +kernel
theorem dX10_isEdgePawn_36 : decode cX10_isEdgePawn 36 = .ok (.if_icmp .le 7, 3) := by decide +kernel
theorem dX10_isEdgePawn_39 : decode cX10_isEdgePawn 39 = .ok (.iconst 1, 1) := by decide +kernel
theorem dX10_isEdgePawn_40 : decode cX10_isEdgePawn 40 = .ok (.goto 4, 3) := by decide +kernel
theorem dX10_isEdgePawn_43 : decode cX10_isEdgePawn 43 = .ok (.iconst 0, 1) := by decide +kernel
theorem dX10_isEdgePawn_44 : decode cX10_isEdgePawn 44 = .ok (.istore_n 1, 1) := by decide +kernel
theorem dX10_isEdgePawn_45 : decode cX10_isEdgePawn 45 = .ok (.iinc 2 1, 3) := by decide +kernel
theorem dX10_isEdgePawn_48 : decode cX10_isEdgePawn 48 = .ok (.goto (-44), 3) := by decide +kernel
theorem dX10_isEdgePawn_51 : decode cX10_isEdgePawn 51 = .ok (.iload_n 1, 1) := by decide +kernel
theorem dX10_isEdgePawn_52 : decode cX10_isEdgePawn 52 = .ok (.ireturn, 1) := by decide +kernel
theorem dX10_areRights_0 : decode cX10_areRights 0 = .ok (.iconst 1, 1) := by decide +kernel
theorem dX10_areRights_1 : decode cX10_areRights 1 = .ok (.istore_n 1, 1) := by decide +kernel
theorem dX10_areRights_2 : decode cX10_areRights 2 = .ok (.iconst 0, 1) := by decide +kernel
theorem dX10_areRights_3 : decode cX10_areRights 3 = .ok (.istore_n 2, 1) := by decide +kernel
theorem dX10_areRights_4 : decode cX10_areRights 4 = .ok (.iload_n 2, 1) := by decide +kernel
theorem dX10_areRights_5 : decode cX10_areRights 5 = .ok (.iconst 4, 1) := by decide +kernel
theorem dX10_areRights_6 : decode cX10_areRights 6 = .ok (.if_icmp .ge 108, 3) := by decide +kernel
theorem dX10_areRights_9 : decode cX10_areRights 9 = .ok (.iload_n 2, 1) := by decide +kernel
theorem dX10_areRights_10 : decode cX10_areRights 10 = .ok (.iconst 2, 1) := by decide +kernel
theorem dX10_areRights_11 : decode cX10_areRights 11 = .ok (.if_icmp .ge 7, 3) := by decide +kernel
theorem dX10_areRights_14 : decode cX10_areRights 14 = .ok (.iconst 1, 1) := by decide +kernel
theorem dX10_areRights_15 : decode cX10_areRights 15 = .ok (.goto 4, 3) := by decide +kernel
theorem dX10_areRights_18 : decode cX10_areRights 18 = .ok (.iconst (-1), 1) := by decide +kernel
theorem dX10_areRights_19 : decode cX10_areRights 19 = .ok (.istore_n 3, 1) := by decide +kernel
theorem dX10_areRights_20 : decode cX10_areRights 20 = .ok (.iload_n 2, 1) := by decide +kernel
theorem dX10_areRights_21 : decode cX10_areRights 21 = .ok (.iconst 2, 1) := by decide +kernel
theorem dX10_areRights_22 : decode cX10_areRights 22 = .ok (.if_icmp .ge 7, 3) := by decide +kernel
theorem dX10_areRights_25 : decode cX10_areRights 25 = .ok (.iconst 0, 1) := by decide +kernel
theorem dX10_areRights_26 : decode cX10_areRights 26 = .ok (.goto 5, 3) := by decide +kernel
theorem dX10_areRights_29 : decode cX10_areRights 29 = .ok (.bipush 56, 2) := by decide +kernel
theorem dX10_areRights_31 : decode cX10_areRights 31 = .ok (.istore 4, 2) := by decide +kernel
theorem dX10_areRights_33 : decode cX10_areRights 33 = .ok (.aload_n 0, 1) := by decide +kernel
theorem dX10_areRights_34 : decode cX10_areRights 34 = .ok (.getfield 7, 3) := by decide +kernel
theorem dX10_areRights_37 : decode cX10_areRights 37 = .ok (.iload 4, 2) := by decide +kernel
theorem dX10_areRights_39 : decode cX10_areRights 39 = .ok (.iconst 4, 1) := by decide +kernel
theorem dX10_areRights_40 : decode cX10_areRights 40 = .ok (.iadd, 1) := by decide +kernel
theorem dX10_areRights_41 : decode cX10_areRights 41 = .ok (.iaload, 1) := by decide +kernel
theorem dX10_areRights_42 : decode cX10_areRights 42 = .ok (.iload_n 3, 1) := by decide +kernel
theorem dX10_areRights_43 : decode cX10_areRights 43 = .ok (.bipush 6, 2) := by decide +kernel
theorem dX10_areRights_45 : decode cX10_areRights 45 = .ok (.imul, 1) := by decide +kernel
theorem dX10_areRights_46 : decode cX10_areRights 46 = .ok (.if_icmp .ne 33, 3) := by decide +kernel
theorem dX10_areRights_49 : decode cX10_areRights 49 = .ok (.aload_n 0, 1) := by decide +kernel
theorem dX10_areRights_50 : decode cX10_areRights 50 = .ok (.getfield 7, 3) := by decide +kernel
theorem dX10_areRights_53 : decode cX10_areRights 53 = .ok (.iload 4, 2) := by decide +kernel
theorem dX10_areRights_55 : decode cX10_areRights 55 = .ok (.iload_n 2, 1) := by decide +kernel
theorem dX10_areRights_56 : decode cX10_areRights 56 = .ok (.iconst 2, 1) := by decide +kernel
theorem dX10_areRights_57 : decode cX10_areRights 57 = .ok (.irem, 1) := by decide +kernel
theorem dX10_areRights_58 : decode cX10_areRights 58 = .ok (.ifCond .ne 8, 3) := by decide +kernel
theorem dX10_areRights_61 : decode cX10_areRights 61 = .ok (.bipush 7, 2) := by decide +kernel
theorem dX10_areRights_63 : decode cX10_areRights 63 = .ok (.goto 4, 3) := by decide +kernel
theorem dX10_areRights_66 : decode cX10_areRights 66 = .ok (.iconst 0, 1) := by decide +kernel
theorem dX10_areRights_67 : decode cX10_areRights 67 = .ok (.iadd, 1) := by decide +kernel
theorem dX10_areRights_68 : decode cX10_areRights 68 = .ok (.iaload, 1) := by decide +kernel
theorem dX10_areRights_69 : decode cX10_areRights 69 = .ok (.iload_n 3, 1) := by decide +kernel
theorem dX10_areRights_70 : decode cX10_areRights 70 = .ok (.iconst 4, 1) := by decide +kernel
theorem dX10_areRights_71 : decode cX10_areRights 71 = .ok (.imul, 1) := by decide +kernel
theorem dX10_areRights_72 : decode cX10_areRights 72 = .ok (.if_icmp .ne 7, 3) := by decide +kernel
theorem dX10_areRights_75 : decode cX10_areRights 75 = .ok (.iconst 1, 1) := by decide +kernel
theorem dX10_areRights_76 : decode cX10_areRights 76 = .ok (.goto 4, 3) := by decide +kernel
theorem dX10_areRights_79 : decode cX10_areRights 79 = .ok (.iconst 0, 1) := by decide +kernel
theorem dX10_areRights_80 : decode cX10_areRights 80 = .ok (.istore 5, 2) := by decide +kernel
theorem dX10_areRights_82 : decode cX10_areRights 82 = .ok (.iload_n 1, 1) := by decide +kernel
theorem dX10_areRights_83 : decode cX10_areRights 83 = .ok (.ifCond .eq 23, 3) := by decide +kernel
theorem dX10_areRights_86 : decode cX10_areRights 86 = .ok (.aload_n 0, 1) := by decide +kernel
theorem dX10_areRights_87 : decode cX10_areRights 87 = .ok (.getfield 60, 3) := by decide +kernel
theorem dX10_areRights_90 : decode cX10_areRights 90 = .ok (.iload_n 2, 1) := by decide +kernel
theorem dX10_areRights_91 : decode cX10_areRights 91 = .ok (.ishr, 1) := by decide +kernel
theorem dX10_areRights_92 : decode cX10_areRights 92 = .ok (.iconst 1, 1) := by decide +kernel
theorem dX10_areRights_93 : decode cX10_areRights 93 = .ok (.iand, 1) := by decide +kernel
theorem dX10_areRights_94 : decode cX10_areRights 94 = .ok (.ifCond .eq 8, 3) := by decide +kernel
theorem dX10_areRights_97 : decode cX10_areRights 97 = .ok (.iload 5, 2) := by decide +kernel
theorem dX10_areRights_99 : decode cX10_areRights 99 = .ok (.ifCond .eq 7, 3) := by decide +kernel
theorem dX10_areRights_102 : decode cX10_areRights 102 = .ok (.iconst 1, 1) := by decide +kernel
theorem dX10_areRights_103 : decode cX10_areRights 103 = .ok (.goto 4, 3) := by decide +kernel
theorem dX10_areRights_106 : decode cX10_areRights 106 = .ok (.iconst 0, 1) := by decide +kernel
theorem dX10_areRights_107 : decode cX10_areRights 107 = .ok (.istore_n 1, 1) := by decide +kernel
theorem dX10_areRights_108 : decode cX10_areRights 108 = .ok (.iinc 2 1, 3) := by decide +kernel
theorem dX10_areRights_111 : decode cX10_areRights 111 = .ok (.goto (-107), 3) := by decide +kernel
theorem dX10_areRights_114 : decode cX10_areRights 114 = .ok (.iload_n 1, 1) := by decide +kernel
theorem dX10_areRights_115 : decode cX10_areRights 115 = .ok (.ireturn, 1) := by decide +kernel
theorem dX10_isPassed_0 : decode cX10_isPassed 0 = .ok (.aload_n 0, 1) := by decide +kernel
theorem dX10_isPassed_1 : decode cX10_isPassed 1 = .ok (.getfield 13, 3) := by decide +kernel
theorem dX10_isPassed_4 : decode cX10_isPassed 4 = .ok (.iconst (-1), 1) := by decide +kernel
theorem dX10_isPassed_5 : decode cX10_isPassed 5 = .ok (.if_icmp .ne 5, 3) := by decide +kernel
theorem dX10_isPassed_8 : decode cX10_isPassed 8 = .ok (.iconst 1, 1) := by decide +kernel
theorem dX10_isPassed_9 : decode cX10_isPassed 9 = .ok (.ireturn, 1) := by decide +kernel
theorem dX10_isPassed_10 : decode cX10_isPassed 10 = .ok (.aload_n 0, 1) := by decide +kernel
theorem dX10_isPassed_11 : decode cX10_isPassed 11 = .ok (.getfield 13, 3) := by decide +kernel
theorem dX10_isPassed_14 : decode cX10_isPassed 14 = .ok (.aload_n 0, 1) := by decide +kernel
theorem dX10_isPassed_15 : decode cX10_isPassed 15 = .ok (.getfield 119, 3) := by decide +kernel
theorem dX10_isPassed_18 : decode cX10_isPassed 18 = .ok (.invokestatic 138, 3) := by decide +kernel
theorem dX10_isPassed_21 : decode cX10_isPassed 21 = .ok (.iconst 5, 1) := by decide +kernel
theorem dX10_isPassed_22 : decode cX10_isPassed 22 = .ok (.if_icmp .eq 5, 3) := by decide +kernel
theorem dX10_isPassed_25 : decode cX10_isPassed 25 = .ok (.iconst 0, 1) := by decide +kernel
theorem dX10_isPassed_26 : decode cX10_isPassed 26 = .ok (.ireturn, 1) := by decide +kernel
theorem dX10_isPassed_27 : decode cX10_isPassed 27 = .ok (.aload_n 0, 1) := by decide +kernel
theorem dX10_isPassed_28 : decode cX10_isPassed 28 = .ok (.getfield 7, 3) := by decide +kernel
theorem dX10_isPassed_31 : decode cX10_isPassed 31 = .ok (.aload_n 0, 1) := by decide +kernel
theorem dX10_isPassed_32 : decode cX10_isPassed 32 = .ok (.getfield 13, 3) := by decide +kernel
theorem dX10_isPassed_35 : decode cX10_isPassed 35 = .ok (.iaload, 1) := by decide +kernel
theorem dX10_isPassed_36 : decode cX10_isPassed 36 = .ok (.ifCond .ne 27, 3) := by decide +kernel
theorem dX10_isPassed_39 : decode cX10_isPassed 39 = .ok (.aload_n 0, 1) := by decide +kernel
theorem dX10_isPassed_40 : decode cX10_isPassed 40 = .ok (.getfield 7, 3) := by decide +kernel
theorem dX10_isPassed_43 : decode cX10_isPassed 43 = .ok (.aload_n 0, 1) := by decide +kernel
theorem dX10_isPassed_44 : decode cX10_isPassed 44 = .ok (.getfield 13, 3) := by decide +kernel
theorem dX10_isPassed_47 : decode cX10_isPassed 47 = .ok (.aload_n 0, 1) := by decide +kernel
theorem dX10_isPassed_48 : decode cX10_isPassed 48 = .ok (.getfield 119, 3) := by decide +kernel
theorem dX10_isPassed_51 : decode cX10_isPassed 51 = .ok (.invokestatic 98, 3) := by decide +kernel
theorem dX10_isPassed_54 : decode cX10_isPassed 54 = .ok (.iadd, 1) := by decide +kernel
theorem dX10_isPassed_55 : decode cX10_isPassed 55 = .ok (.iaload, 1) := by decide +kernel
theorem dX10_isPassed_56 : decode cX10_isPassed 56 = .ok (.ifCond .ne 7, 3) := by decide +kernel
theorem dX10_isPassed_59 : decode cX10_isPassed 59 = .ok (.iconst 1, 1) := by decide +kernel
theorem dX10_isPassed_60 : decode cX10_isPassed 60 = .ok (.goto 4, 3) := by decide +kernel
theorem dX10_isPassed_63 : decode cX10_isPassed 63 = .ok (.iconst 0, 1) := by decide +kernel
theorem dX10_isPassed_64 : decode cX10_isPassed 64 = .ok (.istore_n 1, 1) := by decide +kernel
theorem dX10_isPassed_65 : decode cX10_isPassed 65 = .ok (.iload_n 1, 1) := by decide +kernel
theorem dX10_isPassed_66 : decode cX10_isPassed 66 = .ok (.ifCond .eq 39, 3) := by decide +kernel
theorem dX10_isPassed_69 : decode cX10_isPassed 69 = .ok (.aload_n 0, 1) := by decide +kernel
theorem dX10_isPassed_70 : decode cX10_isPassed 70 = .ok (.getfield 7, 3) := by decide +kernel
theorem dX10_isPassed_73 : decode cX10_isPassed 73 = .ok (.aload_n 0, 1) := by decide +kernel
theorem dX10_isPassed_74 : decode cX10_isPassed 74 = .ok (.getfield 13, 3) := by decide +kernel
theorem dX10_isPassed_77 : decode cX10_isPassed 77 = .ok (.aload_n 0, 1) := by decide +kernel
theorem dX10_isPassed_78 : decode cX10_isPassed 78 = .ok (.getfield 119, 3) := by decide +kernel
theorem dX10_isPassed_81 : decode cX10_isPassed 81 = .ok (.invokestatic 98, 3) := by decide +kernel
theorem dX10_isPassed_84 : decode cX10_isPassed 84 = .ok (.isub, 1) := by decide +kernel
theorem dX10_isPassed_85 : decode cX10_isPassed 85 = .ok (.iaload, 1) := by decide +kernel
theorem dX10_isPassed_86 : decode cX10_isPassed 86 = .ok (.aload_n 0, 1) := by decide +kernel
theorem dX10_isPassed_87 : decode cX10_isPassed 87 = .ok (.getfield 119, 3) := by decide +kernel
theorem dX10_isPassed_90 : decode cX10_isPassed 90 = .ok (.ifCond .ne 7, 3) := by decide +kernel
theorem dX10_isPassed_93 : decode cX10_isPassed 93 = .ok (.iconst (-1), 1) := by decide +kernel
theorem dX10_isPassed_94 : decode cX10_isPassed 94 = .ok (.goto 4, 3) := by decide +kernel
theorem dX10_isPassed_97 : decode cX10_isPassed 97 = .ok (.iconst 1, 1) := by decide +kernel
theorem dX10_isPassed_98 : decode cX10_isPassed 98 = .ok (.if_icmp .ne 7, 3) := by decide +kernel
theorem dX10_isPassed_101 : decode cX10_isPassed 101 = .ok (.iconst 1, 1) := by decide +kernel
theorem dX10_isPassed_102 : decode cX10_isPassed 102 = .ok (.goto 4, 3) := by decide +kernel
theorem dX10_isPassed_105 : decode cX10_isPassed 105 = .ok (.iconst 0, 1) := by decide +kernel
theorem dX10_isPassed_106 : decode cX10_isPassed 106 = .ok (.ireturn, 1) := by decide +kernel
theorem dX10_faultNow_0 : decode cX10_faultNow 0 = .ok (.aload_n 0, 1) := by decide +kernel
theorem dX10_faultNow_1 : decode cX10_faultNow 1 = .ok (.iconst 0, 1) := by decide +kernel
theorem dX10_faultNow_2 : decode cX10_faultNow 2 = .ok (.iconst 1, 1) := by decide +kernel
theorem dX10_faultNow_3 : decode cX10_faultNow 3 = .ok (.invokevirtual 259, 3) := by decide +kernel
theorem dX10_faultNow_6 : decode cX10_faultNow 6 = .ok (.iconst 1, 1) := by decide +kernel
theorem dX10_faultNow_7 : decode cX10_faultNow 7 = .ok (.if_icmp .ne 35, 3) := by decide +kernel
theorem dX10_faultNow_10 : decode cX10_faultNow 10 = .ok (.aload_n 0, 1) := by decide +kernel
theorem dX10_faultNow_11 : decode cX10_faultNow 11 = .ok (.iconst 1, 1) := by decide +kernel
theorem dX10_faultNow_12 : decode cX10_faultNow 12 = .ok (.iconst 1, 1) := by decide +kernel
theorem dX10_faultNow_13 : decode cX10_faultNow 13 = .ok (.invokevirtual 259, 3) := by decide +kernel
theorem dX10_faultNow_16 : decode cX10_faultNow 16 = .ok (.iconst 1, 1) := by decide +kernel
theorem dX10_faultNow_17 : decode cX10_faultNow 17 = .ok (.if_icmp .ne 25, 3) := by decide +kernel
theorem dX10_faultNow_20 : decode cX10_faultNow 20 = .ok (.aload_n 0, 1) := by decide +kernel
theorem dX10_faultNow_21 : decode cX10_faultNow 21 = .ok (.iconst 0, 1) := by decide +kernel
theorem dX10_faultNow_22 : decode cX10_faultNow 22 = .ok (.iconst 0, 1) := by decide +kernel
theorem dX10_faultNow_23 : decode cX10_faultNow 23 = .ok (.invokevirtual 259, 3) := by decide +kernel
theorem dX10_faultNow_26 : decode cX10_faultNow 26 = .ok (.bipush 16, 2) := by decide +kernel
theorem dX10_faultNow_28 : decode cX10_faultNow 28 = .ok (.if_icmp .gt 14, 3) := by decide +kernel
theorem dX10_faultNow_31 : decode cX10_faultNow 31 = .ok (.aload_n 0, 1) := by decide +kernel
theorem dX10_faultNow_32 : decode cX10_faultNow 32 = .ok (.iconst 1, 1) := by decide +kernel
theorem dX10_faultNow_33 : decode cX10_faultNow 33 = .ok (.iconst 0, 1) := by decide +kernel
theorem dX10_faultNow_34 : decode cX10_faultNow 34 = .ok (.invokevirtual 259, 3) := by decide +kernel
theorem dX10_faultNow_37 : decode cX10_faultNow 37 = .ok (.bipush 16, 2) := by decide +kernel
theorem dX10_faultNow_39 : decode cX10_faultNow 39 = .ok (.if_icmp .le 5, 3) := by decide +kernel
theorem dX10_faultNow_42 : decode cX10_faultNow 42 = .ok (.iconst 2, 1) := by decide +kernel
theorem dX10_faultNow_43 : decode cX10_faultNow 43 = .ok (.ireturn, 1) := by decide +kernel
theorem dX10_faultNow_44 : decode cX10_faultNow 44 = .ok (.aload_n 0, 1) := by decide +kernel
theorem dX10_faultNow_45 : decode cX10_faultNow 45 = .ok (.invokevirtual 263, 3) := by decide +kernel
theorem dX10_faultNow_48 : decode cX10_faultNow 48 = .ok (.ifCond .eq 5, 3) := by decide +kernel
theorem dX10_faultNow_51 : decode cX10_faultNow 51 = .ok (.iconst 3, 1) := by decide +kernel
theorem dX10_faultNow_52 : decode cX10_faultNow 52 = .ok (.ireturn, 1) := by decide +kernel
theorem dX10_faultNow_53 : decode cX10_faultNow 53 = .ok (.aload_n 0, 1) := by decide +kernel
theorem dX10_faultNow_54 : decode cX10_faultNow 54 = .ok (.iconst 1, 1) := by decide +kernel
theorem dX10_faultNow_55 : decode cX10_faultNow 55 = .ok (.aload_n 0, 1) := by decide +kernel
theorem dX10_faultNow_56 : decode cX10_faultNow 56 = .ok (.getfield 119, 3) := by decide +kernel
theorem dX10_faultNow_59 : decode cX10_faultNow 59 = .ok (.isub, 1) := by decide +kernel
theorem dX10_faultNow_60 : decode cX10_faultNow 60 = .ok (.invokevirtual 109, 3) := by decide +kernel
theorem dX10_faultNow_63 : decode cX10_faultNow 63 = .ok (.ifCond .eq 7, 3) := by decide +kernel
theorem dX10_faultNow_66 : decode cX10_faultNow 66 = .ok (.iconst 4, 1) := by decide +kernel
theorem dX10_faultNow_67 : decode cX10_faultNow 67 = .ok (.goto 27, 3) := by decide +kernel
theorem dX10_faultNow_70 : decode cX10_faultNow 70 = .ok (.aload_n 0, 1) := by decide +kernel
theorem dX10_faultNow_71 : decode cX10_faultNow 71 = .ok (.invokevirtual 266, 3) := by decide +kernel
theorem dX10_faultNow_74 : decode cX10_faultNow 74 = .ok (.ifCond .ne 7, 3) := by decide +kernel
theorem dX10_faultNow_77 : decode cX10_faultNow 77 = .ok (.iconst 5, 1) := by decide +kernel
theorem dX10_faultNow_78 : decode cX10_faultNow 78 = .ok (.goto 16, 3) := by decide +kernel
theorem dX10_faultNow_81 : decode cX10_faultNow 81 = .ok (.aload_n 0, 1) := by decide +kernel
theorem dX10_faultNow_82 : decode cX10_faultNow 82 = .ok (.invokevirtual 269, 3) := by decide +kernel
theorem dX10_faultNow_85 : decode cX10_faultNow 85 = .ok (.ifCond .ne 8, 3) := by decide +kernel
theorem dX10_faultNow_88 : decode cX10_faultNow 88 = .ok (.bipush 6, 2) := by decide +kernel
theorem dX10_faultNow_90 : decode cX10_faultNow 90 = .ok (.goto 4, 3) := by decide +kernel
theorem dX10_faultNow_93 : decode cX10_faultNow 93 = .ok (.iconst 0, 1) := by decide +kernel
theorem dX10_faultNow_94 : decode cX10_faultNow 94 = .ok (.ireturn, 1) := by decide +kernel
theorem dX10_takeRead_0 : decode cX10_takeRead 0 = .ok (.iconst 0, 1) := by decide +kernel
theorem dX10_takeRead_1 : decode cX10_takeRead 1 = .ok (.istore_n 1, 1) := by decide +kernel
theorem dX10_takeRead_2 : decode cX10_takeRead 2 = .ok (.iload_n 1, 1) := by decide +kernel
theorem dX10_takeRead_3 : decode cX10_takeRead 3 = .ok (.bipush 64, 2) := by decide +kernel
theorem dX10_takeRead_5 : decode cX10_takeRead 5 = .ok (.if_icmp .ge 21, 3) := by decide +kernel
theorem dX10_takeRead_8 : decode cX10_takeRead 8 = .ok (.aload_n 0, 1) := by decide +kernel
theorem dX10_takeRead_9 : decode cX10_takeRead 9 = .ok (.getfield 7, 3) := by decide +kernel
theorem dX10_takeRead_12 : decode cX10_takeRead 12 = .ok (.iload_n 1, 1) := by decide +kernel
theorem dX10_takeRead_13 : decode cX10_takeRead 13 = .ok (.aload_n 0, 1) := by decide +kernel
theorem dX10_takeRead_14 : decode cX10_takeRead 14 = .ok (.getfield 57, 3) := by decide +kernel
theorem dX10_takeRead_17 : decode cX10_takeRead 17 = .ok (.iload_n 1, 1) := by decide +kernel
theorem dX10_takeRead_18 : decode cX10_takeRead 18 = .ok (.iaload, 1) := by decide +kernel
theorem dX10_takeRead_19 : decode cX10_takeRead 19 = .ok (.iastore, 1) := by decide +kernel
theorem dX10_takeRead_20 : decode cX10_takeRead 20 = .ok (.iinc 1 1, 3) := by decide +kernel
theorem dX10_takeRead_23 : decode cX10_takeRead 23 = .ok (.goto (-21), 3) := by decide +kernel
theorem dX10_takeRead_26 : decode cX10_takeRead 26 = .ok (.aload_n 0, 1) := by decide +kernel
theorem dX10_takeRead_27 : decode cX10_takeRead 27 = .ok (.aload_n 0, 1) := by decide +kernel
theorem dX10_takeRead_28 : decode cX10_takeRead 28 = .ok (.getfield 226, 3) := by decide +kernel
theorem dX10_takeRead_31 : decode cX10_takeRead 31 = .ok (.putfield 119, 3) := by decide +kernel
theorem dX10_takeRead_34 : decode cX10_takeRead 34 = .ok (.aload_n 0, 1) := by decide +kernel
theorem dX10_takeRead_35 : decode cX10_takeRead 35 = .ok (.aload_n 0, 1) := by decide +kernel
theorem dX10_takeRead_36 : decode cX10_takeRead 36 = .ok (.getfield 229, 3) := by decide +kernel
theorem dX10_takeRead_39 : decode cX10_takeRead 39 = .ok (.putfield 60, 3) := by decide +kernel
theorem dX10_takeRead_42 : decode cX10_takeRead 42 = .ok (.aload_n 0, 1) := by decide +kernel
theorem dX10_takeRead_43 : decode cX10_takeRead 43 = .ok (.aload_n 0, 1) := by decide +kernel
theorem dX10_takeRead_44 : decode cX10_takeRead 44 = .ok (.getfield 232, 3) := by decide +kernel
theorem dX10_takeRead_47 : decode cX10_takeRead 47 = .ok (.putfield 13, 3) := by decide +kernel
theorem dX10_takeRead_50 : decode cX10_takeRead 50 = .ok (.aload_n 0, 1) := by decide +kernel
theorem dX10_takeRead_51 : decode cX10_takeRead 51 = .ok (.aload_n 0, 1) := by decide +kernel
theorem dX10_takeRead_52 : decode cX10_takeRead 52 = .ok (.getfield 253, 3) := by decide +kernel
theorem dX10_takeRead_55 : decode cX10_takeRead 55 = .ok (.putfield 122, 3) := by decide +kernel
theorem dX10_takeRead_58 : decode cX10_takeRead 58 = .ok (.aload_n 0, 1) := by decide +kernel
theorem dX10_takeRead_59 : decode cX10_takeRead 59 = .ok (.aload_n 0, 1) := by decide +kernel
theorem dX10_takeRead_60 : decode cX10_takeRead 60 = .ok (.getfield 256, 3) := by decide +kernel
theorem dX10_takeRead_63 : decode cX10_takeRead 63 = .ok (.putfield 63, 3) := by decide +kernel
theorem dX10_takeRead_66 : decode cX10_takeRead 66 = .ok (.return_, 1) := by decide +kernel
theorem dX10_read_0 : decode cX10_read 0 = .ok (.aload_n 0, 1) := by decide +kernel
theorem dX10_read_1 : decode cX10_read 1 = .ok (.iconst 0, 1) := by decide +kernel
theorem dX10_read_2 : decode cX10_read 2 = .ok (.putfield 66, 3) := by decide +kernel
theorem dX10_read_5 : decode cX10_read 5 = .ok (.aload_n 0, 1) := by decide +kernel
theorem dX10_read_6 : decode cX10_read 6 = .ok (.invokevirtual 272, 3) := by decide +kernel
theorem dX10_read_9 : decode cX10_read 9 = .ok (.istore_n 1, 1) := by decide +kernel
theorem dX10_read_10 : decode cX10_read 10 = .ok (.aload_n 0, 1) := by decide +kernel
theorem dX10_read_11 : decode cX10_read 11 = .ok (.iload_n 1, 1) := by decide +kernel
theorem dX10_read_12 : decode cX10_read 12 = .ok (.ifCond .eq 7, 3) := by decide +kernel
theorem dX10_read_15 : decode cX10_read 15 = .ok (.iconst (-1), 1) := by decide +kernel
theorem dX10_read_16 : decode cX10_read 16 = .ok (.goto 7, 3) := by decide +kernel
theorem dX10_read_19 : decode cX10_read 19 = .ok (.aload_n 0, 1) := by decide +kernel
theorem dX10_read_20 : decode cX10_read 20 = .ok (.getfield 211, 3) := by decide +kernel
theorem dX10_read_23 : decode cX10_read 23 = .ok (.putfield 24, 3) := by decide +kernel
theorem dX10_read_26 : decode cX10_read 26 = .ok (.aload_n 0, 1) := by decide +kernel
theorem dX10_read_27 : decode cX10_read 27 = .ok (.iconst 0, 1) := by decide +kernel
theorem dX10_read_28 : decode cX10_read 28 = .ok (.putfield 208, 3) := by decide +kernel
theorem dX10_read_31 : decode cX10_read 31 = .ok (.iload_n 1, 1) := by decide +kernel
theorem dX10_read_32 : decode cX10_read 32 = .ok (.ifCond .ne 5, 3) := by decide +kernel
theorem dX10_read_35 : decode cX10_read 35 = .ok (.iconst 1, 1) := by decide +kernel
theorem dX10_read_36 : decode cX10_read 36 = .ok (.ireturn, 1) := by decide +kernel
theorem dX10_read_37 : decode cX10_read 37 = .ok (.aload_n 0, 1) := by decide +kernel
theorem dX10_read_38 : decode cX10_read 38 = .ok (.invokevirtual 129, 3) := by decide +kernel
theorem dX10_read_41 : decode cX10_read 41 = .ok (.aload_n 0, 1) := by decide +kernel
theorem dX10_read_42 : decode cX10_read 42 = .ok (.invokevirtual 275, 3) := by decide +kernel
theorem dX10_read_45 : decode cX10_read 45 = .ok (.aload_n 0, 1) := by decide +kernel
theorem dX10_read_46 : decode cX10_read 46 = .ok (.invokevirtual 278, 3) := by decide +kernel
theorem dX10_read_49 : decode cX10_read 49 = .ok (.istore_n 2, 1) := by decide +kernel
theorem dX10_read_50 : decode cX10_read 50 = .ok (.iload_n 2, 1) := by decide +kernel
theorem dX10_read_51 : decode cX10_read 51 = .ok (.ifCond .le 9, 3) := by decide +kernel
theorem dX10_read_54 : decode cX10_read 54 = .ok (.aload_n 0, 1) := by decide +kernel
theorem dX10_read_55 : decode cX10_read 55 = .ok (.invokevirtual 186, 3) := by decide +kernel
theorem dX10_read_58 : decode cX10_read 58 = .ok (.iload_n 2, 1) := by decide +kernel
theorem dX10_read_59 : decode cX10_read 59 = .ok (.ireturn, 1) := by decide +kernel
theorem dX10_read_60 : decode cX10_read 60 = .ok (.aload_n 0, 1) := by decide +kernel
theorem dX10_read_61 : decode cX10_read 61 = .ok (.iconst 0, 1) := by decide +kernel
theorem dX10_read_62 : decode cX10_read 62 = .ok (.putfield 116, 3) := by decide +kernel
theorem dX10_read_65 : decode cX10_read 65 = .ok (.aload_n 0, 1) := by decide +kernel
theorem dX10_read_66 : decode cX10_read 66 = .ok (.getfield 13, 3) := by decide +kernel
theorem dX10_read_69 : decode cX10_read 69 = .ok (.iconst (-1), 1) := by decide +kernel
theorem dX10_read_70 : decode cX10_read 70 = .ok (.if_icmp .eq 19, 3) := by decide +kernel
theorem dX10_read_73 : decode cX10_read 73 = .ok (.aload_n 0, 1) := by decide +kernel
theorem dX10_read_74 : decode cX10_read 74 = .ok (.aload_n 0, 1) := by decide +kernel
theorem dX10_read_75 : decode cX10_read 75 = .ok (.getfield 13, 3) := by decide +kernel
theorem dX10_read_78 : decode cX10_read 78 = .ok (.invokevirtual 135, 3) := by decide +kernel
theorem dX10_read_81 : decode cX10_read 81 = .ok (.ifCond .ne 8, 3) := by decide +kernel
theorem dX10_read_84 : decode cX10_read 84 = .ok (.aload_n 0, 1) := by decide +kernel
theorem dX10_read_85 : decode cX10_read 85 = .ok (.iconst (-1), 1) := by decide +kernel
theorem dX10_read_86 : decode cX10_read 86 = .ok (.putfield 13, 3) := by decide +kernel
theorem dX10_read_89 : decode cX10_read 89 = .ok (.iconst 0, 1) := by decide +kernel
theorem dX10_read_90 : decode cX10_read 90 = .ok (.ireturn, 1) := by decide +kernel
theorem dX10_place_0 : decode cX10_place 0 = .ok (.aload_n 0, 1) := by decide +kernel
theorem dX10_place_1 : decode cX10_place 1 = .ok (.iconst 0, 1) := by decide +kernel
theorem dX10_place_2 : decode cX10_place 2 = .ok (.putfield 66, 3) := by decide +kernel
theorem dX10_place_5 : decode cX10_place 5 = .ok (.aload_n 0, 1) := by decide +kernel
theorem dX10_place_6 : decode cX10_place 6 = .ok (.getfield 24, 3) := by decide +kernel
theorem dX10_place_9 : decode cX10_place 9 = .ok (.ireturn, 1) := by decide +kernel
theorem dX10_put_0 : decode cX10_put 0 = .ok (.aload_n 0, 1) := by decide +kernel
theorem dX10_put_1 : decode cX10_put 1 = .ok (.getfield 27, 3) := by decide +kernel
theorem dX10_put_4 : decode cX10_put 4 = .ok (.aload_n 0, 1) := by decide +kernel
theorem dX10_put_5 : decode cX10_put 5 = .ok (.getfield 281, 3) := by decide +kernel
theorem dX10_put_8 : decode cX10_put 8 = .ok (.iload_n 1, 1) := by decide +kernel
theorem dX10_put_9 : decode cX10_put 9 = .ok (.iastore, 1) := by decide +kernel
theorem dX10_put_10 : decode cX10_put 10 = .ok (.aload_n 0, 1) := by decide +kernel
theorem dX10_put_11 : decode cX10_put 11 = .ok (.dup, 1) := by decide +kernel
theorem dX10_put_12 : decode cX10_put 12 = .ok (.getfield 281, 3) := by decide +kernel
theorem dX10_put_15 : decode cX10_put 15 = .ok (.iconst 1, 1) := by decide +kernel
theorem dX10_put_16 : decode cX10_put 16 = .ok (.iadd, 1) := by decide +kernel
theorem dX10_put_17 : decode cX10_put 17 = .ok (.putfield 281, 3) := by decide +kernel
theorem dX10_put_20 : decode cX10_put 20 = .ok (.return_, 1) := by decide +kernel
theorem dX10_putNumber_0 : decode cX10_putNumber 0 = .ok (.iconst 1, 1) := by decide +kernel
theorem dX10_putNumber_1 : decode cX10_putNumber 1 = .ok (.istore_n 2, 1) := by decide +kernel
theorem dX10_putNumber_2 : decode cX10_putNumber 2 = .ok (.iload_n 1, 1) := by decide +kernel
theorem dX10_putNumber_3 : decode cX10_putNumber 3 = .ok (.iload_n 2, 1) := by decide +kernel
theorem dX10_putNumber_4 : decode cX10_putNumber 4 = .ok (.idiv, 1) := by decide +kernel
theorem dX10_putNumber_5 : decode cX10_putNumber 5 = .ok (.bipush 9, 2) := by decide +kernel
theorem dX10_putNumber_7 : decode cX10_putNumber 7 = .ok (.if_icmp .le 11, 3) := by decide +kernel
theorem dX10_putNumber_10 : decode cX10_putNumber 10 = .ok (.bipush 10, 2) := by decide +kernel
theorem dX10_putNumber_12 : decode cX10_putNumber 12 = .ok (.iload_n 2, 1) := by decide +kernel
theorem dX10_putNumber_13 : decode cX10_putNumber 13 = .ok (.imul, 1) := by decide +kernel
theorem dX10_putNumber_14 : decode cX10_putNumber 14 = .ok (.istore_n 2, 1) := by decide +kernel
theorem dX10_putNumber_15 : decode cX10_putNumber 15 = .ok (.goto (-13), 3) := by decide +kernel
theorem dX10_putNumber_18 : decode cX10_putNumber 18 = .ok (.iload_n 2, 1) := by decide +kernel
theorem dX10_putNumber_19 : decode cX10_putNumber 19 = .ok (.ifCond .le 24, 3) := by decide +kernel
theorem dX10_putNumber_22 : decode cX10_putNumber 22 = .ok (.aload_n 0, 1) := by decide +kernel
theorem dX10_putNumber_23 : decode cX10_putNumber 23 = .ok (.bipush 48, 2) := by decide +kernel
theorem dX10_putNumber_25 : decode cX10_putNumber 25 = .ok (.iload_n 1, 1) := by decide +kernel
theorem dX10_putNumber_26 : decode cX10_putNumber 26 = .ok (.iload_n 2, 1) := by decide +kernel
theorem dX10_putNumber_27 : decode cX10_putNumber 27 = .ok (.idiv, 1) := by decide +kernel
theorem dX10_putNumber_28 : decode cX10_putNumber 28 = .ok (.bipush 10, 2) := by decide +kernel
theorem dX10_putNumber_30 : decode cX10_putNumber 30 = .ok (.irem, 1) := by decide +kernel
theorem dX10_putNumber_31 : decode cX10_putNumber 31 = .ok (.iadd, 1) := by decide +kernel
theorem dX10_putNumber_32 : decode cX10_putNumber 32 = .ok (.invokevirtual 284, 3) := by decide +kernel
theorem dX10_putNumber_35 : decode cX10_putNumber 35 = .ok (.iload_n 2, 1) := by decide +kernel
theorem dX10_putNumber_36 : decode cX10_putNumber 36 = .ok (.bipush 10, 2) := by decide +kernel
theorem dX10_putNumber_38 : decode cX10_putNumber 38 = .ok (.idiv, 1) := by decide +kernel
theorem dX10_putNumber_39 : decode cX10_putNumber 39 = .ok (.istore_n 2, 1) := by decide +kernel
theorem dX10_putNumber_40 : decode cX10_putNumber 40 = .ok (.goto (-22), 3) := by decide +kernel
theorem dX10_putNumber_43 : decode cX10_putNumber 43 = .ok (.return_, 1) := by decide +kernel
theorem dX10_letterOf_0 : decode cX10_letterOf 0 = .ok (.iload_n 0, 1) := by decide +kernel
theorem dX10_letterOf_1 : decode cX10_letterOf 1 = .ok (.invokestatic 79, 3) := by decide +kernel
theorem dX10_letterOf_4 : decode cX10_letterOf 4 = .ok (.istore_n 1, 1) := by decide +kernel
theorem dX10_letterOf_5 : decode cX10_letterOf 5 = .ok (.iload_n 1, 1) := by decide +kernel
theorem dX10_letterOf_6 : decode cX10_letterOf 6 = .ok (.iconst 1, 1) := by decide +kernel
theorem dX10_letterOf_7 : decode cX10_letterOf 7 = .ok (.if_icmp .ne 8, 3) := by decide +kernel
theorem dX10_letterOf_10 : decode cX10_letterOf 10 = .ok (.bipush 80, 2) := by decide +kernel
theorem dX10_letterOf_12 : decode cX10_letterOf 12 = .ok (.goto 45, 3) := by decide +kernel
theorem dX10_letterOf_15 : decode cX10_letterOf 15 = .ok (.iload_n 1, 1) := by decide +kernel
theorem dX10_letterOf_16 : decode cX10_letterOf 16 = .ok (.iconst 2, 1) := by decide +kernel
theorem dX10_letterOf_17 : decode cX10_letterOf 17 = .ok (.if_icmp .ne 8, 3) := by decide +kernel
theorem dX10_letterOf_20 : decode cX10_letterOf 20 = .ok (.bipush 78, 2) := by decide +kernel
theorem dX10_letterOf_22 : decode cX10_letterOf 22 = .ok (.goto 35, 3) := by decide +kernel
theorem dX10_letterOf_25 : decode cX10_letterOf 25 = .ok (.iload_n 1, 1) := by decide +kernel
theorem dX10_letterOf_26 : decode cX10_letterOf 26 = .ok (.iconst 3, 1) := by decide +kernel
theorem dX10_letterOf_27 : decode cX10_letterOf 27 = .ok (.if_icmp .ne 8, 3) := by decide +kernel
theorem dX10_letterOf_30 : decode cX10_letterOf 30 = .ok (.bipush 66, 2) := by decide +kernel
theorem dX10_letterOf_32 : decode cX10_letterOf 32 = .ok (.goto 25, 3) := by decide +kernel
theorem dX10_letterOf_35 : decode cX10_letterOf 35 = .ok (.iload_n 1, 1) := by decide +kernel
theorem dX10_letterOf_36 : decode cX10_letterOf 36 = .ok (.iconst 4, 1) := by decide +kernel
theorem dX10_letterOf_37 : decode cX10_letterOf 37 = .ok (.if_icmp .ne 8, 3) := by decide +kernel
theorem dX10_letterOf_40 : decode cX10_letterOf 40 = .ok (.bipush 82, 2) := by decide +kernel
theorem dX10_letterOf_42 : decode cX10_letterOf 42 = .ok (.goto 15, 3) := by decide +kernel
theorem dX10_letterOf_45 : decode cX10_letterOf 45 = .ok (.iload_n 1, 1) := by decide +kernel
theorem dX10_letterOf_46 : decode cX10_letterOf 46 = .ok (.iconst 5, 1) := by decide +kernel
theorem dX10_letterOf_47 : decode cX10_letterOf 47 = .ok (.if_icmp .ne 8, 3) := by decide +kernel
theorem dX10_letterOf_50 : decode cX10_letterOf 50 = .ok (.bipush 81, 2) := by decide +kernel
theorem dX10_letterOf_52 : decode cX10_letterOf 52 = .ok (.goto 5, 3) := by decide +kernel
theorem dX10_letterOf_55 : decode cX10_letterOf 55 = .ok (.bipush 75, 2) := by decide +kernel
theorem dX10_letterOf_57 : decode cX10_letterOf 57 = .ok (.istore_n 2, 1) := by decide +kernel
theorem dX10_letterOf_58 : decode cX10_letterOf 58 = .ok (.iload_n 0, 1) := by decide +kernel
theorem dX10_letterOf_59 : decode cX10_letterOf 59 = .ok (.ifCond .le 7, 3) := by decide +kernel
theorem dX10_letterOf_62 : decode cX10_letterOf 62 = .ok (.iload_n 2, 1) := by decide +kernel
theorem dX10_letterOf_63 : decode cX10_letterOf 63 = .ok (.goto 7, 3) := by decide +kernel
theorem dX10_letterOf_66 : decode cX10_letterOf 66 = .ok (.iload_n 2, 1) := by decide +kernel
theorem dX10_letterOf_67 : decode cX10_letterOf 67 = .ok (.bipush 32, 2) := by decide +kernel
theorem dX10_letterOf_69 : decode cX10_letterOf 69 = .ok (.iadd, 1) := by decide +kernel
theorem dX10_letterOf_70 : decode cX10_letterOf 70 = .ok (.ireturn, 1) := by decide +kernel
theorem dX10_putRow_0 : decode cX10_putRow 0 = .ok (.iconst 0, 1) := by decide +kernel
theorem dX10_putRow_1 : decode cX10_putRow 1 = .ok (.istore_n 2, 1) := by decide +kernel
theorem dX10_putRow_2 : decode cX10_putRow 2 = .ok (.iconst 0, 1) := by decide +kernel
theorem dX10_putRow_3 : decode cX10_putRow 3 = .ok (.istore_n 3, 1) := by decide +kernel
theorem dX10_putRow_4 : decode cX10_putRow 4 = .ok (.iload_n 3, 1) := by decide +kernel
theorem dX10_putRow_5 : decode cX10_putRow 5 = .ok (.bipush 8, 2) := by decide +kernel
theorem dX10_putRow_7 : decode cX10_putRow 7 = .ok (.if_icmp .ge 66, 3) := by decide +kernel
theorem dX10_putRow_10 : decode cX10_putRow 10 = .ok (.aload_n 0, 1) := by decide +kernel
theorem dX10_putRow_11 : decode cX10_putRow 11 = .ok (.getfield 7, 3) := by decide +kernel
theorem dX10_putRow_14 : decode cX10_putRow 14 = .ok (.bipush 8, 2) := by decide +kernel
theorem dX10_putRow_16 : decode cX10_putRow 16 = .ok (.iload_n 1, 1) := by decide +kernel
theorem dX10_putRow_17 : decode cX10_putRow 17 = .ok (.imul, 1) := by decide +kernel
theorem dX10_putRow_18 : decode cX10_putRow 18 = .ok (.iload_n 3, 1) := by decide +kernel
theorem dX10_putRow_19 : decode cX10_putRow 19 = .ok (.iadd, 1) := by decide +kernel
theorem dX10_putRow_20 : decode cX10_putRow 20 = .ok (.iaload, 1) := by decide +kernel
theorem dX10_putRow_21 : decode cX10_putRow 21 = .ok (.istore 4, 2) := by decide +kernel
theorem dX10_putRow_23 : decode cX10_putRow 23 = .ok (.iload 4, 2) := by decide +kernel
theorem dX10_putRow_25 : decode cX10_putRow 25 = .ok (.ifCond .eq 15, 3) := by decide +kernel
theorem dX10_putRow_28 : decode cX10_putRow 28 = .ok (.iload_n 2, 1) := by decide +kernel
theorem dX10_putRow_29 : decode cX10_putRow 29 = .ok (.ifCond .le 11, 3) := by decide +kernel
theorem dX10_putRow_32 : decode cX10_putRow 32 = .ok (.aload_n 0, 1) := by decide +kernel
theorem dX10_putRow_33 : decode cX10_putRow 33 = .ok (.bipush 48, 2) := by decide +kernel
theorem dX10_putRow_35 : decode cX10_putRow 35 = .ok (.iload_n 2, 1) := by decide +kernel
theorem dX10_putRow_36 : decode cX10_putRow 36 = .ok (.iadd, 1) := by decide +kernel
theorem dX10_putRow_37 : decode cX10_putRow 37 = .ok (.invokevirtual 284, 3) := by decide +kernel
theorem dX10_putRow_40 : decode cX10_putRow 40 = .ok (.iload 4, 2) := by decide +kernel
theorem dX10_putRow_42 : decode cX10_putRow 42 = .ok (.ifCond .ne 9, 3) := by decide +kernel
theorem dX10_putRow_45 : decode cX10_putRow 45 = .ok (.iload_n 2, 1) := by decide +kernel
theorem dX10_putRow_46 : decode cX10_putRow 46 = .ok (.iconst 1, 1) := by decide +kernel
theorem dX10_putRow_47 : decode cX10_putRow 47 = .ok (.iadd, 1) := by decide +kernel
theorem dX10_putRow_48 : decode cX10_putRow 48 = .ok (.goto 4, 3) := by decide +kernel
theorem dX10_putRow_51 : decode cX10_putRow 51 = .ok (.iconst 0, 1) := by decide +kernel
theorem dX10_putRow_52 : decode cX10_putRow 52 = .ok (.istore_n 2, 1) := by decide +kernel
theorem dX10_putRow_53 : decode cX10_putRow 53 = .ok (.iload 4, 2) := by decide +kernel
theorem dX10_putRow_55 : decode cX10_putRow 55 = .ok (.ifCond .eq 12, 3) := by decide +kernel
theorem dX10_putRow_58 : decode cX10_putRow 58 = .ok (.aload_n 0, 1) := by decide +kernel
theorem dX10_putRow_59 : decode cX10_putRow 59 = .ok (.iload 4, 2) := by decide +kernel
theorem dX10_putRow_61 : decode cX10_putRow 61 = .ok (.invokestatic 287, 3) := by decide +kernel
theorem dX10_putRow_64 : decode cX10_putRow 64 = .ok (.invokevirtual 284, 3) := by decide +kernel
theorem dX10_putRow_67 : decode cX10_putRow 67 = .ok (.iinc 3 1, 3) := by decide +kernel
theorem dX10_putRow_70 : decode cX10_putRow 70 = .ok (.goto (-66), 3) := by decide +kernel
theorem dX10_putRow_73 : decode cX10_putRow 73 = .ok (.iload_n 2, 1) := by decide +kernel
theorem dX10_putRow_74 : decode cX10_putRow 74 = .ok (.ifCond .le 11, 3) := by decide +kernel
theorem dX10_putRow_77 : decode cX10_putRow 77 = .ok (.aload_n 0, 1) := by decide +kernel
theorem dX10_putRow_78 : decode cX10_putRow 78 = .ok (.bipush 48, 2) := by decide +kernel
theorem dX10_putRow_80 : decode cX10_putRow 80 = .ok (.iload_n 2, 1) := by decide +kernel
theorem dX10_putRow_81 : decode cX10_putRow 81 = .ok (.iadd, 1) := by decide +kernel
theorem dX10_putRow_82 : decode cX10_putRow 82 = .ok (.invokevirtual 284, 3) := by decide +kernel
theorem dX10_putRow_85 : decode cX10_putRow 85 = .ok (.return_, 1) := by decide +kernel
theorem dX10_write_0 : decode cX10_write 0 = .ok (.aload_n 0, 1) := by decide +kernel
theorem dX10_write_1 : decode cX10_write 1 = .ok (.iconst 0, 1) := by decide +kernel
theorem dX10_write_2 : decode cX10_write 2 = .ok (.putfield 66, 3) := by decide +kernel
theorem dX10_write_5 : decode cX10_write 5 = .ok (.aload_n 0, 1) := by decide +kernel
theorem dX10_write_6 : decode cX10_write 6 = .ok (.iconst 0, 1) := by decide +kernel
theorem dX10_write_7 : decode cX10_write 7 = .ok (.putfield 281, 3) := by decide +kernel
theorem dX10_write_10 : decode cX10_write 10 = .ok (.bipush 7, 2) := by decide +kernel
theorem dX10_write_12 : decode cX10_write 12 = .ok (.istore_n 1, 1) := by decide +kernel
theorem dX10_write_13 : decode cX10_write 13 = .ok (.iload_n 1, 1) := by decide +kernel
theorem dX10_write_14 : decode cX10_write 14 = .ok (.ifCond .lt 29, 3) := by decide +kernel
theorem dX10_write_17 : decode cX10_write 17 = .ok (.aload_n 0, 1) := by decide +kernel
theorem dX10_write_18 : decode cX10_write 18 = .ok (.iload_n 1, 1) := by decide +kernel
theorem dX10_write_19 : decode cX10_write 19 = .ok (.invokevirtual 290, 3) := by decide +kernel
theorem dX10_write_22 : decode cX10_write 22 = .ok (.aload_n 0, 1) := by decide +kernel
theorem dX10_write_23 : decode cX10_write 23 = .ok (.iload_n 1, 1) := by decide +kernel
theorem dX10_write_24 : decode cX10_write 24 = .ok (.ifCond .le 8, 3) := by decide +kernel
theorem dX10_write_27 : decode cX10_write 27 = .ok (.bipush 47, 2) := by decide +kernel
theorem dX10_write_29 : decode cX10_write 29 = .ok (.goto 5, 3) := by decide +kernel
theorem dX10_write_32 : decode cX10_write 32 = .ok (.bipush 32, 2) := by decide +kernel
theorem dX10_write_34 : decode cX10_write 34 = .ok (.invokevirtual 284, 3) := by decide +kernel
theorem dX10_write_37 : decode cX10_write 37 = .ok (.iinc 1 (-1), 3) := by decide +kernel
theorem dX10_write_40 : decode cX10_write 40 = .ok (.goto (-27), 3) := by decide +kernel
theorem dX10_write_43 : decode cX10_write 43 = .ok (.aload_n 0, 1) := by decide +kernel
theorem dX10_write_44 : decode cX10_write 44 = .ok (.aload_n 0, 1) := by decide +kernel
theorem dX10_write_45 : decode cX10_write 45 = .ok (.getfield 119, 3) := by decide +kernel
theorem dX10_write_48 : decode cX10_write 48 = .ok (.ifCond .ne 8, 3) := by decide +kernel
theorem dX10_write_51 : decode cX10_write 51 = .ok (.bipush 119, 2) := by decide +kernel
theorem dX10_write_53 : decode cX10_write 53 = .ok (.goto 5, 3) := by decide +kernel
theorem dX10_write_56 : decode cX10_write 56 = .ok (.bipush 98, 2) := by decide +kernel
theorem dX10_write_58 : decode cX10_write 58 = .ok (.invokevirtual 284, 3) := by decide +kernel
theorem dX10_write_61 : decode cX10_write 61 = .ok (.aload_n 0, 1) := by decide +kernel
theorem dX10_write_62 : decode cX10_write 62 = .ok (.bipush 32, 2) := by decide +kernel
theorem dX10_write_64 : decode cX10_write 64 = .ok (.invokevirtual 284, 3) := by decide +kernel
theorem dX10_write_67 : decode cX10_write 67 = .ok (.iconst 0, 1) := by decide +kernel
theorem dX10_write_68 : decode cX10_write 68 = .ok (.istore_n 1, 1) := by decide +kernel
theorem dX10_write_69 : decode cX10_write 69 = .ok (.iload_n 1, 1) := by decide +kernel
theorem dX10_write_70 : decode cX10_write 70 = .ok (.iconst 4, 1) := by decide +kernel
theorem dX10_write_71 : decode cX10_write 71 = .ok (.if_icmp .ge 56, 3) := by decide +kernel
theorem dX10_write_74 : decode cX10_write 74 = .ok (.aload_n 0, 1) := by decide +kernel
theorem dX10_write_75 : decode cX10_write 75 = .ok (.getfield 60, 3) := by decide +kernel
theorem dX10_write_78 : decode cX10_write 78 = .ok (.iload_n 1, 1) := by decide +kernel
theorem dX10_write_79 : decode cX10_write 79 = .ok (.ishr, 1) := by decide +kernel
theorem dX10_write_80 : decode cX10_write 80 = .ok (.iconst 1, 1) := by decide +kernel
theorem dX10_write_81 : decode cX10_write 81 = .ok (.iand, 1) := by decide +kernel
theorem dX10_write_82 : decode cX10_write 82 = .ok (.iconst 1, 1) := by decide +kernel
theorem dX10_write_83 : decode cX10_write 83 = .ok (.if_icmp .ne 38, 3) := by decide +kernel
theorem dX10_write_86 : decode cX10_write 86 = .ok (.aload_n 0, 1) := by decide +kernel
theorem dX10_write_87 : decode cX10_write 87 = .ok (.iload_n 1, 1) := by decide +kernel
theorem dX10_write_88 : decode cX10_write 88 = .ok (.ifCond .ne 8, 3) := by decide +kernel
theorem dX10_write_91 : decode cX10_write 91 = .ok (.bipush 75, 2) := by decide +kernel
theorem dX10_write_93 : decode cX10_write 93 = .ok (.goto 25, 3) := by decide +kernel
theorem dX10_write_96 : decode cX10_write 96 = .ok (.iload_n 1, 1) := by decide +kernel
theorem dX10_write_97 : decode cX10_write 97 = .ok (.iconst 1, 1) := by decide +kernel
theorem dX10_write_98 : decode cX10_write 98 = .ok (.if_icmp .ne 8, 3) := by decide +kernel
theorem dX10_write_101 : decode cX10_write 101 = .ok (.bipush 81, 2) := by decide +kernel
theorem dX10_write_103 : decode cX10_write 103 = .ok (.goto 15, 3) := by decide +kernel
theorem dX10_write_106 : decode cX10_write 106 = .ok (.iload_n 1, 1) := by decide +kernel
theorem dX10_write_107 : decode cX10_write 107 = .ok (.iconst 2, 1) := by decide +kernel
theorem dX10_write_108 : decode cX10_write 108 = .ok (.if_icmp .ne 8, 3) := by decide +kernel
theorem dX10_write_111 : decode cX10_write 111 = .ok (.bipush 107, 2) := by decide +kernel
theorem dX10_write_113 : decode cX10_write 113 = .ok (.goto 5, 3) := by decide +kernel
theorem dX10_write_116 : decode cX10_write 116 = .ok (.bipush 113, 2) := by decide +kernel
theorem dX10_write_118 : decode cX10_write 118 = .ok (.invokevirtual 284, 3) := by decide +kernel
theorem dX10_write_121 : decode cX10_write 121 = .ok (.iinc 1 1, 3) := by decide +kernel
theorem dX10_write_124 : decode cX10_write 124 = .ok (.goto (-55), 3) := by decide +kernel
theorem dX10_write_127 : decode cX10_write 127 = .ok (.aload_n 0, 1) := by decide +kernel
theorem dX10_write_128 : decode cX10_write 128 = .ok (.getfield 60, 3) := by decide +kernel
theorem dX10_write_131 : decode cX10_write 131 = .ok (.ifCond .ne 9, 3) := by decide +kernel
theorem dX10_write_134 : decode cX10_write 134 = .ok (.aload_n 0, 1) := by decide +kernel
theorem dX10_write_135 : decode cX10_write 135 = .ok (.bipush 45, 2) := by decide +kernel
theorem dX10_write_137 : decode cX10_write 137 = .ok (.invokevirtual 284, 3) := by decide +kernel
theorem dX10_write_140 : decode cX10_write 140 = .ok (.aload_n 0, 1) := by decide +kernel
theorem dX10_write_141 : decode cX10_write 141 = .ok (.bipush 32, 2) := by decide +kernel
theorem dX10_write_143 : decode cX10_write 143 = .ok (.invokevirtual 284, 3) := by decide +kernel
theorem dX10_write_146 : decode cX10_write 146 = .ok (.aload_n 0, 1) := by decide +kernel
theorem dX10_write_147 : decode cX10_write 147 = .ok (.getfield 13, 3) := by decide +kernel
theorem dX10_write_150 : decode cX10_write 150 = .ok (.iconst (-1), 1) := by decide +kernel
theorem dX10_write_151 : decode cX10_write 151 = .ok (.if_icmp .ne 12, 3) := by decide +kernel
theorem dX10_write_154 : decode cX10_write 154 = .ok (.aload_n 0, 1) := by decide +kernel
theorem dX10_write_155 : decode cX10_write 155 = .ok (.bipush 45, 2) := by decide +kernel
theorem dX10_write_157 : decode cX10_write 157 = .ok (.invokevirtual 284, 3) := by decide +kernel
theorem dX10_write_160 : decode cX10_write 160 = .ok (.goto 31, 3) := by decide +kernel
theorem dX10_write_163 : decode cX10_write 163 = .ok (.aload_n 0, 1) := by decide +kernel
theorem dX10_write_164 : decode cX10_write 164 = .ok (.bipush 97, 2) := by decide +kernel
theorem dX10_write_166 : decode cX10_write 166 = .ok (.aload_n 0, 1) := by decide +kernel
theorem dX10_write_167 : decode cX10_write 167 = .ok (.getfield 13, 3) := by decide +kernel
theorem dX10_write_170 : decode cX10_write 170 = .ok (.invokestatic 73, 3) := by decide +kernel
theorem dX10_write_173 : decode cX10_write 173 = .ok (.iadd, 1) := by decide +kernel
theorem dX10_write_174 : decode cX10_write 174 = .ok (.invokevirtual 284, 3) := by decide +kernel
theorem dX10_write_177 : decode cX10_write 177 = .ok (.aload_n 0, 1) := by decide +kernel
theorem dX10_write_178 : decode cX10_write 178 = .ok (.bipush 49, 2) := by decide +kernel
theorem dX10_write_180 : decode cX10_write 180 = .ok (.aload_n 0, 1) := by decide +kernel
theorem dX10_write_181 : decode cX10_write 181 = .ok (.getfield 13, 3) := by decide +kernel
theorem dX10_write_184 : decode cX10_write 184 = .ok (.invokestatic 69, 3) := by decide +kernel
theorem dX10_write_187 : decode cX10_write 187 = .ok (.iadd, 1) := by decide +kernel
theorem dX10_write_188 : decode cX10_write 188 = .ok (.invokevirtual 284, 3) := by decide +kernel
theorem dX10_write_191 : decode cX10_write 191 = .ok (.aload_n 0, 1) := by decide +kernel
theorem dX10_write_192 : decode cX10_write 192 = .ok (.bipush 32, 2) := by decide +kernel
theorem dX10_write_194 : decode cX10_write 194 = .ok (.invokevirtual 284, 3) := by decide +kernel
theorem dX10_write_197 : decode cX10_write 197 = .ok (.aload_n 0, 1) := by decide +kernel
theorem dX10_write_198 : decode cX10_write 198 = .ok (.aload_n 0, 1) := by decide +kernel
theorem dX10_write_199 : decode cX10_write 199 = .ok (.getfield 122, 3) := by decide +kernel
theorem dX10_write_202 : decode cX10_write 202 = .ok (.invokevirtual 293, 3) := by decide +kernel
theorem dX10_write_205 : decode cX10_write 205 = .ok (.aload_n 0, 1) := by decide +kernel
theorem dX10_write_206 : decode cX10_write 206 = .ok (.bipush 32, 2) := by decide +kernel
theorem dX10_write_208 : decode cX10_write 208 = .ok (.invokevirtual 284, 3) := by decide +kernel
theorem dX10_write_211 : decode cX10_write 211 = .ok (.aload_n 0, 1) := by decide +kernel
theorem dX10_write_212 : decode cX10_write 212 = .ok (.aload_n 0, 1) := by decide +kernel
theorem dX10_write_213 : decode cX10_write 213 = .ok (.getfield 63, 3) := by decide +kernel
theorem dX10_write_216 : decode cX10_write 216 = .ok (.invokevirtual 293, 3) := by decide +kernel
theorem dX10_write_219 : decode cX10_write 219 = .ok (.aload_n 0, 1) := by decide +kernel
theorem dX10_write_220 : decode cX10_write 220 = .ok (.getfield 281, 3) := by decide +kernel
theorem dX10_write_223 : decode cX10_write 223 = .ok (.ireturn, 1) := by decide +kernel
theorem dX10_written_0 : decode cX10_written 0 = .ok (.aload_n 0, 1) := by decide +kernel
theorem dX10_written_1 : decode cX10_written 1 = .ok (.iload_n 1, 1) := by decide +kernel
theorem dX10_written_2 : decode cX10_written 2 = .ok (.ifCond .lt 11, 3) := by decide +kernel
theorem dX10_written_5 : decode cX10_written 5 = .ok (.iload_n 1, 1) := by decide +kernel
theorem dX10_written_6 : decode cX10_written 6 = .ok (.aload_n 0, 1) := by decide +kernel
theorem dX10_written_7 : decode cX10_written 7 = .ok (.getfield 281, 3) := by decide +kernel
theorem dX10_written_10 : decode cX10_written 10 = .ok (.if_icmp .lt 7, 3) := by decide +kernel
theorem dX10_written_13 : decode cX10_written 13 = .ok (.iconst 1, 1) := by decide +kernel
theorem dX10_written_14 : decode cX10_written 14 = .ok (.goto 4, 3) := by decide +kernel
theorem dX10_written_17 : decode cX10_written 17 = .ok (.iconst 0, 1) := by decide +kernel
theorem dX10_written_18 : decode cX10_written 18 = .ok (.putfield 66, 3) := by decide +kernel
theorem dX10_written_21 : decode cX10_written 21 = .ok (.aload_n 0, 1) := by decide +kernel
theorem dX10_written_22 : decode cX10_written 22 = .ok (.getfield 66, 3) := by decide +kernel
theorem dX10_written_25 : decode cX10_written 25 = .ok (.ifCond .le 7, 3) := by decide +kernel
theorem dX10_written_28 : decode cX10_written 28 = .ok (.iconst 0, 1) := by decide +kernel
theorem dX10_written_29 : decode cX10_written 29 = .ok (.goto 9, 3) := by decide +kernel
theorem dX10_written_32 : decode cX10_written 32 = .ok (.aload_n 0, 1) := by decide +kernel
theorem dX10_written_33 : decode cX10_written 33 = .ok (.getfield 27, 3) := by decide +kernel
theorem dX10_written_36 : decode cX10_written 36 = .ok (.iload_n 1, 1) := by decide +kernel
theorem dX10_written_37 : decode cX10_written 37 = .ok (.iaload, 1) := by decide +kernel
theorem dX10_written_38 : decode cX10_written 38 = .ok (.ireturn, 1) := by decide +kernel
