theorem dX10_up_2 : decode cX10_up 2 = .ok (.iadd, 1) := by decide +kernel
theorem dX10_up_3 : decode cX10_up 3 = .ok (.iconst 1, 1) := by decide +kernel
theorem dX10_up_4 : decode cX10_up 4 = .ok (.isub, 1) := by decide +kernel
theorem dX10_up_5 : decode cX10_up 5 = .ok (.iload_n 1, 1) := by decide +kernel
theorem dX10_up_6 : decode cX10_up 6 = .ok (.idiv, 1) := by decide +kernel
theorem dX10_up_7 : decode cX10_up 7 = .ok (.ireturn, 1) := by decide +kernel
theorem dX10_isLetter_0 : decode cX10_isLetter 0 = .ok (.iload_n 0, 1) := by decide +kernel
theorem dX10_isLetter_1 : decode cX10_isLetter 1 = .ok (.bipush 97, 2) := by decide +kernel
theorem dX10_isLetter_3 : decode cX10_isLetter 3 = .ok (.if_icmp .lt 13, 3) := by decide +kernel
theorem dX10_isLetter_6 : decode cX10_isLetter 6 = .ok (.iload_n 0, 1) := by decide +kernel
theorem dX10_isLetter_7 : decode cX10_isLetter 7 = .ok (.bipush 122, 2) := by decide +kernel
theorem dX10_isLetter_9 : decode cX10_isLetter 9 = .ok (.if_icmp .gt 7, 3) := by decide +kernel
theorem dX10_isLetter_12 : decode cX10_isLetter 12 = .ok (.iconst 1, 1) := by decide +kernel
theorem dX10_isLetter_13 : decode cX10_isLetter 13 = .ok (.goto 4, 3) := by decide +kernel
theorem dX10_isLetter_16 : decode cX10_isLetter 16 = .ok (.iconst 0, 1) := by decide +kernel
theorem dX10_isLetter_17 : decode cX10_isLetter 17 = .ok (.ireturn, 1) := by decide +kernel
theorem dX10_byteAt_0 : decode cX10_byteAt 0 = .ok (.iload_n 1, 1) := by decide +kernel
theorem dX10_byteAt_1 : decode cX10_byteAt 1 = .ok (.aload_n 0, 1) := by decide +kernel
theorem dX10_byteAt_2 : decode cX10_byteAt 2 = .ok (.getfield 93, 3) := by decide +kernel
theorem dX10_byteAt_5 : decode cX10_byteAt 5 = .ok (.if_icmp .ge 12, 3) := by decide +kernel
theorem dX10_byteAt_8 : decode cX10_byteAt 8 = .ok (.aload_n 0, 1) := by decide +kernel
theorem dX10_byteAt_9 : decode cX10_byteAt 9 = .ok (.getfield 29, 3) := by decide +kernel
theorem dX10_byteAt_12 : decode cX10_byteAt 12 = .ok (.iload_n 1, 1) := by decide +kernel
theorem dX10_byteAt_13 : decode cX10_byteAt 13 = .ok (.iaload, 1) := by decide +kernel
theorem dX10_byteAt_14 : decode cX10_byteAt 14 = .ok (.goto 4, 3) := by decide +kernel
theorem dX10_byteAt_17 : decode cX10_byteAt 17 = .ok (.iconst 0, 1) := by decide +kernel
theorem dX10_byteAt_18 : decode cX10_byteAt 18 = .ok (.ireturn, 1) := by decide +kernel
theorem dX10_wordFrom_0 : decode cX10_wordFrom 0 = .ok (.iconst 0, 1) := by decide +kernel
theorem dX10_wordFrom_1 : decode cX10_wordFrom 1 = .ok (.istore_n 3, 1) := by decide +kernel
theorem dX10_wordFrom_2 : decode cX10_wordFrom 2 = .ok (.iload_n 1, 1) := by decide +kernel
theorem dX10_wordFrom_3 : decode cX10_wordFrom 3 = .ok (.istore 4, 2) := by decide +kernel
theorem dX10_wordFrom_5 : decode cX10_wordFrom 5 = .ok (.iconst 1, 1) := by decide +kernel
theorem dX10_wordFrom_6 : decode cX10_wordFrom 6 = .ok (.istore 5, 2) := by decide +kernel
theorem dX10_wordFrom_8 : decode cX10_wordFrom 8 = .ok (.iconst 0, 1) := by decide +kernel
theorem dX10_wordFrom_9 : decode cX10_wordFrom 9 = .ok (.istore 6, 2) := by decide +kernel
theorem dX10_wordFrom_11 : decode cX10_wordFrom 11 = .ok (.iload 6, 2) := by decide +kernel
theorem dX10_wordFrom_13 : decode cX10_wordFrom 13 = .ok (.getstatic 96, 3) := by decide +kernel
theorem dX10_wordFrom_16 : decode cX10_wordFrom 16 = .ok (.arraylength, 1) := by decide +kernel
theorem dX10_wordFrom_17 : decode cX10_wordFrom 17 = .ok (.if_icmp .ge 81, 3) := by decide +kernel
theorem dX10_wordFrom_20 : decode cX10_wordFrom 20 = .ok (.getstatic 96, 3) := by decide +kernel
theorem dX10_wordFrom_23 : decode cX10_wordFrom 23 = .ok (.iload 6, 2) := by decide +kernel
theorem dX10_wordFrom_25 : decode cX10_wordFrom 25 = .ok (.baload, 1) := by decide +kernel
theorem dX10_wordFrom_26 : decode cX10_wordFrom 26 = .ok (.bipush 32, 2) := by decide +kernel
theorem dX10_wordFrom_28 : decode cX10_wordFrom 28 = .ok (.if_icmp .ne 28, 3) := by decide +kernel
theorem dX10_wordFrom_31 : decode cX10_wordFrom 31 = .ok (.iload 5, 2) := by decide +kernel
theorem dX10_wordFrom_33 : decode cX10_wordFrom 33 = .ok (.ifCond .eq 11, 3) := by decide +kernel
theorem dX10_wordFrom_36 : decode cX10_wordFrom 36 = .ok (.iload 4, 2) := by decide +kernel
theorem dX10_wordFrom_38 : decode cX10_wordFrom 38 = .ok (.iload_n 2, 1) := by decide +kernel
theorem dX10_wordFrom_39 : decode cX10_wordFrom 39 = .ok (.if_icmp .ne 5, 3) := by decide +kernel
theorem dX10_wordFrom_42 : decode cX10_wordFrom 42 = .ok (.iload_n 3, 1) := by decide +kernel
theorem dX10_wordFrom_43 : decode cX10_wordFrom 43 = .ok (.ireturn, 1) := by decide +kernel
theorem dX10_wordFrom_44 : decode cX10_wordFrom 44 = .ok (.iinc 3 1, 3) := by decide +kernel
theorem dX10_wordFrom_47 : decode cX10_wordFrom 47 = .ok (.iload_n 1, 1) := by decide +kernel
theorem dX10_wordFrom_48 : decode cX10_wordFrom 48 = .ok (.istore 4, 2) := by decide +kernel
theorem dX10_wordFrom_50 : decode cX10_wordFrom 50 = .ok (.iconst 1, 1) := by decide +kernel
theorem dX10_wordFrom_51 : decode cX10_wordFrom 51 = .ok (.istore 5, 2) := by decide +kernel
theorem dX10_wordFrom_53 : decode cX10_wordFrom 53 = .ok (.goto 39, 3) := by decide +kernel
theorem dX10_wordFrom_56 : decode cX10_wordFrom 56 = .ok (.iload 5, 2) := by decide +kernel
theorem dX10_wordFrom_58 : decode cX10_wordFrom 58 = .ok (.ifCond .eq 28, 3) := by decide +kernel
theorem dX10_wordFrom_61 : decode cX10_wordFrom 61 = .ok (.iload 4, 2) := by decide +kernel
theorem dX10_wordFrom_63 : decode cX10_wordFrom 63 = .ok (.iload_n 2, 1) := by decide +kernel
theorem dX10_wordFrom_64 : decode cX10_wordFrom 64 = .ok (.if_icmp .ge 22, 3) := by decide +kernel
theorem dX10_wordFrom_67 : decode cX10_wordFrom 67 = .ok (.aload_n 0, 1) := by decide +kernel
theorem dX10_wordFrom_68 : decode cX10_wordFrom 68 = .ok (.iload 4, 2) := by decide +kernel
theorem dX10_wordFrom_70 : decode cX10_wordFrom 70 = .ok (.invokevirtual 100, 3) := by decide +kernel
theorem dX10_wordFrom_73 : decode cX10_wordFrom 73 = .ok (.getstatic 96, 3) := by decide +kernel
theorem dX10_wordFrom_76 : decode cX10_wordFrom 76 = .ok (.iload 6, 2) := by decide +kernel
theorem dX10_wordFrom_78 : decode cX10_wordFrom 78 = .ok (.baload, 1) := by decide +kernel
theorem dX10_wordFrom_79 : decode cX10_wordFrom 79 = .ok (.if_icmp .ne 7, 3) := by decide +kernel
theorem dX10_wordFrom_82 : decode cX10_wordFrom 82 = .ok (.iconst 1, 1) := by decide +kernel
theorem dX10_wordFrom_83 : decode cX10_wordFrom 83 = .ok (.goto 4, 3) := by decide +kernel
theorem dX10_wordFrom_86 : decode cX10_wordFrom 86 = .ok (.iconst 0, 1) := by decide +kernel
theorem dX10_wordFrom_87 : decode cX10_wordFrom 87 = .ok (.istore 5, 2) := by decide +kernel
theorem dX10_wordFrom_89 : decode cX10_wordFrom 89 = .ok (.iinc 4 1, 3) := by decide +kernel
theorem dX10_wordFrom_92 : decode cX10_wordFrom 92 = .ok (.iinc 6 1, 3) := by decide +kernel
theorem dX10_wordFrom_95 : decode cX10_wordFrom 95 = .ok (.goto (-84), 3) := by decide +kernel
theorem dX10_wordFrom_98 : decode cX10_wordFrom 98 = .ok (.iconst (-1), 1) := by decide +kernel
theorem dX10_wordFrom_99 : decode cX10_wordFrom 99 = .ok (.ireturn, 1) := by decide +kernel
theorem dX10_go_0 : decode cX10_go 0 = .ok (.aload_n 0, 1) := by decide +kernel
theorem dX10_go_1 : decode cX10_go 1 = .ok (.getfield 104, 3) := by decide +kernel
theorem dX10_go_4 : decode cX10_go 4 = .ok (.aload_n 0, 1) := by decide +kernel
theorem dX10_go_5 : decode cX10_go 5 = .ok (.getfield 93, 3) := by decide +kernel
theorem dX10_go_8 : decode cX10_go 8 = .ok (.if_icmp .ge 42, 3) := by decide +kernel
theorem dX10_go_11 : decode cX10_go 11 = .ok (.aload_n 0, 1) := by decide +kernel
theorem dX10_go_12 : decode cX10_go 12 = .ok (.aload_n 0, 1) := by decide +kernel
theorem dX10_go_13 : decode cX10_go 13 = .ok (.getfield 104, 3) := by decide +kernel
theorem dX10_go_16 : decode cX10_go 16 = .ok (.invokevirtual 100, 3) := by decide +kernel
theorem dX10_go_19 : decode cX10_go 19 = .ok (.bipush 32, 2) := by decide +kernel
theorem dX10_go_21 : decode cX10_go 21 = .ok (.if_icmp .eq 16, 3) := by decide +kernel
theorem dX10_go_24 : decode cX10_go 24 = .ok (.aload_n 0, 1) := by decide +kernel
theorem dX10_go_25 : decode cX10_go 25 = .ok (.aload_n 0, 1) := by decide +kernel
theorem dX10_go_26 : decode cX10_go 26 = .ok (.getfield 104, 3) := by decide +kernel
theorem dX10_go_29 : decode cX10_go 29 = .ok (.invokevirtual 100, 3) := by decide +kernel
theorem dX10_go_32 : decode cX10_go 32 = .ok (.bipush 10, 2) := by decide +kernel
theorem dX10_go_34 : decode cX10_go 34 = .ok (.if_icmp .ne 16, 3) := by decide +kernel
theorem dX10_go_37 : decode cX10_go 37 = .ok (.aload_n 0, 1) := by decide +kernel
theorem dX10_go_38 : decode cX10_go 38 = .ok (.dup, 1) := by decide +kernel
theorem dX10_go_39 : decode cX10_go 39 = .ok (.getfield 104, 3) := by decide +kernel
theorem dX10_go_42 : decode cX10_go 42 = .ok (.iconst 1, 1) := by decide +kernel
theorem dX10_go_43 : decode cX10_go 43 = .ok (.iadd, 1) := by decide +kernel
theorem dX10_go_44 : decode cX10_go 44 = .ok (.putfield 104, 3) := by decide +kernel
theorem dX10_go_47 : decode cX10_go 47 = .ok (.goto (-47), 3) := by decide +kernel
theorem dX10_go_50 : decode cX10_go 50 = .ok (.aload_n 0, 1) := by decide +kernel
theorem dX10_go_51 : decode cX10_go 51 = .ok (.aload_n 0, 1) := by decide +kernel
theorem dX10_go_52 : decode cX10_go 52 = .ok (.getfield 104, 3) := by decide +kernel
theorem dX10_go_55 : decode cX10_go 55 = .ok (.putfield 107, 3) := by decide +kernel
theorem dX10_go_58 : decode cX10_go 58 = .ok (.aload_n 0, 1) := by decide +kernel
theorem dX10_go_59 : decode cX10_go 59 = .ok (.aload_n 0, 1) := by decide +kernel
theorem dX10_go_60 : decode cX10_go 60 = .ok (.getfield 104, 3) := by decide +kernel
theorem dX10_go_63 : decode cX10_go 63 = .ok (.invokevirtual 100, 3) := by decide +kernel
theorem dX10_go_66 : decode cX10_go 66 = .ok (.istore_n 1, 1) := by decide +kernel
theorem dX10_go_67 : decode cX10_go 67 = .ok (.aload_n 0, 1) := by decide +kernel
theorem dX10_go_68 : decode cX10_go 68 = .ok (.iconst (-1), 1) := by decide +kernel
theorem dX10_go_69 : decode cX10_go 69 = .ok (.putfield 110, 3) := by decide +kernel
theorem dX10_go_72 : decode cX10_go 72 = .ok (.aload_n 0, 1) := by decide +kernel
theorem dX10_go_73 : decode cX10_go 73 = .ok (.iconst 0, 1) := by decide +kernel
theorem dX10_go_74 : decode cX10_go 74 = .ok (.putfield 113, 3) := by decide +kernel
theorem dX10_go_77 : decode cX10_go 77 = .ok (.aload_n 0, 1) := by decide +kernel
theorem dX10_go_78 : decode cX10_go 78 = .ok (.getfield 104, 3) := by decide +kernel
theorem dX10_go_81 : decode cX10_go 81 = .ok (.aload_n 0, 1) := by decide +kernel
theorem dX10_go_82 : decode cX10_go 82 = .ok (.getfield 93, 3) := by decide +kernel
theorem dX10_go_85 : decode cX10_go 85 = .ok (.if_icmp .lt 11, 3) := by decide +kernel
theorem dX10_go_88 : decode cX10_go 88 = .ok (.aload_n 0, 1) := by decide +kernel
theorem dX10_go_89 : decode cX10_go 89 = .ok (.iconst 0, 1) := by decide +kernel
theorem dX10_go_90 : decode cX10_go 90 = .ok (.putfield 116, 3) := by decide +kernel
theorem dX10_go_93 : decode cX10_go 93 = .ok (.goto 187, 3) := by decide +kernel
theorem dX10_go_96 : decode cX10_go 96 = .ok (.iload_n 1, 1) := by decide +kernel
theorem dX10_go_97 : decode cX10_go 97 = .ok (.invokestatic 119, 3) := by decide +kernel
theorem dX10_go_100 : decode cX10_go 100 = .ok (.ifCond .eq 54, 3) := by decide +kernel
theorem dX10_go_103 : decode cX10_go 103 = .ok (.aload_n 0, 1) := by decide +kernel
theorem dX10_go_104 : decode cX10_go 104 = .ok (.aload_n 0, 1) := by decide +kernel
theorem dX10_go_105 : decode cX10_go 105 = .ok (.getfield 104, 3) := by decide +kernel
theorem dX10_go_108 : decode cX10_go 108 = .ok (.invokevirtual 100, 3) := by decide +kernel
theorem dX10_go_111 : decode cX10_go 111 = .ok (.invokestatic 119, 3) := by decide +kernel
theorem dX10_go_114 : decode cX10_go 114 = .ok (.ifCond .eq 16, 3) := by decide +kernel
theorem dX10_go_117 : decode cX10_go 117 = .ok (.aload_n 0, 1) := by decide +kernel
theorem dX10_go_118 : decode cX10_go 118 = .ok (.dup, 1) := by decide +kernel
theorem dX10_go_119 : decode cX10_go 119 = .ok (.getfield 104, 3) := by decide +kernel
theorem dX10_go_122 : decode cX10_go 122 = .ok (.iconst 1, 1) := by decide +kernel
theorem dX10_go_123 : decode cX10_go 123 = .ok (.iadd, 1) := by decide +kernel
theorem dX10_go_124 : decode cX10_go 124 = .ok (.putfield 104, 3) := by decide +kernel
theorem dX10_go_127 : decode cX10_go 127 = .ok (.goto (-24), 3) := by decide +kernel
theorem dX10_go_130 : decode cX10_go 130 = .ok (.aload_n 0, 1) := by decide +kernel
theorem dX10_go_131 : decode cX10_go 131 = .ok (.iconst 1, 1) := by decide +kernel
theorem dX10_go_132 : decode cX10_go 132 = .ok (.putfield 116, 3) := by decide +kernel
theorem dX10_go_135 : decode cX10_go 135 = .ok (.aload_n 0, 1) := by decide +kernel
theorem dX10_go_136 : decode cX10_go 136 = .ok (.aload_n 0, 1) := by decide +kernel
theorem dX10_go_137 : decode cX10_go 137 = .ok (.aload_n 0, 1) := by decide +kernel
theorem dX10_go_138 : decode cX10_go 138 = .ok (.getfield 107, 3) := by decide +kernel
theorem dX10_go_141 : decode cX10_go 141 = .ok (.aload_n 0, 1) := by decide +kernel
theorem dX10_go_142 : decode cX10_go 142 = .ok (.getfield 104, 3) := by decide +kernel
theorem dX10_go_145 : decode cX10_go 145 = .ok (.invokevirtual 123, 3) := by decide +kernel
theorem dX10_go_148 : decode cX10_go 148 = .ok (.putfield 110, 3) := by decide +kernel
theorem dX10_go_151 : decode cX10_go 151 = .ok (.goto 129, 3) := by decide +kernel
theorem dX10_go_154 : decode cX10_go 154 = .ok (.iload_n 1, 1) := by decide +kernel
theorem dX10_go_155 : decode cX10_go 155 = .ok (.bipush 48, 2) := by decide +kernel
theorem dX10_go_157 : decode cX10_go 157 = .ok (.if_icmp .lt 98, 3) := by decide +kernel
theorem dX10_go_160 : decode cX10_go 160 = .ok (.iload_n 1, 1) := by decide +kernel
theorem dX10_go_161 : decode cX10_go 161 = .ok (.bipush 57, 2) := by decide +kernel
theorem dX10_go_163 : decode cX10_go 163 = .ok (.if_icmp .gt 92, 3) := by decide +kernel
theorem dX10_go_166 : decode cX10_go 166 = .ok (.aload_n 0, 1) := by decide +kernel
theorem dX10_go_167 : decode cX10_go 167 = .ok (.aload_n 0, 1) := by decide +kernel
theorem dX10_go_168 : decode cX10_go 168 = .ok (.getfield 104, 3) := by decide +kernel
theorem dX10_go_171 : decode cX10_go 171 = .ok (.invokevirtual 100, 3) := by decide +kernel
theorem dX10_go_174 : decode cX10_go 174 = .ok (.bipush 48, 2) := by decide +kernel
theorem dX10_go_176 : decode cX10_go 176 = .ok (.if_icmp .lt 71, 3) := by decide +kernel
theorem dX10_go_179 : decode cX10_go 179 = .ok (.aload_n 0, 1) := by decide +kernel
theorem dX10_go_180 : decode cX10_go 180 = .ok (.aload_n 0, 1) := by decide +kernel
theorem dX10_go_181 : decode cX10_go 181 = .ok (.getfield 104, 3) := by decide +kernel
theorem dX10_go_184 : decode cX10_go 184 = .ok (.invokevirtual 100, 3) := by decide +kernel
theorem dX10_go_187 : decode cX10_go 187 = .ok (.bipush 57, 2) := by decide +kernel
theorem dX10_go_189 : decode cX10_go 189 = .ok (.if_icmp .gt 58, 3) := by decide +kernel
theorem dX10_go_192 : decode cX10_go 192 = .ok (.aload_n 0, 1) := by decide +kernel
theorem dX10_go_193 : decode cX10_go 193 = .ok (.aload_n 0, 1) := by decide +kernel
theorem dX10_go_194 : decode cX10_go 194 = .ok (.getfield 104, 3) := by decide +kernel
theorem dX10_go_197 : decode cX10_go 197 = .ok (.aload_n 0, 1) := by decide +kernel
theorem dX10_go_198 : decode cX10_go 198 = .ok (.getfield 107, 3) := by decide +kernel
theorem dX10_go_201 : decode cX10_go 201 = .ok (.isub, 1) := by decide +kernel
theorem dX10_go_202 : decode cX10_go 202 = .ok (.iconst 3, 1) := by decide +kernel
theorem dX10_go_203 : decode cX10_go 203 = .ok (.if_icmp .ge 25, 3) := by decide +kernel
theorem dX10_go_206 : decode cX10_go 206 = .ok (.bipush 10, 2) := by decide +kernel
theorem dX10_go_208 : decode cX10_go 208 = .ok (.aload_n 0, 1) := by decide +kernel
theorem dX10_go_209 : decode cX10_go 209 = .ok (.getfield 113, 3) := by decide +kernel
theorem dX10_go_212 : decode cX10_go 212 = .ok (.imul, 1) := by decide +kernel
theorem dX10_go_213 : decode cX10_go 213 = .ok (.aload_n 0, 1) := by decide +kernel
theorem dX10_go_214 : decode cX10_go 214 = .ok (.aload_n 0, 1) := by decide +kernel
theorem dX10_go_215 : decode cX10_go 215 = .ok (.getfield 104, 3) := by decide +kernel
theorem dX10_go_218 : decode cX10_go 218 = .ok (.invokevirtual 100, 3) := by decide +kernel
theorem dX10_go_221 : decode cX10_go 221 = .ok (.iadd, 1) := by decide +kernel
theorem dX10_go_222 : decode cX10_go 222 = .ok (.bipush 48, 2) := by decide +kernel
theorem dX10_go_224 : decode cX10_go 224 = .ok (.isub, 1) := by decide +kernel
theorem dX10_go_225 : decode cX10_go 225 = .ok (.goto 6, 3) := by decide +kernel
theorem dX10_go_228 : decode cX10_go 228 = .ok (.sipush 9999, 3) := by decide +kernel
theorem dX10_go_231 : decode cX10_go 231 = .ok (.putfield 113, 3) := by decide +kernel
theorem dX10_go_234 : decode cX10_go 234 = .ok (.aload_n 0, 1) := by decide +kernel
theorem dX10_go_235 : decode cX10_go 235 = .ok (.dup, 1) := by decide +kernel
theorem dX10_go_236 : decode cX10_go 236 = .ok (.getfield 104, 3) := by decide +kernel
theorem dX10_go_239 : decode cX10_go 239 = .ok (.iconst 1, 1) := by decide +kernel
theorem dX10_go_240 : decode cX10_go 240 = .ok (.iadd, 1) := by decide +kernel
theorem dX10_go_241 : decode cX10_go 241 = .ok (.putfield 104, 3) := by decide +kernel
theorem dX10_go_244 : decode cX10_go 244 = .ok (.goto (-78), 3) := by decide +kernel
theorem dX10_go_247 : decode cX10_go 247 = .ok (.aload_n 0, 1) := by decide +kernel
theorem dX10_go_248 : decode cX10_go 248 = .ok (.iconst 2, 1) := by decide +kernel
theorem dX10_go_249 : decode cX10_go 249 = .ok (.putfield 116, 3) := by decide +kernel
theorem dX10_go_252 : decode cX10_go 252 = .ok (.goto 28, 3) := by decide +kernel
theorem dX10_go_255 : decode cX10_go 255 = .ok (.aload_n 0, 1) := by decide +kernel
theorem dX10_go_256 : decode cX10_go 256 = .ok (.dup, 1) := by decide +kernel
theorem dX10_go_257 : decode cX10_go 257 = .ok (.getfield 104, 3) := by decide +kernel
theorem dX10_go_260 : decode cX10_go 260 = .ok (.iconst 1, 1) := by decide +kernel
theorem dX10_go_261 : decode cX10_go 261 = .ok (.iadd, 1) := by decide +kernel
theorem dX10_go_262 : decode cX10_go 262 = .ok (.putfield 104, 3) := by decide +kernel
theorem dX10_go_265 : decode cX10_go 265 = .ok (.aload_n 0, 1) := by decide +kernel
theorem dX10_go_266 : decode cX10_go 266 = .ok (.iload_n 1, 1) := by decide +kernel
theorem dX10_go_267 : decode cX10_go 267 = .ok (.bipush 59, 2) := by decide +kernel
theorem dX10_go_269 : decode cX10_go 269 = .ok (.if_icmp .ne 7, 3) := by decide +kernel
theorem dX10_go_272 : decode cX10_go 272 = .ok (.iconst 3, 1) := by decide +kernel
theorem dX10_go_273 : decode cX10_go 273 = .ok (.goto 4, 3) := by decide +kernel
theorem dX10_go_276 : decode cX10_go 276 = .ok (.iconst 4, 1) := by decide +kernel
theorem dX10_go_277 : decode cX10_go 277 = .ok (.putfield 116, 3) := by decide +kernel
theorem dX10_go_280 : decode cX10_go 280 = .ok (.return_, 1) := by decide +kernel
theorem dX10_wants_0 : decode cX10_wants 0 = .ok (.aload_n 0, 1) := by decide +kernel
theorem dX10_wants_1 : decode cX10_wants 1 = .ok (.getfield 127, 3) := by decide +kernel
theorem dX10_wants_4 : decode cX10_wants 4 = .ok (.ifCond .ne 20, 3) := by decide +kernel
theorem dX10_wants_7 : decode cX10_wants 7 = .ok (.iload_n 1, 1) := by decide +kernel
theorem dX10_wants_8 : decode cX10_wants 8 = .ok (.ifCond .ne 16, 3) := by decide +kernel
theorem dX10_wants_11 : decode cX10_wants 11 = .ok (.aload_n 0, 1) := by decide +kernel
theorem dX10_wants_12 : decode cX10_wants 12 = .ok (.iload_n 2, 1) := by decide +kernel
theorem dX10_wants_13 : decode cX10_wants 13 = .ok (.putfield 127, 3) := by decide +kernel
theorem dX10_wants_16 : decode cX10_wants 16 = .ok (.aload_n 0, 1) := by decide +kernel
theorem dX10_wants_17 : decode cX10_wants 17 = .ok (.aload_n 0, 1) := by decide +kernel
theorem dX10_wants_18 : decode cX10_wants 18 = .ok (.getfield 107, 3) := by decide +kernel
theorem dX10_wants_21 : decode cX10_wants 21 = .ok (.putfield 32, 3) := by decide +kernel
theorem dX10_wants_24 : decode cX10_wants 24 = .ok (.aload_n 0, 1) := by decide +kernel
theorem dX10_wants_25 : decode cX10_wants 25 = .ok (.getfield 127, 3) := by decide +kernel
theorem dX10_wants_28 : decode cX10_wants 28 = .ok (.ifCond .ne 7, 3) := by decide +kernel
theorem dX10_wants_31 : decode cX10_wants 31 = .ok (.iconst 1, 1) := by decide +kernel
theorem dX10_wants_32 : decode cX10_wants 32 = .ok (.goto 4, 3) := by decide +kernel
theorem dX10_wants_35 : decode cX10_wants 35 = .ok (.iconst 0, 1) := by decide +kernel
theorem dX10_wants_36 : decode cX10_wants 36 = .ok (.ireturn, 1) := by decide +kernel
theorem dX10_number_0 : decode cX10_number 0 = .ok (.aload_n 0, 1) := by decide +kernel
theorem dX10_number_1 : decode cX10_number 1 = .ok (.aload_n 0, 1) := by decide +kernel
theorem dX10_number_2 : decode cX10_number 2 = .ok (.getfield 116, 3) := by decide +kernel
theorem dX10_number_5 : decode cX10_number 5 = .ok (.iconst 2, 1) := by decide +kernel
theorem dX10_number_6 : decode cX10_number 6 = .ok (.if_icmp .ne 7, 3) := by decide +kernel
theorem dX10_number_9 : decode cX10_number 9 = .ok (.iconst 1, 1) := by decide +kernel
theorem dX10_number_10 : decode cX10_number 10 = .ok (.goto 4, 3) := by decide +kernel
theorem dX10_number_13 : decode cX10_number 13 = .ok (.iconst 0, 1) := by decide +kernel
theorem dX10_number_14 : decode cX10_number 14 = .ok (.iconst 1, 1) := by decide +kernel
theorem dX10_number_15 : decode cX10_number 15 = .ok (.invokevirtual 130, 3) := by decide +kernel
theorem dX10_number_18 : decode cX10_number 18 = .ok (.ifCond .eq 20, 3) := by decide +kernel
theorem dX10_number_21 : decode cX10_number 21 = .ok (.aload_n 0, 1) := by decide +kernel
theorem dX10_number_22 : decode cX10_number 22 = .ok (.aload_n 0, 1) := by decide +kernel
theorem dX10_number_23 : decode cX10_number 23 = .ok (.getfield 113, 3) := by decide +kernel
theorem dX10_number_26 : decode cX10_number 26 = .ok (.iload_n 1, 1) := by decide +kernel
theorem dX10_number_27 : decode cX10_number 27 = .ok (.iload_n 2, 1) := by decide +kernel
theorem dX10_number_28 : decode cX10_number 28 = .ok (.invokestatic 134, 3) := by decide +kernel
theorem dX10_number_31 : decode cX10_number 31 = .ok (.iconst 2, 1) := by decide +kernel
theorem dX10_number_32 : decode cX10_number 32 = .ok (.invokevirtual 130, 3) := by decide +kernel
theorem dX10_number_35 : decode cX10_number 35 = .ok (.ifCond .ne 5, 3) := by decide +kernel
theorem dX10_number_38 : decode cX10_number 38 = .ok (.iload_n 1, 1) := by decide +kernel
theorem dX10_number_39 : decode cX10_number 39 = .ok (.ireturn, 1) := by decide +kernel
theorem dX10_number_40 : decode cX10_number 40 = .ok (.aload_n 0, 1) := by decide +kernel
theorem dX10_number_41 : decode cX10_number 41 = .ok (.getfield 113, 3) := by decide +kernel
theorem dX10_number_44 : decode cX10_number 44 = .ok (.istore_n 3, 1) := by decide +kernel
theorem dX10_number_45 : decode cX10_number 45 = .ok (.aload_n 0, 1) := by decide +kernel
theorem dX10_number_46 : decode cX10_number 46 = .ok (.invokevirtual 138, 3) := by decide +kernel
theorem dX10_number_49 : decode cX10_number 49 = .ok (.iload_n 3, 1) := by decide +kernel
theorem dX10_number_50 : decode cX10_number 50 = .ok (.ireturn, 1) := by decide +kernel
theorem dX10_toldAll_0 : decode cX10_toldAll 0 = .ok (.iconst 0, 1) := by decide +kernel
theorem dX10_toldAll_1 : decode cX10_toldAll 1 = .ok (.istore_n 1, 1) := by decide +kernel
theorem dX10_toldAll_2 : decode cX10_toldAll 2 = .ok (.iconst 0, 1) := by decide +kernel
theorem dX10_toldAll_3 : decode cX10_toldAll 3 = .ok (.istore_n 2, 1) := by decide +kernel
theorem dX10_toldAll_4 : decode cX10_toldAll 4 = .ok (.iload_n 2, 1) := by decide +kernel
theorem dX10_toldAll_5 : decode cX10_toldAll 5 = .ok (.aload_n 0, 1) := by decide +kernel
theorem dX10_toldAll_6 : decode cX10_toldAll 6 = .ok (.getfield 141, 3) := by decide +kernel
theorem dX10_toldAll_9 : decode cX10_toldAll 9 = .ok (.if_icmp .ge 18, 3) := by decide +kernel
theorem dX10_toldAll_12 : decode cX10_toldAll 12 = .ok (.iload_n 1, 1) := by decide +kernel
theorem dX10_toldAll_13 : decode cX10_toldAll 13 = .ok (.aload_n 0, 1) := by decide +kernel
theorem dX10_toldAll_14 : decode cX10_toldAll 14 = .ok (.getfield 38, 3) := by decide +kernel
theorem dX10_toldAll_17 : decode cX10_toldAll 17 = .ok (.iload_n 2, 1) := by decide +kernel
theorem dX10_toldAll_18 : decode cX10_toldAll 18 = .ok (.iaload, 1) := by decide +kernel
theorem dX10_toldAll_19 : decode cX10_toldAll 19 = .ok (.iadd, 1) := by decide +kernel
theorem dX10_toldAll_20 : decode cX10_toldAll 20 = .ok (.istore_n 1, 1) := by decide +kernel
theorem dX10_toldAll_21 : decode cX10_toldAll 21 = .ok (.iinc 2 1, 3) := by decide +kernel
theorem dX10_toldAll_24 : decode cX10_toldAll 24 = .ok (.goto (-20), 3) := by decide +kernel
theorem dX10_toldAll_27 : decode cX10_toldAll 27 = .ok (.iload_n 1, 1) := by decide +kernel
theorem dX10_toldAll_28 : decode cX10_toldAll 28 = .ok (.ireturn, 1) := by decide +kernel
theorem dX10_sortTold_0 : decode cX10_sortTold 0 = .ok (.aload_n 0, 1) := by decide +kernel
theorem dX10_sortTold_1 : decode cX10_sortTold 1 = .ok (.aload_n 0, 1) := by decide +kernel
theorem dX10_sortTold_2 : decode cX10_sortTold 2 = .ok (.getfield 141, 3) := by decide +kernel
theorem dX10_sortTold_5 : decode cX10_sortTold 5 = .ok (.bipush 6, 2) := by decide +kernel
theorem dX10_sortTold_7 : decode cX10_sortTold 7 = .ok (.if_icmp .ge 7, 3) := by decide +kernel
theorem dX10_sortTold_10 : decode cX10_sortTold 10 = .ok (.iconst 1, 1) := by decide +kernel
theorem dX10_sortTold_11 : decode cX10_sortTold 11 = .ok (.goto 4, 3) := by decide +kernel
theorem dX10_sortTold_14 : decode cX10_sortTold 14 = .ok (.iconst 0, 1) := by decide +kernel
theorem dX10_sortTold_15 : decode cX10_sortTold 15 = .ok (.iconst 2, 1) := by decide +kernel
theorem dX10_sortTold_16 : decode cX10_sortTold 16 = .ok (.invokevirtual 130, 3) := by decide +kernel
theorem dX10_sortTold_19 : decode cX10_sortTold 19 = .ok (.ifCond .ne 4, 3) := by decide +kernel
theorem dX10_sortTold_22 : decode cX10_sortTold 22 = .ok (.return_, 1) := by decide +kernel
theorem dX10_sortTold_23 : decode cX10_sortTold 23 = .ok (.aload_n 0, 1) := by decide +kernel
theorem dX10_sortTold_24 : decode cX10_sortTold 24 = .ok (.invokevirtual 138, 3) := by decide +kernel
theorem dX10_sortTold_27 : decode cX10_sortTold 27 = .ok (.aload_n 0, 1) := by decide +kernel
theorem dX10_sortTold_28 : decode cX10_sortTold 28 = .ok (.iconst 1, 1) := by decide +kernel
theorem dX10_sortTold_29 : decode cX10_sortTold 29 = .ok (.aload_n 0, 1) := by decide +kernel
theorem dX10_sortTold_30 : decode cX10_sortTold 30 = .ok (.getfield 144, 3) := by decide +kernel
theorem dX10_sortTold_33 : decode cX10_sortTold 33 = .ok (.invokevirtual 147, 3) := by decide +kernel
theorem dX10_sortTold_36 : decode cX10_sortTold 36 = .ok (.istore_n 1, 1) := by decide +kernel
theorem dX10_sortTold_37 : decode cX10_sortTold 37 = .ok (.aload_n 0, 1) := by decide +kernel
theorem dX10_sortTold_38 : decode cX10_sortTold 38 = .ok (.aload_n 0, 1) := by decide +kernel
theorem dX10_sortTold_39 : decode cX10_sortTold 39 = .ok (.getfield 116, 3) := by decide +kernel
theorem dX10_sortTold_42 : decode cX10_sortTold 42 = .ok (.iconst 2, 1) := by decide +kernel
theorem dX10_sortTold_43 : decode cX10_sortTold 43 = .ok (.if_icmp .ne 7, 3) := by decide +kernel
theorem dX10_sortTold_46 : decode cX10_sortTold 46 = .ok (.iconst 1, 1) := by decide +kernel
theorem dX10_sortTold_47 : decode cX10_sortTold 47 = .ok (.goto 4, 3) := by decide +kernel
theorem dX10_sortTold_50 : decode cX10_sortTold 50 = .ok (.iconst 0, 1) := by decide +kernel
theorem dX10_sortTold_51 : decode cX10_sortTold 51 = .ok (.iconst 1, 1) := by decide +kernel
theorem dX10_sortTold_52 : decode cX10_sortTold 52 = .ok (.invokevirtual 130, 3) := by decide +kernel
theorem dX10_sortTold_55 : decode cX10_sortTold 55 = .ok (.ifCond .eq 39, 3) := by decide +kernel
theorem dX10_sortTold_58 : decode cX10_sortTold 58 = .ok (.aload_n 0, 1) := by decide +kernel
theorem dX10_sortTold_59 : decode cX10_sortTold 59 = .ok (.aload_n 0, 1) := by decide +kernel
theorem dX10_sortTold_60 : decode cX10_sortTold 60 = .ok (.getfield 113, 3) := by decide +kernel
theorem dX10_sortTold_63 : decode cX10_sortTold 63 = .ok (.bipush 12, 2) := by decide +kernel
theorem dX10_sortTold_65 : decode cX10_sortTold 65 = .ok (.if_icmp .gt 21, 3) := by decide +kernel
theorem dX10_sortTold_68 : decode cX10_sortTold 68 = .ok (.aload_n 0, 1) := by decide +kernel
theorem dX10_sortTold_69 : decode cX10_sortTold 69 = .ok (.invokevirtual 150, 3) := by decide +kernel
theorem dX10_sortTold_72 : decode cX10_sortTold 72 = .ok (.aload_n 0, 1) := by decide +kernel
theorem dX10_sortTold_73 : decode cX10_sortTold 73 = .ok (.getfield 113, 3) := by decide +kernel
theorem dX10_sortTold_76 : decode cX10_sortTold 76 = .ok (.iadd, 1) := by decide +kernel
theorem dX10_sortTold_77 : decode cX10_sortTold 77 = .ok (.bipush 24, 2) := by decide +kernel
theorem dX10_sortTold_79 : decode cX10_sortTold 79 = .ok (.if_icmp .gt 7, 3) := by decide +kernel
theorem dX10_sortTold_82 : decode cX10_sortTold 82 = .ok (.iconst 1, 1) := by decide +kernel
theorem dX10_sortTold_83 : decode cX10_sortTold 83 = .ok (.goto 4, 3) := by decide +kernel
theorem dX10_sortTold_86 : decode cX10_sortTold 86 = .ok (.iconst 0, 1) := by decide +kernel
theorem dX10_sortTold_87 : decode cX10_sortTold 87 = .ok (.iconst 2, 1) := by decide +kernel
theorem dX10_sortTold_88 : decode cX10_sortTold 88 = .ok (.invokevirtual 130, 3) := by decide +kernel
theorem dX10_sortTold_91 : decode cX10_sortTold 91 = .ok (.ifCond .ne 4, 3) := by decide +kernel
theorem dX10_sortTold_94 : decode cX10_sortTold 94 = .ok (.return_, 1) := by decide +kernel
theorem dX10_sortTold_95 : decode cX10_sortTold 95 = .ok (.aload_n 0, 1) := by decide +kernel
theorem dX10_sortTold_96 : decode cX10_sortTold 96 = .ok (.getfield 35, 3) := by decide +kernel
theorem dX10_sortTold_99 : decode cX10_sortTold 99 = .ok (.aload_n 0, 1) := by decide +kernel
theorem dX10_sortTold_100 : decode cX10_sortTold 100 = .ok (.getfield 141, 3) := by decide +kernel
theorem dX10_sortTold_103 : decode cX10_sortTold 103 = .ok (.iload_n 1, 1) := by decide +kernel
theorem dX10_sortTold_104 : decode cX10_sortTold 104 = .ok (.iastore, 1) := by decide +kernel
theorem dX10_sortTold_105 : decode cX10_sortTold 105 = .ok (.aload_n 0, 1) := by decide +kernel
theorem dX10_sortTold_106 : decode cX10_sortTold 106 = .ok (.getfield 38, 3) := by decide +kernel
theorem dX10_sortTold_109 : decode cX10_sortTold 109 = .ok (.aload_n 0, 1) := by decide +kernel
theorem dX10_sortTold_110 : decode cX10_sortTold 110 = .ok (.getfield 141, 3) := by decide +kernel
theorem dX10_sortTold_113 : decode cX10_sortTold 113 = .ok (.aload_n 0, 1) := by decide +kernel
theorem dX10_sortTold_114 : decode cX10_sortTold 114 = .ok (.getfield 113, 3) := by decide +kernel
theorem dX10_sortTold_117 : decode cX10_sortTold 117 = .ok (.iastore, 1) := by decide +kernel
theorem dX10_sortTold_118 : decode cX10_sortTold 118 = .ok (.aload_n 0, 1) := by decide +kernel
theorem dX10_sortTold_119 : decode cX10_sortTold 119 = .ok (.dup, 1) := by decide +kernel
theorem dX10_sortTold_120 : decode cX10_sortTold 120 = .ok (.getfield 141, 3) := by decide +kernel
theorem dX10_sortTold_123 : decode cX10_sortTold 123 = .ok (.iconst 1, 1) := by decide +kernel
theorem dX10_sortTold_124 : decode cX10_sortTold 124 = .ok (.iadd, 1) := by decide +kernel
theorem dX10_sortTold_125 : decode cX10_sortTold 125 = .ok (.putfield 141, 3) := by decide +kernel
theorem dX10_sortTold_128 : decode cX10_sortTold 128 = .ok (.aload_n 0, 1) := by decide +kernel
theorem dX10_sortTold_129 : decode cX10_sortTold 129 = .ok (.invokevirtual 138, 3) := by decide +kernel
theorem dX10_sortTold_132 : decode cX10_sortTold 132 = .ok (.return_, 1) := by decide +kernel
theorem dX10_binTold_0 : decode cX10_binTold 0 = .ok (.aload_n 0, 1) := by decide +kernel
theorem dX10_binTold_1 : decode cX10_binTold 1 = .ok (.aload_n 0, 1) := by decide +kernel
theorem dX10_binTold_2 : decode cX10_binTold 2 = .ok (.getfield 38, 3) := by decide +kernel
theorem dX10_binTold_5 : decode cX10_binTold 5 = .ok (.bipush 6, 2) := by decide +kernel
theorem dX10_binTold_7 : decode cX10_binTold 7 = .ok (.iaload, 1) := by decide +kernel
theorem dX10_binTold_8 : decode cX10_binTold 8 = .ok (.bipush 12, 2) := by decide +kernel
theorem dX10_binTold_10 : decode cX10_binTold 10 = .ok (.if_icmp .ge 7, 3) := by decide +kernel
theorem dX10_binTold_13 : decode cX10_binTold 13 = .ok (.iconst 1, 1) := by decide +kernel
theorem dX10_binTold_14 : decode cX10_binTold 14 = .ok (.goto 4, 3) := by decide +kernel
theorem dX10_binTold_17 : decode cX10_binTold 17 = .ok (.iconst 0, 1) := by decide +kernel
theorem dX10_binTold_18 : decode cX10_binTold 18 = .ok (.iconst 2, 1) := by decide +kernel
theorem dX10_binTold_19 : decode cX10_binTold 19 = .ok (.invokevirtual 130, 3) := by decide +kernel
theorem dX10_binTold_22 : decode cX10_binTold 22 = .ok (.ifCond .ne 4, 3) := by decide +kernel
theorem dX10_binTold_25 : decode cX10_binTold 25 = .ok (.return_, 1) := by decide +kernel
theorem dX10_binTold_26 : decode cX10_binTold 26 = .ok (.aload_n 0, 1) := by decide +kernel
theorem dX10_binTold_27 : decode cX10_binTold 27 = .ok (.invokevirtual 138, 3) := by decide +kernel
theorem dX10_binTold_30 : decode cX10_binTold 30 = .ok (.iconst 0, 1) := by decide +kernel
theorem dX10_binTold_31 : decode cX10_binTold 31 = .ok (.istore_n 1, 1) := by decide +kernel
theorem dX10_binTold_32 : decode cX10_binTold 32 = .ok (.bipush 7, 2) := by decide +kernel
theorem dX10_binTold_34 : decode cX10_binTold 34 = .ok (.bipush 6, 2) := by decide +kernel
theorem dX10_binTold_36 : decode cX10_binTold 36 = .ok (.aload_n 0, 1) := by decide +kernel
theorem dX10_binTold_37 : decode cX10_binTold 37 = .ok (.getfield 38, 3) := by decide +kernel
theorem dX10_binTold_40 : decode cX10_binTold 40 = .ok (.bipush 6, 2) := by decide +kernel
theorem dX10_binTold_42 : decode cX10_binTold 42 = .ok (.iaload, 1) := by decide +kernel
theorem dX10_binTold_43 : decode cX10_binTold 43 = .ok (.imul, 1) := by decide +kernel
theorem dX10_binTold_44 : decode cX10_binTold 44 = .ok (.iadd, 1) := by decide +kernel
theorem dX10_binTold_45 : decode cX10_binTold 45 = .ok (.istore_n 2, 1) := by decide +kernel
theorem dX10_binTold_46 : decode cX10_binTold 46 = .ok (.iconst 1, 1) := by decide +kernel
theorem dX10_binTold_47 : decode cX10_binTold 47 = .ok (.istore_n 3, 1) := by decide +kernel
theorem dX10_binTold_48 : decode cX10_binTold 48 = .ok (.iload_n 3, 1) := by decide +kernel
theorem dX10_binTold_49 : decode cX10_binTold 49 = .ok (.ifCond .eq 148, 3) := by decide +kernel
theorem dX10_binTold_52 : decode cX10_binTold 52 = .ok (.aload_n 0, 1) := by decide +kernel
theorem dX10_binTold_53 : decode cX10_binTold 53 = .ok (.getfield 127, 3) := by decide +kernel
theorem dX10_binTold_56 : decode cX10_binTold 56 = .ok (.ifCond .ne 141, 3) := by decide +kernel
theorem dX10_binTold_59 : decode cX10_binTold 59 = .ok (.aload_n 0, 1) := by decide +kernel
theorem dX10_binTold_60 : decode cX10_binTold 60 = .ok (.aload_n 0, 1) := by decide +kernel
theorem dX10_binTold_61 : decode cX10_binTold 61 = .ok (.getfield 116, 3) := by decide +kernel
theorem dX10_binTold_64 : decode cX10_binTold 64 = .ok (.iconst 2, 1) := by decide +kernel
theorem dX10_binTold_65 : decode cX10_binTold 65 = .ok (.if_icmp .ne 7, 3) := by decide +kernel
theorem dX10_binTold_68 : decode cX10_binTold 68 = .ok (.iconst 1, 1) := by decide +kernel
theorem dX10_binTold_69 : decode cX10_binTold 69 = .ok (.goto 4, 3) := by decide +kernel
theorem dX10_binTold_72 : decode cX10_binTold 72 = .ok (.iconst 0, 1) := by decide +kernel
theorem dX10_binTold_73 : decode cX10_binTold 73 = .ok (.iconst 1, 1) := by decide +kernel
theorem dX10_binTold_74 : decode cX10_binTold 74 = .ok (.invokevirtual 130, 3) := by decide +kernel
theorem dX10_binTold_77 : decode cX10_binTold 77 = .ok (.ifCond .eq 49, 3) := by decide +kernel
theorem dX10_binTold_80 : decode cX10_binTold 80 = .ok (.aload_n 0, 1) := by decide +kernel
theorem dX10_binTold_81 : decode cX10_binTold 81 = .ok (.aload_n 0, 1) := by decide +kernel
theorem dX10_binTold_82 : decode cX10_binTold 82 = .ok (.getfield 113, 3) := by decide +kernel
theorem dX10_binTold_85 : decode cX10_binTold 85 = .ok (.bipush 6, 2) := by decide +kernel
theorem dX10_binTold_87 : decode cX10_binTold 87 = .ok (.if_icmp .ge 7, 3) := by decide +kernel
theorem dX10_binTold_90 : decode cX10_binTold 90 = .ok (.iconst 1, 1) := by decide +kernel
theorem dX10_binTold_91 : decode cX10_binTold 91 = .ok (.goto 4, 3) := by decide +kernel
theorem dX10_binTold_94 : decode cX10_binTold 94 = .ok (.iconst 0, 1) := by decide +kernel
theorem dX10_binTold_95 : decode cX10_binTold 95 = .ok (.iconst 2, 1) := by decide +kernel
theorem dX10_binTold_96 : decode cX10_binTold 96 = .ok (.invokevirtual 130, 3) := by decide +kernel
theorem dX10_binTold_99 : decode cX10_binTold 99 = .ok (.ifCond .eq 27, 3) := by decide +kernel
theorem dX10_binTold_102 : decode cX10_binTold 102 = .ok (.aload_n 0, 1) := by decide +kernel
theorem dX10_binTold_103 : decode cX10_binTold 103 = .ok (.aload_n 0, 1) := by decide +kernel
theorem dX10_binTold_104 : decode cX10_binTold 104 = .ok (.getfield 113, 3) := by decide +kernel
theorem dX10_binTold_107 : decode cX10_binTold 107 = .ok (.aload_n 0, 1) := by decide +kernel
theorem dX10_binTold_108 : decode cX10_binTold 108 = .ok (.getfield 141, 3) := by decide +kernel
theorem dX10_binTold_111 : decode cX10_binTold 111 = .ok (.if_icmp .ge 7, 3) := by decide +kernel
theorem dX10_binTold_114 : decode cX10_binTold 114 = .ok (.iconst 1, 1) := by decide +kernel
theorem dX10_binTold_115 : decode cX10_binTold 115 = .ok (.goto 4, 3) := by decide +kernel
theorem dX10_binTold_118 : decode cX10_binTold 118 = .ok (.iconst 0, 1) := by decide +kernel
theorem dX10_binTold_119 : decode cX10_binTold 119 = .ok (.iconst 3, 1) := by decide +kernel
theorem dX10_binTold_120 : decode cX10_binTold 120 = .ok (.invokevirtual 130, 3) := by decide +kernel
theorem dX10_binTold_123 : decode cX10_binTold 123 = .ok (.ifCond .ne 4, 3) := by decide +kernel
theorem dX10_binTold_126 : decode cX10_binTold 126 = .ok (.return_, 1) := by decide +kernel
theorem dX10_binTold_127 : decode cX10_binTold 127 = .ok (.iload_n 1, 1) := by decide +kernel
theorem dX10_binTold_128 : decode cX10_binTold 128 = .ok (.aload_n 0, 1) := by decide +kernel
theorem dX10_binTold_129 : decode cX10_binTold 129 = .ok (.getfield 35, 3) := by decide +kernel
theorem dX10_binTold_132 : decode cX10_binTold 132 = .ok (.aload_n 0, 1) := by decide +kernel
theorem dX10_binTold_133 : decode cX10_binTold 133 = .ok (.getfield 113, 3) := by decide +kernel
theorem dX10_binTold_136 : decode cX10_binTold 136 = .ok (.iaload, 1) := by decide +kernel
theorem dX10_binTold_137 : decode cX10_binTold 137 = .ok (.iadd, 1) := by decide +kernel
theorem dX10_binTold_138 : decode cX10_binTold 138 = .ok (.istore_n 1, 1) := by decide +kernel
theorem dX10_binTold_139 : decode cX10_binTold 139 = .ok (.aload_n 0, 1) := by decide +kernel
theorem dX10_binTold_140 : decode cX10_binTold 140 = .ok (.iload_n 1, 1) := by decide +kernel
theorem dX10_binTold_141 : decode cX10_binTold 141 = .ok (.aload_n 0, 1) := by decide +kernel
theorem dX10_binTold_142 : decode cX10_binTold 142 = .ok (.getfield 144, 3) := by decide +kernel
theorem dX10_binTold_145 : decode cX10_binTold 145 = .ok (.if_icmp .gt 7, 3) := by decide +kernel
theorem dX10_binTold_148 : decode cX10_binTold 148 = .ok (.iconst 1, 1) := by decide +kernel
theorem dX10_binTold_149 : decode cX10_binTold 149 = .ok (.goto 4, 3) := by decide +kernel
theorem dX10_binTold_152 : decode cX10_binTold 152 = .ok (.iconst 0, 1) := by decide +kernel
theorem dX10_binTold_153 : decode cX10_binTold 153 = .ok (.iconst 5, 1) := by decide +kernel
theorem dX10_binTold_154 : decode cX10_binTold 154 = .ok (.invokevirtual 130, 3) := by decide +kernel
theorem dX10_binTold_157 : decode cX10_binTold 157 = .ok (.ifCond .ne 4, 3) := by decide +kernel
theorem dX10_binTold_160 : decode cX10_binTold 160 = .ok (.return_, 1) := by decide +kernel
theorem dX10_binTold_161 : decode cX10_binTold 161 = .ok (.aload_n 0, 1) := by decide +kernel
theorem dX10_binTold_162 : decode cX10_binTold 162 = .ok (.getfield 38, 3) := by decide +kernel
theorem dX10_binTold_165 : decode cX10_binTold 165 = .ok (.iload_n 2, 1) := by decide +kernel
theorem dX10_binTold_166 : decode cX10_binTold 166 = .ok (.aload_n 0, 1) := by decide +kernel
theorem dX10_binTold_167 : decode cX10_binTold 167 = .ok (.getfield 113, 3) := by decide +kernel
theorem dX10_binTold_170 : decode cX10_binTold 170 = .ok (.iadd, 1) := by decide +kernel
theorem dX10_binTold_171 : decode cX10_binTold 171 = .ok (.dup2, 1) := by decide +kernel
theorem dX10_binTold_172 : decode cX10_binTold 172 = .ok (.iaload, 1) := by decide +kernel
theorem dX10_binTold_173 : decode cX10_binTold 173 = .ok (.iconst 1, 1) := by decide +kernel
theorem dX10_binTold_174 : decode cX10_binTold 174 = .ok (.iadd, 1) := by decide +kernel
theorem dX10_binTold_175 : decode cX10_binTold 175 = .ok (.iastore, 1) := by decide +kernel
theorem dX10_binTold_176 : decode cX10_binTold 176 = .ok (.aload_n 0, 1) := by decide +kernel
theorem dX10_binTold_177 : decode cX10_binTold 177 = .ok (.invokevirtual 138, 3) := by decide +kernel
theorem dX10_binTold_180 : decode cX10_binTold 180 = .ok (.aload_n 0, 1) := by decide +kernel
theorem dX10_binTold_181 : decode cX10_binTold 181 = .ok (.getfield 116, 3) := by decide +kernel
theorem dX10_binTold_184 : decode cX10_binTold 184 = .ok (.iconst 2, 1) := by decide +kernel
theorem dX10_binTold_185 : decode cX10_binTold 185 = .ok (.if_icmp .ne 7, 3) := by decide +kernel
theorem dX10_binTold_188 : decode cX10_binTold 188 = .ok (.iconst 1, 1) := by decide +kernel
theorem dX10_binTold_189 : decode cX10_binTold 189 = .ok (.goto 4, 3) := by decide +kernel
theorem dX10_binTold_192 : decode cX10_binTold 192 = .ok (.iconst 0, 1) := by decide +kernel
theorem dX10_binTold_193 : decode cX10_binTold 193 = .ok (.istore_n 3, 1) := by decide +kernel
theorem dX10_binTold_194 : decode cX10_binTold 194 = .ok (.goto (-146), 3) := by decide +kernel
theorem dX10_binTold_197 : decode cX10_binTold 197 = .ok (.aload_n 0, 1) := by decide +kernel
theorem dX10_binTold_198 : decode cX10_binTold 198 = .ok (.getfield 38, 3) := by decide +kernel
theorem dX10_binTold_201 : decode cX10_binTold 201 = .ok (.bipush 6, 2) := by decide +kernel
theorem dX10_binTold_203 : decode cX10_binTold 203 = .ok (.dup2, 1) := by decide +kernel
theorem dX10_binTold_204 : decode cX10_binTold 204 = .ok (.iaload, 1) := by decide +kernel
theorem dX10_binTold_205 : decode cX10_binTold 205 = .ok (.iconst 1, 1) := by decide +kernel
theorem dX10_binTold_206 : decode cX10_binTold 206 = .ok (.iadd, 1) := by decide +kernel
theorem dX10_binTold_207 : decode cX10_binTold 207 = .ok (.iastore, 1) := by decide +kernel
theorem dX10_binTold_208 : decode cX10_binTold 208 = .ok (.return_, 1) := by decide +kernel
theorem dX10_clause_0 : decode cX10_clause 0 = .ok (.aload_n 0, 1) := by decide +kernel
theorem dX10_clause_1 : decode cX10_clause 1 = .ok (.getfield 116, 3) := by decide +kernel
theorem dX10_clause_4 : decode cX10_clause 4 = .ok (.iconst 1, 1) := by decide +kernel
theorem dX10_clause_5 : decode cX10_clause 5 = .ok (.if_icmp .ne 10, 3) := by decide +kernel
theorem dX10_clause_8 : decode cX10_clause 8 = .ok (.aload_n 0, 1) := by decide +kernel
theorem dX10_clause_9 : decode cX10_clause 9 = .ok (.getfield 110, 3) := by decide +kernel
theorem dX10_clause_12 : decode cX10_clause 12 = .ok (.goto 4, 3) := by decide +kernel
theorem dX10_clause_15 : decode cX10_clause 15 = .ok (.iconst (-1), 1) := by decide +kernel
theorem dX10_clause_16 : decode cX10_clause 16 = .ok (.istore_n 1, 1) := by decide +kernel
theorem dX10_clause_17 : decode cX10_clause 17 = .ok (.iload_n 1, 1) := by decide +kernel
theorem dX10_clause_18 : decode cX10_clause 18 = .ok (.iconst 1, 1) := by decide +kernel
theorem dX10_clause_19 : decode cX10_clause 19 = .ok (.if_icmp .ne 10, 3) := by decide +kernel
theorem dX10_clause_22 : decode cX10_clause 22 = .ok (.aload_n 0, 1) := by decide +kernel
theorem dX10_clause_23 : decode cX10_clause 23 = .ok (.invokevirtual 154, 3) := by decide +kernel
theorem dX10_clause_26 : decode cX10_clause 26 = .ok (.goto 67, 3) := by decide +kernel
theorem dX10_clause_29 : decode cX10_clause 29 = .ok (.iload_n 1, 1) := by decide +kernel
theorem dX10_clause_30 : decode cX10_clause 30 = .ok (.iconst 2, 1) := by decide +kernel
theorem dX10_clause_31 : decode cX10_clause 31 = .ok (.if_icmp .ne 10, 3) := by decide +kernel
theorem dX10_clause_34 : decode cX10_clause 34 = .ok (.aload_n 0, 1) := by decide +kernel
theorem dX10_clause_35 : decode cX10_clause 35 = .ok (.invokevirtual 157, 3) := by decide +kernel
theorem dX10_clause_38 : decode cX10_clause 38 = .ok (.goto 55, 3) := by decide +kernel
theorem dX10_clause_41 : decode cX10_clause 41 = .ok (.aload_n 0, 1) := by decide +kernel
theorem dX10_clause_42 : decode cX10_clause 42 = .ok (.iload_n 1, 1) := by decide +kernel
theorem dX10_clause_43 : decode cX10_clause 43 = .ok (.ifCond .ne 7, 3) := by decide +kernel
theorem dX10_clause_46 : decode cX10_clause 46 = .ok (.iconst 1, 1) := by decide +kernel
theorem dX10_clause_47 : decode cX10_clause 47 = .ok (.goto 4, 3) := by decide +kernel
theorem dX10_clause_50 : decode cX10_clause 50 = .ok (.iconst 0, 1) := by decide +kernel
theorem dX10_clause_51 : decode cX10_clause 51 = .ok (.iconst 1, 1) := by decide +kernel
theorem dX10_clause_52 : decode cX10_clause 52 = .ok (.invokevirtual 130, 3) := by decide +kernel
theorem dX10_clause_55 : decode cX10_clause 55 = .ok (.ifCond .eq 38, 3) := by decide +kernel
theorem dX10_clause_58 : decode cX10_clause 58 = .ok (.aload_n 0, 1) := by decide +kernel
theorem dX10_clause_59 : decode cX10_clause 59 = .ok (.aload_n 0, 1) := by decide +kernel
theorem dX10_clause_60 : decode cX10_clause 60 = .ok (.getfield 160, 3) := by decide +kernel
theorem dX10_clause_63 : decode cX10_clause 63 = .ok (.ifCond .ne 7, 3) := by decide +kernel
theorem dX10_clause_66 : decode cX10_clause 66 = .ok (.iconst 1, 1) := by decide +kernel
theorem dX10_clause_67 : decode cX10_clause 67 = .ok (.goto 4, 3) := by decide +kernel
theorem dX10_clause_70 : decode cX10_clause 70 = .ok (.iconst 0, 1) := by decide +kernel
theorem dX10_clause_71 : decode cX10_clause 71 = .ok (.iconst 4, 1) := by decide +kernel
theorem dX10_clause_72 : decode cX10_clause 72 = .ok (.invokevirtual 130, 3) := by decide +kernel
theorem dX10_clause_75 : decode cX10_clause 75 = .ok (.ifCond .eq 18, 3) := by decide +kernel
theorem dX10_clause_78 : decode cX10_clause 78 = .ok (.aload_n 0, 1) := by decide +kernel
theorem dX10_clause_79 : decode cX10_clause 79 = .ok (.invokevirtual 138, 3) := by decide +kernel
theorem dX10_clause_82 : decode cX10_clause 82 = .ok (.aload_n 0, 1) := by decide +kernel
theorem dX10_clause_83 : decode cX10_clause 83 = .ok (.aload_n 0, 1) := by decide +kernel
theorem dX10_clause_84 : decode cX10_clause 84 = .ok (.iconst 1, 1) := by decide +kernel
theorem dX10_clause_85 : decode cX10_clause 85 = .ok (.bipush 99, 2) := by decide +kernel
theorem dX10_clause_87 : decode cX10_clause 87 = .ok (.invokevirtual 147, 3) := by decide +kernel
theorem dX10_clause_90 : decode cX10_clause 90 = .ok (.putfield 144, 3) := by decide +kernel
theorem dX10_clause_93 : decode cX10_clause 93 = .ok (.return_, 1) := by decide +kernel
theorem dX10_feed_0 : decode cX10_feed 0 = .ok (.aload_n 0, 1) := by decide +kernel
theorem dX10_feed_1 : decode cX10_feed 1 = .ok (.iconst 0, 1) := by decide +kernel
theorem dX10_feed_2 : decode cX10_feed 2 = .ok (.putfield 90, 3) := by decide +kernel
theorem dX10_feed_5 : decode cX10_feed 5 = .ok (.aload_n 0, 1) := by decide +kernel
theorem dX10_feed_6 : decode cX10_feed 6 = .ok (.getfield 163, 3) := by decide +kernel
theorem dX10_feed_9 : decode cX10_feed 9 = .ok (.bipush 20, 2) := by decide +kernel
theorem dX10_feed_11 : decode cX10_feed 11 = .ok (.iadd, 1) := by decide +kernel
theorem dX10_feed_12 : decode cX10_feed 12 = .ok (.sipush 700, 3) := by decide +kernel
theorem dX10_feed_15 : decode cX10_feed 15 = .ok (.if_icmp .le 5, 3) := by decide +kernel
theorem dX10_feed_18 : decode cX10_feed 18 = .ok (.iconst (-1), 1) := by decide +kernel
theorem dX10_feed_19 : decode cX10_feed 19 = .ok (.ireturn, 1) := by decide +kernel
theorem dX10_feed_20 : decode cX10_feed 20 = .ok (.iconst 0, 1) := by decide +kernel
theorem dX10_feed_21 : decode cX10_feed 21 = .ok (.istore 6, 2) := by decide +kernel
theorem dX10_feed_23 : decode cX10_feed 23 = .ok (.iload 6, 2) := by decide +kernel
theorem dX10_feed_25 : decode cX10_feed 25 = .ok (.bipush 20, 2) := by decide +kernel
theorem dX10_feed_27 : decode cX10_feed 27 = .ok (.if_icmp .ge 86, 3) := by decide +kernel
theorem dX10_feed_30 : decode cX10_feed 30 = .ok (.iload 6, 2) := by decide +kernel
theorem dX10_feed_32 : decode cX10_feed 32 = .ok (.iconst 4, 1) := by decide +kernel
theorem dX10_feed_33 : decode cX10_feed 33 = .ok (.if_icmp .ge 7, 3) := by decide +kernel
theorem dX10_feed_36 : decode cX10_feed 36 = .ok (.iload_n 1, 1) := by decide +kernel
theorem dX10_feed_37 : decode cX10_feed 37 = .ok (.goto 39, 3) := by decide +kernel
theorem dX10_feed_40 : decode cX10_feed 40 = .ok (.iload 6, 2) := by decide +kernel
theorem dX10_feed_42 : decode cX10_feed 42 = .ok (.bipush 8, 2) := by decide +kernel
theorem dX10_feed_44 : decode cX10_feed 44 = .ok (.if_icmp .ge 7, 3) := by decide +kernel
theorem dX10_feed_47 : decode cX10_feed 47 = .ok (.iload_n 2, 1) := by decide +kernel
theorem dX10_feed_48 : decode cX10_feed 48 = .ok (.goto 28, 3) := by decide +kernel
theorem dX10_feed_51 : decode cX10_feed 51 = .ok (.iload 6, 2) := by decide +kernel
theorem dX10_feed_53 : decode cX10_feed 53 = .ok (.bipush 12, 2) := by decide +kernel
theorem dX10_feed_55 : decode cX10_feed 55 = .ok (.if_icmp .ge 7, 3) := by decide +kernel
theorem dX10_feed_58 : decode cX10_feed 58 = .ok (.iload_n 3, 1) := by decide +kernel
theorem dX10_feed_59 : decode cX10_feed 59 = .ok (.goto 17, 3) := by decide +kernel
theorem dX10_feed_62 : decode cX10_feed 62 = .ok (.iload 6, 2) := by decide +kernel
theorem dX10_feed_64 : decode cX10_feed 64 = .ok (.bipush 16, 2) := by decide +kernel
theorem dX10_feed_66 : decode cX10_feed 66 = .ok (.if_icmp .ge 8, 3) := by decide +kernel
theorem dX10_feed_69 : decode cX10_feed 69 = .ok (.iload 4, 2) := by decide +kernel
theorem dX10_feed_71 : decode cX10_feed 71 = .ok (.goto 5, 3) := by decide +kernel
theorem dX10_feed_74 : decode cX10_feed 74 = .ok (.iload 5, 2) := by decide +kernel
theorem dX10_feed_76 : decode cX10_feed 76 = .ok (.istore 7, 2) := by decide +kernel
theorem dX10_feed_78 : decode cX10_feed 78 = .ok (.aload_n 0, 1) := by decide +kernel
theorem dX10_feed_79 : decode cX10_feed 79 = .ok (.getfield 29, 3) := by decide +kernel
theorem dX10_feed_82 : decode cX10_feed 82 = .ok (.aload_n 0, 1) := by decide +kernel
theorem dX10_feed_83 : decode cX10_feed 83 = .ok (.getfield 163, 3) := by decide +kernel
theorem dX10_feed_86 : decode cX10_feed 86 = .ok (.iload 6, 2) := by decide +kernel
theorem dX10_feed_88 : decode cX10_feed 88 = .ok (.iadd, 1) := by decide +kernel
theorem dX10_feed_89 : decode cX10_feed 89 = .ok (.iload 7, 2) := by decide +kernel
theorem dX10_feed_91 : decode cX10_feed 91 = .ok (.bipush 24, 2) := by decide +kernel
theorem dX10_feed_93 : decode cX10_feed 93 = .ok (.bipush 8, 2) := by decide +kernel
theorem dX10_feed_95 : decode cX10_feed 95 = .ok (.iload 6, 2) := by decide +kernel
theorem dX10_feed_97 : decode cX10_feed 97 = .ok (.iconst 4, 1) := by decide +kernel
theorem dX10_feed_98 : decode cX10_feed 98 = .ok (.irem, 1) := by decide +kernel
theorem dX10_feed_99 : decode cX10_feed 99 = .ok (.imul, 1) := by decide +kernel
theorem dX10_feed_100 : decode cX10_feed 100 = .ok (.isub, 1) := by decide +kernel
theorem dX10_feed_101 : decode cX10_feed 101 = .ok (.ishr, 1) := by decide +kernel
theorem dX10_feed_102 : decode cX10_feed 102 = .ok (.sipush 255, 3) := by decide +kernel
theorem dX10_feed_105 : decode cX10_feed 105 = .ok (.iand, 1) := by decide +kernel
theorem dX10_feed_106 : decode cX10_feed 106 = .ok (.iastore, 1) := by decide +kernel
theorem dX10_feed_107 : decode cX10_feed 107 = .ok (.iinc 6 1, 3) := by decide +kernel
theorem dX10_feed_110 : decode cX10_feed 110 = .ok (.goto (-87), 3) := by decide +kernel
theorem dX10_feed_113 : decode cX10_feed 113 = .ok (.aload_n 0, 1) := by decide +kernel
theorem dX10_feed_114 : decode cX10_feed 114 = .ok (.dup, 1) := by decide +kernel
theorem dX10_feed_115 : decode cX10_feed 115 = .ok (.getfield 163, 3) := by decide +kernel
theorem dX10_feed_118 : decode cX10_feed 118 = .ok (.bipush 20, 2) := by decide +kernel
theorem dX10_feed_120 : decode cX10_feed 120 = .ok (.iadd, 1) := by decide +kernel
theorem dX10_feed_121 : decode cX10_feed 121 = .ok (.putfield 163, 3) := by decide +kernel
theorem dX10_feed_124 : decode cX10_feed 124 = .ok (.aload_n 0, 1) := by decide +kernel
theorem dX10_feed_125 : decode cX10_feed 125 = .ok (.getfield 163, 3) := by decide +kernel
theorem dX10_feed_128 : decode cX10_feed 128 = .ok (.ireturn, 1) := by decide +kernel
theorem dX10_goods_0 : decode cX10_goods 0 = .ok (.aload_n 0, 1) := by decide +kernel
theorem dX10_goods_1 : decode cX10_goods 1 = .ok (.iconst 0, 1) := by decide +kernel
theorem dX10_goods_2 : decode cX10_goods 2 = .ok (.putfield 90, 3) := by decide +kernel
theorem dX10_goods_5 : decode cX10_goods 5 = .ok (.aload_n 0, 1) := by decide +kernel
theorem dX10_goods_6 : decode cX10_goods 6 = .ok (.iload_n 1, 1) := by decide +kernel
theorem dX10_goods_7 : decode cX10_goods 7 = .ok (.ifCond .lt 15, 3) := by decide +kernel
theorem dX10_goods_10 : decode cX10_goods 10 = .ok (.iload_n 1, 1) := by decide +kernel
theorem dX10_goods_11 : decode cX10_goods 11 = .ok (.aload_n 0, 1) := by decide +kernel
theorem dX10_goods_12 : decode cX10_goods 12 = .ok (.getfield 163, 3) := by decide +kernel
theorem dX10_goods_15 : decode cX10_goods 15 = .ok (.if_icmp .gt 7, 3) := by decide +kernel
theorem dX10_goods_18 : decode cX10_goods 18 = .ok (.iconst 1, 1) := by decide +kernel
theorem dX10_goods_19 : decode cX10_goods 19 = .ok (.goto 4, 3) := by decide +kernel
theorem dX10_goods_22 : decode cX10_goods 22 = .ok (.iconst 0, 1) := by decide +kernel
theorem dX10_goods_23 : decode cX10_goods 23 = .ok (.iconst 1, 1) := by decide +kernel
theorem dX10_goods_24 : decode cX10_goods 24 = .ok (.invokevirtual 166, 3) := by decide +kernel
theorem dX10_goods_27 : decode cX10_goods 27 = .ok (.ifCond .ne 5, 3) := by decide +kernel
theorem dX10_goods_30 : decode cX10_goods 30 = .ok (.iconst 0, 1) := by decide +kernel
theorem dX10_goods_31 : decode cX10_goods 31 = .ok (.ireturn, 1) := by decide +kernel
theorem dX10_goods_32 : decode cX10_goods 32 = .ok (.aload_n 0, 1) := by decide +kernel
theorem dX10_goods_33 : decode cX10_goods 33 = .ok (.iconst 0, 1) := by decide +kernel
theorem dX10_goods_34 : decode cX10_goods 34 = .ok (.putfield 163, 3) := by decide +kernel
theorem dX10_goods_37 : decode cX10_goods 37 = .ok (.aload_n 0, 1) := by decide +kernel
theorem dX10_goods_38 : decode cX10_goods 38 = .ok (.iload_n 1, 1) := by decide +kernel
theorem dX10_goods_39 : decode cX10_goods 39 = .ok (.putfield 93, 3) := by decide +kernel
theorem dX10_goods_42 : decode cX10_goods 42 = .ok (.aload_n 0, 1) := by decide +kernel
theorem dX10_goods_43 : decode cX10_goods 43 = .ok (.iconst 0, 1) := by decide +kernel
theorem dX10_goods_44 : decode cX10_goods 44 = .ok (.putfield 104, 3) := by decide +kernel
theorem dX10_goods_47 : decode cX10_goods 47 = .ok (.aload_n 0, 1) := by decide +kernel
theorem dX10_goods_48 : decode cX10_goods 48 = .ok (.iconst 0, 1) := by decide +kernel
theorem dX10_goods_49 : decode cX10_goods 49 = .ok (.putfield 127, 3) := by decide +kernel
theorem dX10_goods_52 : decode cX10_goods 52 = .ok (.aload_n 0, 1) := by decide +kernel
theorem dX10_goods_53 : decode cX10_goods 53 = .ok (.iconst (-1), 1) := by decide +kernel
theorem dX10_goods_54 : decode cX10_goods 54 = .ok (.putfield 32, 3) := by decide +kernel
theorem dX10_goods_57 : decode cX10_goods 57 = .ok (.aload_n 0, 1) := by decide +kernel
theorem dX10_goods_58 : decode cX10_goods 58 = .ok (.bipush 30, 2) := by decide +kernel
theorem dX10_goods_60 : decode cX10_goods 60 = .ok (.putfield 144, 3) := by decide +kernel
theorem dX10_goods_63 : decode cX10_goods 63 = .ok (.aload_n 0, 1) := by decide +kernel
theorem dX10_goods_64 : decode cX10_goods 64 = .ok (.aload_n 0, 1) := by decide +kernel
theorem dX10_goods_65 : decode cX10_goods 65 = .ok (.iconst 0, 1) := by decide +kernel
theorem dX10_goods_66 : decode cX10_goods 66 = .ok (.dup_x1, 1) := by decide +kernel
theorem dX10_goods_67 : decode cX10_goods 67 = .ok (.putfield 160, 3) := by decide +kernel
theorem dX10_goods_70 : decode cX10_goods 70 = .ok (.putfield 141, 3) := by decide +kernel
theorem dX10_goods_73 : decode cX10_goods 73 = .ok (.iconst 0, 1) := by decide +kernel
theorem dX10_goods_74 : decode cX10_goods 74 = .ok (.istore_n 2, 1) := by decide +kernel
theorem dX10_goods_75 : decode cX10_goods 75 = .ok (.iload_n 2, 1) := by decide +kernel
theorem dX10_goods_76 : decode cX10_goods 76 = .ok (.bipush 80, 2) := by decide +kernel
theorem dX10_goods_78 : decode cX10_goods 78 = .ok (.if_icmp .ge 16, 3) := by decide +kernel
theorem dX10_goods_81 : decode cX10_goods 81 = .ok (.aload_n 0, 1) := by decide +kernel
theorem dX10_goods_82 : decode cX10_goods 82 = .ok (.getfield 38, 3) := by decide +kernel
theorem dX10_goods_85 : decode cX10_goods 85 = .ok (.iload_n 2, 1) := by decide +kernel
theorem dX10_goods_86 : decode cX10_goods 86 = .ok (.iconst 0, 1) := by decide +kernel
theorem dX10_goods_87 : decode cX10_goods 87 = .ok (.iastore, 1) := by decide +kernel
theorem dX10_goods_88 : decode cX10_goods 88 = .ok (.iinc 2 1, 3) := by decide +kernel
theorem dX10_goods_91 : decode cX10_goods 91 = .ok (.goto (-16), 3) := by decide +kernel
theorem dX10_goods_94 : decode cX10_goods 94 = .ok (.aload_n 0, 1) := by decide +kernel
theorem dX10_goods_95 : decode cX10_goods 95 = .ok (.invokevirtual 138, 3) := by decide +kernel
theorem dX10_goods_98 : decode cX10_goods 98 = .ok (.aload_n 0, 1) := by decide +kernel
theorem dX10_goods_99 : decode cX10_goods 99 = .ok (.getfield 127, 3) := by decide +kernel
theorem dX10_goods_102 : decode cX10_goods 102 = .ok (.ifCond .ne 59, 3) := by decide +kernel
theorem dX10_goods_105 : decode cX10_goods 105 = .ok (.aload_n 0, 1) := by decide +kernel
theorem dX10_goods_106 : decode cX10_goods 106 = .ok (.getfield 116, 3) := by decide +kernel
theorem dX10_goods_109 : decode cX10_goods 109 = .ok (.ifCond .eq 52, 3) := by decide +kernel
theorem dX10_goods_112 : decode cX10_goods 112 = .ok (.aload_n 0, 1) := by decide +kernel
theorem dX10_goods_113 : decode cX10_goods 113 = .ok (.invokevirtual 169, 3) := by decide +kernel
theorem dX10_goods_116 : decode cX10_goods 116 = .ok (.aload_n 0, 1) := by decide +kernel
theorem dX10_goods_117 : decode cX10_goods 117 = .ok (.dup, 1) := by decide +kernel
theorem dX10_goods_118 : decode cX10_goods 118 = .ok (.getfield 160, 3) := by decide +kernel
theorem dX10_goods_121 : decode cX10_goods 121 = .ok (.iconst 1, 1) := by decide +kernel
theorem dX10_goods_122 : decode cX10_goods 122 = .ok (.iadd, 1) := by decide +kernel
theorem dX10_goods_123 : decode cX10_goods 123 = .ok (.putfield 160, 3) := by decide +kernel
theorem dX10_goods_126 : decode cX10_goods 126 = .ok (.aload_n 0, 1) := by decide +kernel
theorem dX10_goods_127 : decode cX10_goods 127 = .ok (.getfield 127, 3) := by decide +kernel
theorem dX10_goods_130 : decode cX10_goods 130 = .ok (.ifCond .ne (-32), 3) := by decide +kernel
theorem dX10_goods_133 : decode cX10_goods 133 = .ok (.aload_n 0, 1) := by decide +kernel
theorem dX10_goods_134 : decode cX10_goods 134 = .ok (.aload_n 0, 1) := by decide +kernel
theorem dX10_goods_135 : decode cX10_goods 135 = .ok (.getfield 116, 3) := by decide +kernel
theorem dX10_goods_138 : decode cX10_goods 138 = .ok (.iconst 3, 1) := by decide +kernel
theorem dX10_goods_139 : decode cX10_goods 139 = .ok (.if_icmp .ne 7, 3) := by decide +kernel
theorem dX10_goods_142 : decode cX10_goods 142 = .ok (.iconst 1, 1) := by decide +kernel
theorem dX10_goods_143 : decode cX10_goods 143 = .ok (.goto 4, 3) := by decide +kernel
theorem dX10_goods_146 : decode cX10_goods 146 = .ok (.iconst 0, 1) := by decide +kernel
theorem dX10_goods_147 : decode cX10_goods 147 = .ok (.iconst 1, 1) := by decide +kernel
theorem dX10_goods_148 : decode cX10_goods 148 = .ok (.invokevirtual 130, 3) := by decide +kernel
theorem dX10_goods_151 : decode cX10_goods 151 = .ok (.ifCond .eq (-53), 3) := by decide +kernel
theorem dX10_goods_154 : decode cX10_goods 154 = .ok (.aload_n 0, 1) := by decide +kernel
theorem dX10_goods_155 : decode cX10_goods 155 = .ok (.invokevirtual 138, 3) := by decide +kernel
theorem dX10_goods_158 : decode cX10_goods 158 = .ok (.goto (-60), 3) := by decide +kernel
theorem dX10_goods_161 : decode cX10_goods 161 = .ok (.aload_n 0, 1) := by decide +kernel
theorem dX10_goods_162 : decode cX10_goods 162 = .ok (.getfield 127, 3) := by decide +kernel
theorem dX10_goods_165 : decode cX10_goods 165 = .ok (.ifCond .eq 18, 3) := by decide +kernel
theorem dX10_goods_168 : decode cX10_goods 168 = .ok (.aload_n 0, 1) := by decide +kernel
theorem dX10_goods_169 : decode cX10_goods 169 = .ok (.getfield 22, 3) := by decide +kernel
theorem dX10_goods_172 : decode cX10_goods 172 = .ok (.iconst 0, 1) := by decide +kernel
theorem dX10_goods_173 : decode cX10_goods 173 = .ok (.dup2, 1) := by decide +kernel
theorem dX10_goods_174 : decode cX10_goods 174 = .ok (.iaload, 1) := by decide +kernel
theorem dX10_goods_175 : decode cX10_goods 175 = .ok (.iconst 1, 1) := by decide +kernel
theorem dX10_goods_176 : decode cX10_goods 176 = .ok (.iadd, 1) := by decide +kernel
theorem dX10_goods_177 : decode cX10_goods 177 = .ok (.iastore, 1) := by decide +kernel
theorem dX10_goods_178 : decode cX10_goods 178 = .ok (.aload_n 0, 1) := by decide +kernel
theorem dX10_goods_179 : decode cX10_goods 179 = .ok (.getfield 127, 3) := by decide +kernel
theorem dX10_goods_182 : decode cX10_goods 182 = .ok (.ireturn, 1) := by decide +kernel
theorem dX10_goods_183 : decode cX10_goods 183 = .ok (.aload_n 0, 1) := by decide +kernel
theorem dX10_goods_184 : decode cX10_goods 184 = .ok (.aload_n 0, 1) := by decide +kernel
theorem dX10_goods_185 : decode cX10_goods 185 = .ok (.getfield 144, 3) := by decide +kernel
theorem dX10_goods_188 : decode cX10_goods 188 = .ok (.putfield 25, 3) := by decide +kernel
theorem dX10_goods_191 : decode cX10_goods 191 = .ok (.aload_n 0, 1) := by decide +kernel
theorem dX10_goods_192 : decode cX10_goods 192 = .ok (.aload_n 0, 1) := by decide +kernel
theorem dX10_goods_193 : decode cX10_goods 193 = .ok (.getfield 141, 3) := by decide +kernel
theorem dX10_goods_196 : decode cX10_goods 196 = .ok (.putfield 172, 3) := by decide +kernel
theorem dX10_goods_199 : decode cX10_goods 199 = .ok (.iconst 0, 1) := by decide +kernel
theorem dX10_goods_200 : decode cX10_goods 200 = .ok (.istore_n 2, 1) := by decide +kernel
theorem dX10_goods_201 : decode cX10_goods 201 = .ok (.iload_n 2, 1) := by decide +kernel
theorem dX10_goods_202 : decode cX10_goods 202 = .ok (.bipush 6, 2) := by decide +kernel
theorem dX10_goods_204 : decode cX10_goods 204 = .ok (.if_icmp .ge 21, 3) := by decide +kernel
theorem dX10_goods_207 : decode cX10_goods 207 = .ok (.aload_n 0, 1) := by decide +kernel
theorem dX10_goods_208 : decode cX10_goods 208 = .ok (.getfield 13, 3) := by decide +kernel
theorem dX10_goods_211 : decode cX10_goods 211 = .ok (.iload_n 2, 1) := by decide +kernel
theorem dX10_goods_212 : decode cX10_goods 212 = .ok (.aload_n 0, 1) := by decide +kernel
theorem dX10_goods_213 : decode cX10_goods 213 = .ok (.getfield 35, 3) := by decide +kernel
theorem dX10_goods_216 : decode cX10_goods 216 = .ok (.iload_n 2, 1) := by decide +kernel
theorem dX10_goods_217 : decode cX10_goods 217 = .ok (.iaload, 1) := by decide +kernel
theorem dX10_goods_218 : decode cX10_goods 218 = .ok (.iastore, 1) := by decide +kernel
theorem dX10_goods_219 : decode cX10_goods 219 = .ok (.iinc 2 1, 3) := by decide +kernel
theorem dX10_goods_222 : decode cX10_goods 222 = .ok (.goto (-21), 3) := by decide +kernel
theorem dX10_goods_225 : decode cX10_goods 225 = .ok (.iconst 0, 1) := by decide +kernel
theorem dX10_goods_226 : decode cX10_goods 226 = .ok (.istore_n 2, 1) := by decide +kernel
theorem dX10_goods_227 : decode cX10_goods 227 = .ok (.iload_n 2, 1) := by decide +kernel
theorem dX10_goods_228 : decode cX10_goods 228 = .ok (.bipush 80, 2) := by decide +kernel
theorem dX10_goods_230 : decode cX10_goods 230 = .ok (.if_icmp .ge 21, 3) := by decide +kernel
theorem dX10_goods_233 : decode cX10_goods 233 = .ok (.aload_n 0, 1) := by decide +kernel
theorem dX10_goods_234 : decode cX10_goods 234 = .ok (.getfield 9, 3) := by decide +kernel
theorem dX10_goods_237 : decode cX10_goods 237 = .ok (.iload_n 2, 1) := by decide +kernel
theorem dX10_goods_238 : decode cX10_goods 238 = .ok (.aload_n 0, 1) := by decide +kernel
theorem dX10_goods_239 : decode cX10_goods 239 = .ok (.getfield 38, 3) := by decide +kernel
theorem dX10_goods_242 : decode cX10_goods 242 = .ok (.iload_n 2, 1) := by decide +kernel
theorem dX10_goods_243 : decode cX10_goods 243 = .ok (.iaload, 1) := by decide +kernel
theorem dX10_goods_244 : decode cX10_goods 244 = .ok (.iastore, 1) := by decide +kernel
theorem dX10_goods_245 : decode cX10_goods 245 = .ok (.iinc 2 1, 3) := by decide +kernel
theorem dX10_goods_248 : decode cX10_goods 248 = .ok (.goto (-21), 3) := by decide +kernel
theorem dX10_goods_251 : decode cX10_goods 251 = .ok (.aload_n 0, 1) := by decide +kernel
theorem dX10_goods_252 : decode cX10_goods 252 = .ok (.aload_n 0, 1) := by decide +kernel
theorem dX10_goods_253 : decode cX10_goods 253 = .ok (.aload_n 0, 1) := by decide +kernel
theorem dX10_goods_254 : decode cX10_goods 254 = .ok (.aload_n 0, 1) := by decide +kernel
theorem dX10_goods_255 : decode cX10_goods 255 = .ok (.iconst 0, 1) := by decide +kernel
theorem dX10_goods_256 : decode cX10_goods 256 = .ok (.dup_x1, 1) := by decide +kernel
theorem dX10_goods_257 : decode cX10_goods 257 = .ok (.putfield 175, 3) := by decide +kernel
theorem dX10_goods_260 : decode cX10_goods 260 = .ok (.dup_x1, 1) := by decide +kernel
theorem dX10_goods_261 : decode cX10_goods 261 = .ok (.putfield 178, 3) := by decide +kernel
theorem dX10_goods_264 : decode cX10_goods 264 = .ok (.dup_x1, 1) := by decide +kernel
theorem dX10_goods_265 : decode cX10_goods 265 = .ok (.putfield 181, 3) := by decide +kernel
theorem dX10_goods_268 : decode cX10_goods 268 = .ok (.putfield 184, 3) := by decide +kernel
theorem dX10_goods_271 : decode cX10_goods 271 = .ok (.iconst 0, 1) := by decide +kernel
theorem dX10_goods_272 : decode cX10_goods 272 = .ok (.ireturn, 1) := by decide +kernel
theorem dX10_fault_0 : decode cX10_fault 0 = .ok (.aload_n 0, 1) := by decide +kernel
theorem dX10_fault_1 : decode cX10_fault 1 = .ok (.iconst 0, 1) := by decide +kernel
theorem dX10_fault_2 : decode cX10_fault 2 = .ok (.putfield 90, 3) := by decide +kernel
theorem dX10_fault_5 : decode cX10_fault 5 = .ok (.aload_n 0, 1) := by decide +kernel
theorem dX10_fault_6 : decode cX10_fault 6 = .ok (.getfield 32, 3) := by decide +kernel
theorem dX10_fault_9 : decode cX10_fault 9 = .ok (.ireturn, 1) := by decide +kernel
theorem dX10_looks_0 : decode cX10_looks 0 = .ok (.aload_n 0, 1) := by decide +kernel
theorem dX10_looks_1 : decode cX10_looks 1 = .ok (.aload_n 0, 1) := by decide +kernel
theorem dX10_looks_2 : decode cX10_looks 2 = .ok (.getfield 25, 3) := by decide +kernel
theorem dX10_looks_5 : decode cX10_looks 5 = .ok (.putfield 187, 3) := by decide +kernel
theorem dX10_looks_8 : decode cX10_looks 8 = .ok (.iconst 0, 1) := by decide +kernel
theorem dX10_looks_9 : decode cX10_looks 9 = .ok (.istore_n 1, 1) := by decide +kernel
theorem dX10_looks_10 : decode cX10_looks 10 = .ok (.iload_n 1, 1) := by decide +kernel
theorem dX10_looks_11 : decode cX10_looks 11 = .ok (.bipush 6, 2) := by decide +kernel
theorem dX10_looks_13 : decode cX10_looks 13 = .ok (.if_icmp .ge 45, 3) := by decide +kernel
theorem dX10_looks_16 : decode cX10_looks 16 = .ok (.aload_n 0, 1) := by decide +kernel
theorem dX10_looks_17 : decode cX10_looks 17 = .ok (.getfield 41, 3) := by decide +kernel
theorem dX10_looks_20 : decode cX10_looks 20 = .ok (.iload_n 1, 1) := by decide +kernel
theorem dX10_looks_21 : decode cX10_looks 21 = .ok (.iload_n 1, 1) := by decide +kernel
theorem dX10_looks_22 : decode cX10_looks 22 = .ok (.aload_n 0, 1) := by decide +kernel
theorem dX10_looks_23 : decode cX10_looks 23 = .ok (.getfield 172, 3) := by decide +kernel
theorem dX10_looks_26 : decode cX10_looks 26 = .ok (.if_icmp .ge 12, 3) := by decide +kernel
theorem dX10_looks_29 : decode cX10_looks 29 = .ok (.aload_n 0, 1) := by decide +kernel
theorem dX10_looks_30 : decode cX10_looks 30 = .ok (.getfield 9, 3) := by decide +kernel
theorem dX10_looks_33 : decode cX10_looks 33 = .ok (.iload_n 1, 1) := by decide +kernel
theorem dX10_looks_34 : decode cX10_looks 34 = .ok (.iaload, 1) := by decide +kernel
theorem dX10_looks_35 : decode cX10_looks 35 = .ok (.goto 4, 3) := by decide +kernel
theorem dX10_looks_38 : decode cX10_looks 38 = .ok (.iconst 0, 1) := by decide +kernel
theorem dX10_looks_39 : decode cX10_looks 39 = .ok (.iastore, 1) := by decide +kernel
theorem dX10_looks_40 : decode cX10_looks 40 = .ok (.aload_n 0, 1) := by decide +kernel
theorem dX10_looks_41 : decode cX10_looks 41 = .ok (.getfield 44, 3) := by decide +kernel
theorem dX10_looks_44 : decode cX10_looks 44 = .ok (.iload_n 1, 1) := by decide +kernel
theorem dX10_looks_45 : decode cX10_looks 45 = .ok (.aload_n 0, 1) := by decide +kernel
theorem dX10_looks_46 : decode cX10_looks 46 = .ok (.getfield 13, 3) := by decide +kernel
theorem dX10_looks_49 : decode cX10_looks 49 = .ok (.iload_n 1, 1) := by decide +kernel
theorem dX10_looks_50 : decode cX10_looks 50 = .ok (.iaload, 1) := by decide +kernel
theorem dX10_looks_51 : decode cX10_looks 51 = .ok (.iastore, 1) := by decide +kernel
theorem dX10_looks_52 : decode cX10_looks 52 = .ok (.iinc 1 1, 3) := by decide +kernel
theorem dX10_looks_55 : decode cX10_looks 55 = .ok (.goto (-45), 3) := by decide +kernel
theorem dX10_looks_58 : decode cX10_looks 58 = .ok (.aload_n 0, 1) := by decide +kernel
theorem dX10_looks_59 : decode cX10_looks 59 = .ok (.invokevirtual 190, 3) := by decide +kernel
theorem dX10_looks_62 : decode cX10_looks 62 = .ok (.return_, 1) := by decide +kernel
theorem dX10_orders_0 : decode cX10_orders 0 = .ok (.iconst 0, 1) := by decide +kernel
theorem dX10_orders_1 : decode cX10_orders 1 = .ok (.istore_n 1, 1) := by decide +kernel
theorem dX10_orders_2 : decode cX10_orders 2 = .ok (.iload_n 1, 1) := by decide +kernel
theorem dX10_orders_3 : decode cX10_orders 3 = .ok (.aload_n 0, 1) := by decide +kernel
theorem dX10_orders_4 : decode cX10_orders 4 = .ok (.getfield 172, 3) := by decide +kernel
theorem dX10_orders_7 : decode cX10_orders 7 = .ok (.if_icmp .ge 64, 3) := by decide +kernel
theorem dX10_orders_10 : decode cX10_orders 10 = .ok (.iload_n 1, 1) := by decide +kernel
theorem dX10_orders_11 : decode cX10_orders 11 = .ok (.istore_n 2, 1) := by decide +kernel
theorem dX10_orders_12 : decode cX10_orders 12 = .ok (.iload_n 2, 1) := by decide +kernel
theorem dX10_orders_13 : decode cX10_orders 13 = .ok (.ifCond .le 45, 3) := by decide +kernel
theorem dX10_orders_16 : decode cX10_orders 16 = .ok (.aload_n 0, 1) := by decide +kernel
theorem dX10_orders_17 : decode cX10_orders 17 = .ok (.getfield 44, 3) := by decide +kernel
theorem dX10_orders_20 : decode cX10_orders 20 = .ok (.aload_n 0, 1) := by decide +kernel
theorem dX10_orders_21 : decode cX10_orders 21 = .ok (.getfield 47, 3) := by decide +kernel
theorem dX10_orders_24 : decode cX10_orders 24 = .ok (.iload_n 2, 1) := by decide +kernel
theorem dX10_orders_25 : decode cX10_orders 25 = .ok (.iconst 1, 1) := by decide +kernel
theorem dX10_orders_26 : decode cX10_orders 26 = .ok (.isub, 1) := by decide +kernel
theorem dX10_orders_27 : decode cX10_orders 27 = .ok (.iaload, 1) := by decide +kernel
theorem dX10_orders_28 : decode cX10_orders 28 = .ok (.iaload, 1) := by decide +kernel
theorem dX10_orders_29 : decode cX10_orders 29 = .ok (.aload_n 0, 1) := by decide +kernel
theorem dX10_orders_30 : decode cX10_orders 30 = .ok (.getfield 44, 3) := by decide +kernel
theorem dX10_orders_33 : decode cX10_orders 33 = .ok (.iload_n 1, 1) := by decide +kernel
theorem dX10_orders_34 : decode cX10_orders 34 = .ok (.iaload, 1) := by decide +kernel
theorem dX10_orders_35 : decode cX10_orders 35 = .ok (.if_icmp .ge 23, 3) := by decide +kernel
theorem dX10_orders_38 : decode cX10_orders 38 = .ok (.aload_n 0, 1) := by decide +kernel
theorem dX10_orders_39 : decode cX10_orders 39 = .ok (.getfield 47, 3) := by decide +kernel
theorem dX10_orders_42 : decode cX10_orders 42 = .ok (.iload_n 2, 1) := by decide +kernel
theorem dX10_orders_43 : decode cX10_orders 43 = .ok (.aload_n 0, 1) := by decide +kernel
theorem dX10_orders_44 : decode cX10_orders 44 = .ok (.getfield 47, 3) := by decide +kernel
theorem dX10_orders_47 : decode cX10_orders 47 = .ok (.iload_n 2, 1) := by decide +kernel
theorem dX10_orders_48 : decode cX10_orders 48 = .ok (.iconst 1, 1) := by decide +kernel
theorem dX10_orders_49 : decode cX10_orders 49 = .ok (.isub, 1) := by decide +kernel
theorem dX10_orders_50 : decode cX10_orders 50 = .ok (.iaload, 1) := by decide +kernel
theorem dX10_orders_51 : decode cX10_orders 51 = .ok (.iastore, 1) := by decide +kernel
theorem dX10_orders_52 : decode cX10_orders 52 = .ok (.iinc 2 (-1), 3) := by decide +kernel
theorem dX10_orders_55 : decode cX10_orders 55 = .ok (.goto (-43), 3) := by decide +kernel
theorem dX10_orders_58 : decode cX10_orders 58 = .ok (.aload_n 0, 1) := by decide +kernel
theorem dX10_orders_59 : decode cX10_orders 59 = .ok (.getfield 47, 3) := by decide +kernel
theorem dX10_orders_62 : decode cX10_orders 62 = .ok (.iload_n 2, 1) := by decide +kernel
theorem dX10_orders_63 : decode cX10_orders 63 = .ok (.iload_n 1, 1) := by decide +kernel
theorem dX10_orders_64 : decode cX10_orders 64 = .ok (.iastore, 1) := by decide +kernel
theorem dX10_orders_65 : decode cX10_orders 65 = .ok (.iinc 1 1, 3) := by decide +kernel
theorem dX10_orders_68 : decode cX10_orders 68 = .ok (.goto (-66), 3) := by decide +kernel
theorem dX10_orders_71 : decode cX10_orders 71 = .ok (.return_, 1) := by decide +kernel
theorem dX10_fitting_0 : decode cX10_fitting 0 = .ok (.iconst (-1), 1) := by decide +kernel
theorem dX10_fitting_1 : decode cX10_fitting 1 = .ok (.istore_n 3, 1) := by decide +kernel
theorem dX10_fitting_2 : decode cX10_fitting 2 = .ok (.iconst 0, 1) := by decide +kernel
theorem dX10_fitting_3 : decode cX10_fitting 3 = .ok (.istore 4, 2) := by decide +kernel
theorem dX10_fitting_5 : decode cX10_fitting 5 = .ok (.iload 4, 2) := by decide +kernel
theorem dX10_fitting_7 : decode cX10_fitting 7 = .ok (.aload_n 0, 1) := by decide +kernel
theorem dX10_fitting_8 : decode cX10_fitting 8 = .ok (.getfield 193, 3) := by decide +kernel
theorem dX10_fitting_11 : decode cX10_fitting 11 = .ok (.if_icmp .ge 88, 3) := by decide +kernel
theorem dX10_fitting_14 : decode cX10_fitting 14 = .ok (.aload_n 0, 1) := by decide +kernel
theorem dX10_fitting_15 : decode cX10_fitting 15 = .ok (.getfield 56, 3) := by decide +kernel
theorem dX10_fitting_18 : decode cX10_fitting 18 = .ok (.iload 4, 2) := by decide +kernel
theorem dX10_fitting_20 : decode cX10_fitting 20 = .ok (.iaload, 1) := by decide +kernel
theorem dX10_fitting_21 : decode cX10_fitting 21 = .ok (.iload_n 2, 1) := by decide +kernel
theorem dX10_fitting_22 : decode cX10_fitting 22 = .ok (.if_icmp .lt 71, 3) := by decide +kernel
theorem dX10_fitting_25 : decode cX10_fitting 25 = .ok (.iload_n 1, 1) := by decide +kernel
theorem dX10_fitting_26 : decode cX10_fitting 26 = .ok (.ifCond .ne 17, 3) := by decide +kernel
theorem dX10_fitting_29 : decode cX10_fitting 29 = .ok (.iload 4, 2) := by decide +kernel
theorem dX10_fitting_31 : decode cX10_fitting 31 = .ok (.aload_n 0, 1) := by decide +kernel
theorem dX10_fitting_32 : decode cX10_fitting 32 = .ok (.getfield 193, 3) := by decide +kernel
theorem dX10_fitting_35 : decode cX10_fitting 35 = .ok (.iconst 1, 1) := by decide +kernel
theorem dX10_fitting_36 : decode cX10_fitting 36 = .ok (.isub, 1) := by decide +kernel
theorem dX10_fitting_37 : decode cX10_fitting 37 = .ok (.if_icmp .ge 6, 3) := by decide +kernel
theorem dX10_fitting_40 : decode cX10_fitting 40 = .ok (.goto 53, 3) := by decide +kernel
theorem dX10_fitting_43 : decode cX10_fitting 43 = .ok (.iload_n 3, 1) := by decide +kernel
theorem dX10_fitting_44 : decode cX10_fitting 44 = .ok (.iconst (-1), 1) := by decide +kernel
theorem dX10_fitting_45 : decode cX10_fitting 45 = .ok (.if_icmp .eq 45, 3) := by decide +kernel
theorem dX10_fitting_48 : decode cX10_fitting 48 = .ok (.iload_n 1, 1) := by decide +kernel
theorem dX10_fitting_49 : decode cX10_fitting 49 = .ok (.iconst 2, 1) := by decide +kernel
theorem dX10_fitting_50 : decode cX10_fitting 50 = .ok (.if_icmp .ne 19, 3) := by decide +kernel
theorem dX10_fitting_53 : decode cX10_fitting 53 = .ok (.aload_n 0, 1) := by decide +kernel
theorem dX10_fitting_54 : decode cX10_fitting 54 = .ok (.getfield 56, 3) := by decide +kernel
theorem dX10_fitting_57 : decode cX10_fitting 57 = .ok (.iload 4, 2) := by decide +kernel
theorem dX10_fitting_59 : decode cX10_fitting 59 = .ok (.iaload, 1) := by decide +kernel
theorem dX10_fitting_60 : decode cX10_fitting 60 = .ok (.aload_n 0, 1) := by decide +kernel
theorem dX10_fitting_61 : decode cX10_fitting 61 = .ok (.getfield 56, 3) := by decide +kernel
theorem dX10_fitting_64 : decode cX10_fitting 64 = .ok (.iload_n 3, 1) := by decide +kernel
theorem dX10_fitting_65 : decode cX10_fitting 65 = .ok (.iaload, 1) := by decide +kernel
theorem dX10_fitting_66 : decode cX10_fitting 66 = .ok (.if_icmp .lt 24, 3) := by decide +kernel
theorem dX10_fitting_69 : decode cX10_fitting 69 = .ok (.iload_n 1, 1) := by decide +kernel
theorem dX10_fitting_70 : decode cX10_fitting 70 = .ok (.iconst 3, 1) := by decide +kernel
theorem dX10_fitting_71 : decode cX10_fitting 71 = .ok (.if_icmp .ne 22, 3) := by decide +kernel
theorem dX10_fitting_74 : decode cX10_fitting 74 = .ok (.aload_n 0, 1) := by decide +kernel
theorem dX10_fitting_75 : decode cX10_fitting 75 = .ok (.getfield 56, 3) := by decide +kernel
theorem dX10_fitting_78 : decode cX10_fitting 78 = .ok (.iload 4, 2) := by decide +kernel
theorem dX10_fitting_80 : decode cX10_fitting 80 = .ok (.iaload, 1) := by decide +kernel
theorem dX10_fitting_81 : decode cX10_fitting 81 = .ok (.aload_n 0, 1) := by decide +kernel
theorem dX10_fitting_82 : decode cX10_fitting 82 = .ok (.getfield 56, 3) := by decide +kernel
theorem dX10_fitting_85 : decode cX10_fitting 85 = .ok (.iload_n 3, 1) := by decide +kernel
theorem dX10_fitting_86 : decode cX10_fitting 86 = .ok (.iaload, 1) := by decide +kernel
theorem dX10_fitting_87 : decode cX10_fitting 87 = .ok (.if_icmp .le 6, 3) := by decide +kernel
theorem dX10_fitting_90 : decode cX10_fitting 90 = .ok (.iload 4, 2) := by decide +kernel
theorem dX10_fitting_92 : decode cX10_fitting 92 = .ok (.istore_n 3, 1) := by decide +kernel
theorem dX10_fitting_93 : decode cX10_fitting 93 = .ok (.iinc 4 1, 3) := by decide +kernel
theorem dX10_fitting_96 : decode cX10_fitting 96 = .ok (.goto (-91), 3) := by decide +kernel
theorem dX10_fitting_99 : decode cX10_fitting 99 = .ok (.iload_n 3, 1) := by decide +kernel
theorem dX10_fitting_100 : decode cX10_fitting 100 = .ok (.ireturn, 1) := by decide +kernel
theorem dX10_comesInto_0 : decode cX10_comesInto 0 = .ok (.aload_n 0, 1) := by decide +kernel
theorem dX10_comesInto_1 : decode cX10_comesInto 1 = .ok (.iload_n 1, 1) := by decide +kernel
theorem dX10_comesInto_2 : decode cX10_comesInto 2 = .ok (.aload_n 0, 1) := by decide +kernel
theorem dX10_comesInto_3 : decode cX10_comesInto 3 = .ok (.getfield 44, 3) := by decide +kernel
theorem dX10_comesInto_6 : decode cX10_comesInto 6 = .ok (.iload_n 2, 1) := by decide +kernel
theorem dX10_comesInto_7 : decode cX10_comesInto 7 = .ok (.iaload, 1) := by decide +kernel
theorem dX10_comesInto_8 : decode cX10_comesInto 8 = .ok (.invokevirtual 196, 3) := by decide +kernel
theorem dX10_comesInto_11 : decode cX10_comesInto 11 = .ok (.istore_n 3, 1) := by decide +kernel
theorem dX10_comesInto_12 : decode cX10_comesInto 12 = .ok (.iload_n 3, 1) := by decide +kernel
theorem dX10_comesInto_13 : decode cX10_comesInto 13 = .ok (.iconst (-1), 1) := by decide +kernel
theorem dX10_comesInto_14 : decode cX10_comesInto 14 = .ok (.if_icmp .ne 28, 3) := by decide +kernel
theorem dX10_comesInto_17 : decode cX10_comesInto 17 = .ok (.aload_n 0, 1) := by decide +kernel
theorem dX10_comesInto_18 : decode cX10_comesInto 18 = .ok (.getfield 193, 3) := by decide +kernel
theorem dX10_comesInto_21 : decode cX10_comesInto 21 = .ok (.istore_n 3, 1) := by decide +kernel
theorem dX10_comesInto_22 : decode cX10_comesInto 22 = .ok (.aload_n 0, 1) := by decide +kernel
theorem dX10_comesInto_23 : decode cX10_comesInto 23 = .ok (.getfield 56, 3) := by decide +kernel
theorem dX10_comesInto_26 : decode cX10_comesInto 26 = .ok (.iload_n 3, 1) := by decide +kernel
theorem dX10_comesInto_27 : decode cX10_comesInto 27 = .ok (.aload_n 0, 1) := by decide +kernel
theorem dX10_comesInto_28 : decode cX10_comesInto 28 = .ok (.getfield 187, 3) := by decide +kernel
theorem dX10_comesInto_31 : decode cX10_comesInto 31 = .ok (.iastore, 1) := by decide +kernel
theorem dX10_comesInto_32 : decode cX10_comesInto 32 = .ok (.aload_n 0, 1) := by decide +kernel
theorem dX10_comesInto_33 : decode cX10_comesInto 33 = .ok (.dup, 1) := by decide +kernel
theorem dX10_comesInto_34 : decode cX10_comesInto 34 = .ok (.getfield 193, 3) := by decide +kernel
theorem dX10_comesInto_37 : decode cX10_comesInto 37 = .ok (.iconst 1, 1) := by decide +kernel
theorem dX10_comesInto_38 : decode cX10_comesInto 38 = .ok (.iadd, 1) := by decide +kernel
theorem dX10_comesInto_39 : decode cX10_comesInto 39 = .ok (.putfield 193, 3) := by decide +kernel
theorem dX10_comesInto_42 : decode cX10_comesInto 42 = .ok (.aload_n 0, 1) := by decide +kernel
theorem dX10_comesInto_43 : decode cX10_comesInto 43 = .ok (.getfield 56, 3) := by decide +kernel
theorem dX10_comesInto_46 : decode cX10_comesInto 46 = .ok (.iload_n 3, 1) := by decide +kernel
theorem dX10_comesInto_47 : decode cX10_comesInto 47 = .ok (.dup2, 1) := by decide +kernel
theorem dX10_comesInto_48 : decode cX10_comesInto 48 = .ok (.iaload, 1) := by decide +kernel
theorem dX10_comesInto_49 : decode cX10_comesInto 49 = .ok (.aload_n 0, 1) := by decide +kernel
theorem dX10_comesInto_50 : decode cX10_comesInto 50 = .ok (.getfield 44, 3) := by decide +kernel
theorem dX10_comesInto_53 : decode cX10_comesInto 53 = .ok (.iload_n 2, 1) := by decide +kernel
theorem dX10_comesInto_54 : decode cX10_comesInto 54 = .ok (.iaload, 1) := by decide +kernel
theorem dX10_comesInto_55 : decode cX10_comesInto 55 = .ok (.isub, 1) := by decide +kernel
theorem dX10_comesInto_56 : decode cX10_comesInto 56 = .ok (.iastore, 1) := by decide +kernel
theorem dX10_comesInto_57 : decode cX10_comesInto 57 = .ok (.iload_n 3, 1) := by decide +kernel
theorem dX10_comesInto_58 : decode cX10_comesInto 58 = .ok (.ireturn, 1) := by decide +kernel
theorem dX10_packs_0 : decode cX10_packs 0 = .ok (.aload_n 0, 1) := by decide +kernel
theorem dX10_packs_1 : decode cX10_packs 1 = .ok (.aload_n 0, 1) := by decide +kernel
theorem dX10_packs_2 : decode cX10_packs 2 = .ok (.iconst 0, 1) := by decide +kernel
theorem dX10_packs_3 : decode cX10_packs 3 = .ok (.dup_x1, 1) := by decide +kernel
theorem dX10_packs_4 : decode cX10_packs 4 = .ok (.putfield 193, 3) := by decide +kernel
theorem dX10_packs_7 : decode cX10_packs 7 = .ok (.putfield 199, 3) := by decide +kernel
theorem dX10_packs_10 : decode cX10_packs 10 = .ok (.iconst 0, 1) := by decide +kernel
theorem dX10_packs_11 : decode cX10_packs 11 = .ok (.istore_n 2, 1) := by decide +kernel
theorem dX10_packs_12 : decode cX10_packs 12 = .ok (.iload_n 2, 1) := by decide +kernel
theorem dX10_packs_13 : decode cX10_packs 13 = .ok (.aload_n 0, 1) := by decide +kernel
theorem dX10_packs_14 : decode cX10_packs 14 = .ok (.getfield 172, 3) := by decide +kernel
theorem dX10_packs_17 : decode cX10_packs 17 = .ok (.if_icmp .ge 82, 3) := by decide +kernel
theorem dX10_packs_20 : decode cX10_packs 20 = .ok (.iload_n 1, 1) := by decide +kernel
theorem dX10_packs_21 : decode cX10_packs 21 = .ok (.iconst 4, 1) := by decide +kernel
theorem dX10_packs_22 : decode cX10_packs 22 = .ok (.if_icmp .ge 7, 3) := by decide +kernel
theorem dX10_packs_25 : decode cX10_packs 25 = .ok (.iload_n 2, 1) := by decide +kernel
theorem dX10_packs_26 : decode cX10_packs 26 = .ok (.goto 9, 3) := by decide +kernel
theorem dX10_packs_29 : decode cX10_packs 29 = .ok (.aload_n 0, 1) := by decide +kernel
theorem dX10_packs_30 : decode cX10_packs 30 = .ok (.getfield 47, 3) := by decide +kernel
theorem dX10_packs_33 : decode cX10_packs 33 = .ok (.iload_n 2, 1) := by decide +kernel
theorem dX10_packs_34 : decode cX10_packs 34 = .ok (.iaload, 1) := by decide +kernel
theorem dX10_packs_35 : decode cX10_packs 35 = .ok (.istore_n 3, 1) := by decide +kernel
theorem dX10_packs_36 : decode cX10_packs 36 = .ok (.iconst 0, 1) := by decide +kernel
theorem dX10_packs_37 : decode cX10_packs 37 = .ok (.istore 4, 2) := by decide +kernel
theorem dX10_packs_39 : decode cX10_packs 39 = .ok (.iload 4, 2) := by decide +kernel
theorem dX10_packs_41 : decode cX10_packs 41 = .ok (.aload_n 0, 1) := by decide +kernel
theorem dX10_packs_42 : decode cX10_packs 42 = .ok (.getfield 41, 3) := by decide +kernel
theorem dX10_packs_45 : decode cX10_packs 45 = .ok (.iload_n 3, 1) := by decide +kernel
theorem dX10_packs_46 : decode cX10_packs 46 = .ok (.iaload, 1) := by decide +kernel
theorem dX10_packs_47 : decode cX10_packs 47 = .ok (.if_icmp .ge 46, 3) := by decide +kernel
theorem dX10_packs_50 : decode cX10_packs 50 = .ok (.aload_n 0, 1) := by decide +kernel
theorem dX10_packs_51 : decode cX10_packs 51 = .ok (.getfield 50, 3) := by decide +kernel
theorem dX10_packs_54 : decode cX10_packs 54 = .ok (.aload_n 0, 1) := by decide +kernel
theorem dX10_packs_55 : decode cX10_packs 55 = .ok (.getfield 199, 3) := by decide +kernel
theorem dX10_packs_58 : decode cX10_packs 58 = .ok (.iload_n 3, 1) := by decide +kernel
theorem dX10_packs_59 : decode cX10_packs 59 = .ok (.iastore, 1) := by decide +kernel
theorem dX10_packs_60 : decode cX10_packs 60 = .ok (.aload_n 0, 1) := by decide +kernel
theorem dX10_packs_61 : decode cX10_packs 61 = .ok (.getfield 53, 3) := by decide +kernel
theorem dX10_packs_64 : decode cX10_packs 64 = .ok (.aload_n 0, 1) := by decide +kernel
theorem dX10_packs_65 : decode cX10_packs 65 = .ok (.getfield 199, 3) := by decide +kernel
theorem dX10_packs_68 : decode cX10_packs 68 = .ok (.aload_n 0, 1) := by decide +kernel
theorem dX10_packs_69 : decode cX10_packs 69 = .ok (.iload_n 1, 1) := by decide +kernel
theorem dX10_packs_70 : decode cX10_packs 70 = .ok (.iconst 4, 1) := by decide +kernel
theorem dX10_packs_71 : decode cX10_packs 71 = .ok (.irem, 1) := by decide +kernel
theorem dX10_packs_72 : decode cX10_packs 72 = .ok (.iload_n 3, 1) := by decide +kernel
theorem dX10_packs_73 : decode cX10_packs 73 = .ok (.invokevirtual 202, 3) := by decide +kernel
theorem dX10_packs_76 : decode cX10_packs 76 = .ok (.iastore, 1) := by decide +kernel
theorem dX10_packs_77 : decode cX10_packs 77 = .ok (.aload_n 0, 1) := by decide +kernel
theorem dX10_packs_78 : decode cX10_packs 78 = .ok (.dup, 1) := by decide +kernel
theorem dX10_packs_79 : decode cX10_packs 79 = .ok (.getfield 199, 3) := by decide +kernel
theorem dX10_packs_82 : decode cX10_packs 82 = .ok (.iconst 1, 1) := by decide +kernel
theorem dX10_packs_83 : decode cX10_packs 83 = .ok (.iadd, 1) := by decide +kernel
theorem dX10_packs_84 : decode cX10_packs 84 = .ok (.putfield 199, 3) := by decide +kernel
theorem dX10_packs_87 : decode cX10_packs 87 = .ok (.iinc 4 1, 3) := by decide +kernel
theorem dX10_packs_90 : decode cX10_packs 90 = .ok (.goto (-51), 3) := by decide +kernel
theorem dX10_packs_93 : decode cX10_packs 93 = .ok (.iinc 2 1, 3) := by decide +kernel
theorem dX10_packs_96 : decode cX10_packs 96 = .ok (.goto (-84), 3) := by decide +kernel
theorem dX10_packs_99 : decode cX10_packs 99 = .ok (.aload_n 0, 1) := by decide +kernel
theorem dX10_packs_100 : decode cX10_packs 100 = .ok (.getfield 193, 3) := by decide +kernel
theorem dX10_packs_103 : decode cX10_packs 103 = .ok (.ireturn, 1) := by decide +kernel
theorem dX10_area_0 : decode cX10_area 0 = .ok (.iconst 0, 1) := by decide +kernel
theorem dX10_area_1 : decode cX10_area 1 = .ok (.istore_n 3, 1) := by decide +kernel
theorem dX10_area_2 : decode cX10_area 2 = .ok (.iconst 0, 1) := by decide +kernel
theorem dX10_area_3 : decode cX10_area 3 = .ok (.istore 4, 2) := by decide +kernel
theorem dX10_area_5 : decode cX10_area 5 = .ok (.iload 4, 2) := by decide +kernel
theorem dX10_area_7 : decode cX10_area 7 = .ok (.aload_n 0, 1) := by decide +kernel
theorem dX10_area_8 : decode cX10_area 8 = .ok (.getfield 172, 3) := by decide +kernel
theorem dX10_area_11 : decode cX10_area 11 = .ok (.if_icmp .ge 26, 3) := by decide +kernel
theorem dX10_area_14 : decode cX10_area 14 = .ok (.iload_n 3, 1) := by decide +kernel
theorem dX10_area_15 : decode cX10_area 15 = .ok (.aload_n 1, 1) := by decide +kernel
theorem dX10_area_16 : decode cX10_area 16 = .ok (.iload_n 2, 1) := by decide +kernel
theorem dX10_area_17 : decode cX10_area 17 = .ok (.iload 4, 2) := by decide +kernel
theorem dX10_area_19 : decode cX10_area 19 = .ok (.iadd, 1) := by decide +kernel
theorem dX10_area_20 : decode cX10_area 20 = .ok (.iaload, 1) := by decide +kernel
theorem dX10_area_21 : decode cX10_area 21 = .ok (.aload_n 0, 1) := by decide +kernel
theorem dX10_area_22 : decode cX10_area 22 = .ok (.getfield 44, 3) := by decide +kernel
theorem dX10_area_25 : decode cX10_area 25 = .ok (.iload 4, 2) := by decide +kernel
theorem dX10_area_27 : decode cX10_area 27 = .ok (.iaload, 1) := by decide +kernel
theorem dX10_area_28 : decode cX10_area 28 = .ok (.imul, 1) := by decide +kernel
theorem dX10_area_29 : decode cX10_area 29 = .ok (.iadd, 1) := by decide +kernel
theorem dX10_area_30 : decode cX10_area 30 = .ok (.istore_n 3, 1) := by decide +kernel
theorem dX10_area_31 : decode cX10_area 31 = .ok (.iinc 4 1, 3) := by decide +kernel
theorem dX10_area_34 : decode cX10_area 34 = .ok (.goto (-29), 3) := by decide +kernel
theorem dX10_area_37 : decode cX10_area 37 = .ok (.iload_n 3, 1) := by decide +kernel
theorem dX10_area_38 : decode cX10_area 38 = .ok (.aload_n 0, 1) := by decide +kernel
theorem dX10_area_39 : decode cX10_area 39 = .ok (.getfield 187, 3) := by decide +kernel
theorem dX10_area_42 : decode cX10_area 42 = .ok (.invokestatic 205, 3) := by decide +kernel
theorem dX10_area_45 : decode cX10_area 45 = .ok (.ireturn, 1) := by decide +kernel
theorem dX10_splits_0 : decode cX10_splits 0 = .ok (.iconst 0, 1) := by decide +kernel
theorem dX10_splits_1 : decode cX10_splits 1 = .ok (.istore 4, 2) := by decide +kernel
theorem dX10_splits_3 : decode cX10_splits 3 = .ok (.iconst 0, 1) := by decide +kernel
theorem dX10_splits_4 : decode cX10_splits 4 = .ok (.istore 5, 2) := by decide +kernel
theorem dX10_splits_6 : decode cX10_splits 6 = .ok (.iconst 0, 1) := by decide +kernel
theorem dX10_splits_7 : decode cX10_splits 7 = .ok (.istore 6, 2) := by decide +kernel
theorem dX10_splits_9 : decode cX10_splits 9 = .ok (.iload 6, 2) := by decide +kernel
theorem dX10_splits_11 : decode cX10_splits 11 = .ok (.aload_n 0, 1) := by decide +kernel
theorem dX10_splits_12 : decode cX10_splits 12 = .ok (.getfield 172, 3) := by decide +kernel
theorem dX10_splits_15 : decode cX10_splits 15 = .ok (.if_icmp .ge 123, 3) := by decide +kernel
theorem dX10_splits_18 : decode cX10_splits 18 = .ok (.aload_n 0, 1) := by decide +kernel
theorem dX10_splits_19 : decode cX10_splits 19 = .ok (.getfield 44, 3) := by decide +kernel
theorem dX10_splits_22 : decode cX10_splits 22 = .ok (.iload 6, 2) := by decide +kernel
theorem dX10_splits_24 : decode cX10_splits 24 = .ok (.iaload, 1) := by decide +kernel
theorem dX10_splits_25 : decode cX10_splits 25 = .ok (.aload_n 0, 1) := by decide +kernel
theorem dX10_splits_26 : decode cX10_splits 26 = .ok (.getfield 187, 3) := by decide +kernel
theorem dX10_splits_29 : decode cX10_splits 29 = .ok (.iload_n 3, 1) := by decide +kernel
theorem dX10_splits_30 : decode cX10_splits 30 = .ok (.isub, 1) := by decide +kernel
theorem dX10_splits_31 : decode cX10_splits 31 = .ok (.if_icmp .le 17, 3) := by decide +kernel
theorem dX10_splits_34 : decode cX10_splits 34 = .ok (.iload 4, 2) := by decide +kernel
theorem dX10_splits_36 : decode cX10_splits 36 = .ok (.aload_n 1, 1) := by decide +kernel
theorem dX10_splits_37 : decode cX10_splits 37 = .ok (.iload_n 2, 1) := by decide +kernel
theorem dX10_splits_38 : decode cX10_splits 38 = .ok (.iload 6, 2) := by decide +kernel
theorem dX10_splits_40 : decode cX10_splits 40 = .ok (.iadd, 1) := by decide +kernel
theorem dX10_splits_41 : decode cX10_splits 41 = .ok (.iaload, 1) := by decide +kernel
theorem dX10_splits_42 : decode cX10_splits 42 = .ok (.iadd, 1) := by decide +kernel
theorem dX10_splits_43 : decode cX10_splits 43 = .ok (.istore 4, 2) := by decide +kernel
theorem dX10_splits_45 : decode cX10_splits 45 = .ok (.goto 87, 3) := by decide +kernel
theorem dX10_splits_48 : decode cX10_splits 48 = .ok (.iconst 2, 1) := by decide +kernel
theorem dX10_splits_49 : decode cX10_splits 49 = .ok (.aload_n 0, 1) := by decide +kernel
theorem dX10_splits_50 : decode cX10_splits 50 = .ok (.getfield 44, 3) := by decide +kernel
theorem dX10_splits_53 : decode cX10_splits 53 = .ok (.iload 6, 2) := by decide +kernel
theorem dX10_splits_55 : decode cX10_splits 55 = .ok (.iaload, 1) := by decide +kernel
theorem dX10_splits_56 : decode cX10_splits 56 = .ok (.imul, 1) := by decide +kernel
theorem dX10_splits_57 : decode cX10_splits 57 = .ok (.aload_n 0, 1) := by decide +kernel
theorem dX10_splits_58 : decode cX10_splits 58 = .ok (.getfield 187, 3) := by decide +kernel
theorem dX10_splits_61 : decode cX10_splits 61 = .ok (.if_icmp .le 41, 3) := by decide +kernel
theorem dX10_splits_64 : decode cX10_splits 64 = .ok (.iload 4, 2) := by decide +kernel
theorem dX10_splits_66 : decode cX10_splits 66 = .ok (.aload_n 1, 1) := by decide +kernel
theorem dX10_splits_67 : decode cX10_splits 67 = .ok (.iload_n 2, 1) := by decide +kernel
theorem dX10_splits_68 : decode cX10_splits 68 = .ok (.iload 6, 2) := by decide +kernel
theorem dX10_splits_70 : decode cX10_splits 70 = .ok (.iadd, 1) := by decide +kernel
theorem dX10_splits_71 : decode cX10_splits 71 = .ok (.iaload, 1) := by decide +kernel
theorem dX10_splits_72 : decode cX10_splits 72 = .ok (.iadd, 1) := by decide +kernel
theorem dX10_splits_73 : decode cX10_splits 73 = .ok (.istore 4, 2) := by decide +kernel
theorem dX10_splits_75 : decode cX10_splits 75 = .ok (.iload 5, 2) := by decide +kernel
theorem dX10_splits_77 : decode cX10_splits 77 = .ok (.aload_n 1, 1) := by decide +kernel
theorem dX10_splits_78 : decode cX10_splits 78 = .ok (.iload_n 2, 1) := by decide +kernel
theorem dX10_splits_79 : decode cX10_splits 79 = .ok (.iload 6, 2) := by decide +kernel
theorem dX10_splits_81 : decode cX10_splits 81 = .ok (.iadd, 1) := by decide +kernel
theorem dX10_splits_82 : decode cX10_splits 82 = .ok (.iaload, 1) := by decide +kernel
theorem dX10_splits_83 : decode cX10_splits 83 = .ok (.aload_n 0, 1) := by decide +kernel
theorem dX10_splits_84 : decode cX10_splits 84 = .ok (.getfield 187, 3) := by decide +kernel
theorem dX10_splits_87 : decode cX10_splits 87 = .ok (.aload_n 0, 1) := by decide +kernel
theorem dX10_splits_88 : decode cX10_splits 88 = .ok (.getfield 44, 3) := by decide +kernel
theorem dX10_splits_91 : decode cX10_splits 91 = .ok (.iload 6, 2) := by decide +kernel
theorem dX10_splits_93 : decode cX10_splits 93 = .ok (.iaload, 1) := by decide +kernel
theorem dX10_splits_94 : decode cX10_splits 94 = .ok (.isub, 1) := by decide +kernel
theorem dX10_splits_95 : decode cX10_splits 95 = .ok (.imul, 1) := by decide +kernel
theorem dX10_splits_96 : decode cX10_splits 96 = .ok (.iadd, 1) := by decide +kernel
theorem dX10_splits_97 : decode cX10_splits 97 = .ok (.istore 5, 2) := by decide +kernel
theorem dX10_splits_99 : decode cX10_splits 99 = .ok (.goto 33, 3) := by decide +kernel
theorem dX10_splits_102 : decode cX10_splits 102 = .ok (.aload_n 0, 1) := by decide +kernel
theorem dX10_splits_103 : decode cX10_splits 103 = .ok (.getfield 44, 3) := by decide +kernel
theorem dX10_splits_106 : decode cX10_splits 106 = .ok (.iload 6, 2) := by decide +kernel
theorem dX10_splits_108 : decode cX10_splits 108 = .ok (.iaload, 1) := by decide +kernel
theorem dX10_splits_109 : decode cX10_splits 109 = .ok (.iload_n 3, 1) := by decide +kernel
theorem dX10_splits_110 : decode cX10_splits 110 = .ok (.if_icmp .lt 22, 3) := by decide +kernel
theorem dX10_splits_113 : decode cX10_splits 113 = .ok (.iload 5, 2) := by decide +kernel
theorem dX10_splits_115 : decode cX10_splits 115 = .ok (.aload_n 1, 1) := by decide +kernel
theorem dX10_splits_116 : decode cX10_splits 116 = .ok (.iload_n 2, 1) := by decide +kernel
theorem dX10_splits_117 : decode cX10_splits 117 = .ok (.iload 6, 2) := by decide +kernel
theorem dX10_splits_119 : decode cX10_splits 119 = .ok (.iadd, 1) := by decide +kernel
theorem dX10_splits_120 : decode cX10_splits 120 = .ok (.iaload, 1) := by decide +kernel
theorem dX10_splits_121 : decode cX10_splits 121 = .ok (.aload_n 0, 1) := by decide +kernel
theorem dX10_splits_122 : decode cX10_splits 122 = .ok (.getfield 44, 3) := by decide +kernel
theorem dX10_splits_125 : decode cX10_splits 125 = .ok (.iload 6, 2) := by decide +kernel
theorem dX10_splits_127 : decode cX10_splits 127 = .ok (.iaload, 1) := by decide +kernel
theorem dX10_splits_128 : decode cX10_splits 128 = .ok (.imul, 1) := by decide +kernel
theorem dX10_splits_129 : decode cX10_splits 129 = .ok (.isub, 1) := by decide +kernel
theorem dX10_splits_130 : decode cX10_splits 130 = .ok (.istore 5, 2) := by decide +kernel
theorem dX10_splits_132 : decode cX10_splits 132 = .ok (.iinc 6 1, 3) := by decide +kernel
theorem dX10_splits_135 : decode cX10_splits 135 = .ok (.goto (-126), 3) := by decide +kernel
theorem dX10_splits_138 : decode cX10_splits 138 = .ok (.iload 5, 2) := by decide +kernel
theorem dX10_splits_140 : decode cX10_splits 140 = .ok (.ifCond .ge 19, 3) := by decide +kernel
theorem dX10_splits_143 : decode cX10_splits 143 = .ok (.iload 4, 2) := by decide +kernel
theorem dX10_splits_145 : decode cX10_splits 145 = .ok (.iload 5, 2) := by decide +kernel
theorem dX10_splits_147 : decode cX10_splits 147 = .ok (.ineg, 1) := by decide +kernel
theorem dX10_splits_148 : decode cX10_splits 148 = .ok (.aload_n 0, 1) := by decide +kernel
theorem dX10_splits_149 : decode cX10_splits 149 = .ok (.getfield 187, 3) := by decide +kernel
theorem dX10_splits_152 : decode cX10_splits 152 = .ok (.invokestatic 205, 3) := by decide +kernel
theorem dX10_splits_155 : decode cX10_splits 155 = .ok (.iadd, 1) := by decide +kernel
theorem dX10_splits_156 : decode cX10_splits 156 = .ok (.goto 5, 3) := by decide +kernel
theorem dX10_splits_159 : decode cX10_splits 159 = .ok (.iload 4, 2) := by decide +kernel
theorem dX10_splits_161 : decode cX10_splits 161 = .ok (.ireturn, 1) := by decide +kernel
theorem dX10_stepped_0 : decode cX10_stepped 0 = .ok (.iconst 0, 1) := by decide +kernel
theorem dX10_stepped_1 : decode cX10_stepped 1 = .ok (.istore 4, 2) := by decide +kernel
theorem dX10_stepped_3 : decode cX10_stepped 3 = .ok (.iconst 0, 1) := by decide +kernel
theorem dX10_stepped_4 : decode cX10_stepped 4 = .ok (.istore 5, 2) := by decide +kernel
theorem dX10_stepped_6 : decode cX10_stepped 6 = .ok (.iload 5, 2) := by decide +kernel
theorem dX10_stepped_8 : decode cX10_stepped 8 = .ok (.aload_n 0, 1) := by decide +kernel
theorem dX10_stepped_9 : decode cX10_stepped 9 = .ok (.getfield 172, 3) := by decide +kernel
theorem dX10_stepped_12 : decode cX10_stepped 12 = .ok (.if_icmp .ge 68, 3) := by decide +kernel
theorem dX10_stepped_15 : decode cX10_stepped 15 = .ok (.iload_n 3, 1) := by decide +kernel
theorem dX10_stepped_16 : decode cX10_stepped 16 = .ok (.iconst 1, 1) := by decide +kernel
theorem dX10_stepped_17 : decode cX10_stepped 17 = .ok (.iadd, 1) := by decide +kernel
theorem dX10_stepped_18 : decode cX10_stepped 18 = .ok (.aload_n 0, 1) := by decide +kernel
theorem dX10_stepped_19 : decode cX10_stepped 19 = .ok (.getfield 44, 3) := by decide +kernel
theorem dX10_stepped_22 : decode cX10_stepped 22 = .ok (.iload 5, 2) := by decide +kernel
theorem dX10_stepped_24 : decode cX10_stepped 24 = .ok (.iaload, 1) := by decide +kernel
theorem dX10_stepped_25 : decode cX10_stepped 25 = .ok (.imul, 1) := by decide +kernel
theorem dX10_stepped_26 : decode cX10_stepped 26 = .ok (.istore 6, 2) := by decide +kernel
theorem dX10_stepped_28 : decode cX10_stepped 28 = .ok (.iload 4, 2) := by decide +kernel
theorem dX10_stepped_30 : decode cX10_stepped 30 = .ok (.aload_n 1, 1) := by decide +kernel
theorem dX10_stepped_31 : decode cX10_stepped 31 = .ok (.iload_n 2, 1) := by decide +kernel
theorem dX10_stepped_32 : decode cX10_stepped 32 = .ok (.iload 5, 2) := by decide +kernel
theorem dX10_stepped_34 : decode cX10_stepped 34 = .ok (.iadd, 1) := by decide +kernel
theorem dX10_stepped_35 : decode cX10_stepped 35 = .ok (.iaload, 1) := by decide +kernel
theorem dX10_stepped_36 : decode cX10_stepped 36 = .ok (.iload 6, 2) := by decide +kernel
theorem dX10_stepped_38 : decode cX10_stepped 38 = .ok (.aload_n 0, 1) := by decide +kernel
theorem dX10_stepped_39 : decode cX10_stepped 39 = .ok (.getfield 187, 3) := by decide +kernel
theorem dX10_stepped_42 : decode cX10_stepped 42 = .ok (.irem, 1) := by decide +kernel
theorem dX10_stepped_43 : decode cX10_stepped 43 = .ok (.ifCond .ne 15, 3) := by decide +kernel
theorem dX10_stepped_46 : decode cX10_stepped 46 = .ok (.iload_n 3, 1) := by decide +kernel
theorem dX10_stepped_47 : decode cX10_stepped 47 = .ok (.aload_n 0, 1) := by decide +kernel
theorem dX10_stepped_48 : decode cX10_stepped 48 = .ok (.getfield 44, 3) := by decide +kernel
theorem dX10_stepped_51 : decode cX10_stepped 51 = .ok (.iload 5, 2) := by decide +kernel
theorem dX10_stepped_53 : decode cX10_stepped 53 = .ok (.iaload, 1) := by decide +kernel
theorem dX10_stepped_54 : decode cX10_stepped 54 = .ok (.imul, 1) := by decide +kernel
theorem dX10_stepped_55 : decode cX10_stepped 55 = .ok (.goto 15, 3) := by decide +kernel
theorem dX10_stepped_58 : decode cX10_stepped 58 = .ok (.aload_n 0, 1) := by decide +kernel
theorem dX10_stepped_59 : decode cX10_stepped 59 = .ok (.getfield 187, 3) := by decide +kernel
theorem dX10_stepped_62 : decode cX10_stepped 62 = .ok (.iload 6, 2) := by decide +kernel
theorem dX10_stepped_64 : decode cX10_stepped 64 = .ok (.aload_n 0, 1) := by decide +kernel
theorem dX10_stepped_65 : decode cX10_stepped 65 = .ok (.getfield 187, 3) := by decide +kernel
theorem dX10_stepped_68 : decode cX10_stepped 68 = .ok (.idiv, 1) := by decide +kernel
theorem dX10_stepped_69 : decode cX10_stepped 69 = .ok (.imul, 1) := by decide +kernel
theorem dX10_stepped_70 : decode cX10_stepped 70 = .ok (.imul, 1) := by decide +kernel
theorem dX10_stepped_71 : decode cX10_stepped 71 = .ok (.iadd, 1) := by decide +kernel
theorem dX10_stepped_72 : decode cX10_stepped 72 = .ok (.istore 4, 2) := by decide +kernel
theorem dX10_stepped_74 : decode cX10_stepped 74 = .ok (.iinc 5 1, 3) := by decide +kernel
theorem dX10_stepped_77 : decode cX10_stepped 77 = .ok (.goto (-71), 3) := by decide +kernel
theorem dX10_stepped_80 : decode cX10_stepped 80 = .ok (.iload 4, 2) := by decide +kernel
theorem dX10_stepped_82 : decode cX10_stepped 82 = .ok (.iload_n 3, 1) := by decide +kernel
theorem dX10_stepped_83 : decode cX10_stepped 83 = .ok (.aload_n 0, 1) := by decide +kernel
theorem dX10_stepped_84 : decode cX10_stepped 84 = .ok (.getfield 187, 3) := by decide +kernel
theorem dX10_stepped_87 : decode cX10_stepped 87 = .ok (.imul, 1) := by decide +kernel
theorem dX10_stepped_88 : decode cX10_stepped 88 = .ok (.invokestatic 205, 3) := by decide +kernel
theorem dX10_stepped_91 : decode cX10_stepped 91 = .ok (.ireturn, 1) := by decide +kernel
theorem dX10_topSplit_0 : decode cX10_topSplit 0 = .ok (.iconst (-1), 1) := by decide +kernel
theorem dX10_topSplit_1 : decode cX10_topSplit 1 = .ok (.istore_n 3, 1) := by decide +kernel
theorem dX10_topSplit_2 : decode cX10_topSplit 2 = .ok (.iconst 0, 1) := by decide +kernel
theorem dX10_topSplit_3 : decode cX10_topSplit 3 = .ok (.istore 4, 2) := by decide +kernel
theorem dX10_topSplit_5 : decode cX10_topSplit 5 = .ok (.iload 4, 2) := by decide +kernel
theorem dX10_topSplit_7 : decode cX10_topSplit 7 = .ok (.aload_n 0, 1) := by decide +kernel
theorem dX10_topSplit_8 : decode cX10_topSplit 8 = .ok (.getfield 187, 3) := by decide +kernel
theorem dX10_topSplit_11 : decode cX10_topSplit 11 = .ok (.iconst 2, 1) := by decide +kernel
theorem dX10_topSplit_12 : decode cX10_topSplit 12 = .ok (.idiv, 1) := by decide +kernel
theorem dX10_topSplit_13 : decode cX10_topSplit 13 = .ok (.if_icmp .gt 37, 3) := by decide +kernel
theorem dX10_topSplit_16 : decode cX10_topSplit 16 = .ok (.aload_n 0, 1) := by decide +kernel
theorem dX10_topSplit_17 : decode cX10_topSplit 17 = .ok (.aload_n 1, 1) := by decide +kernel
theorem dX10_topSplit_18 : decode cX10_topSplit 18 = .ok (.iload_n 2, 1) := by decide +kernel
theorem dX10_topSplit_19 : decode cX10_topSplit 19 = .ok (.iload 4, 2) := by decide +kernel
theorem dX10_topSplit_21 : decode cX10_topSplit 21 = .ok (.invokevirtual 208, 3) := by decide +kernel
theorem dX10_topSplit_24 : decode cX10_topSplit 24 = .ok (.istore 5, 2) := by decide +kernel
theorem dX10_topSplit_26 : decode cX10_topSplit 26 = .ok (.iload 5, 2) := by decide +kernel
theorem dX10_topSplit_28 : decode cX10_topSplit 28 = .ok (.iload_n 3, 1) := by decide +kernel
theorem dX10_topSplit_29 : decode cX10_topSplit 29 = .ok (.if_icmp .gt 6, 3) := by decide +kernel
theorem dX10_topSplit_32 : decode cX10_topSplit 32 = .ok (.goto 12, 3) := by decide +kernel
theorem dX10_topSplit_35 : decode cX10_topSplit 35 = .ok (.iload 5, 2) := by decide +kernel
theorem dX10_topSplit_37 : decode cX10_topSplit 37 = .ok (.istore_n 3, 1) := by decide +kernel
theorem dX10_topSplit_38 : decode cX10_topSplit 38 = .ok (.aload_n 0, 1) := by decide +kernel
theorem dX10_topSplit_39 : decode cX10_topSplit 39 = .ok (.iload 4, 2) := by decide +kernel
theorem dX10_topSplit_41 : decode cX10_topSplit 41 = .ok (.putfield 212, 3) := by decide +kernel
theorem dX10_topSplit_44 : decode cX10_topSplit 44 = .ok (.iinc 4 1, 3) := by decide +kernel
theorem dX10_topSplit_47 : decode cX10_topSplit 47 = .ok (.goto (-42), 3) := by decide +kernel
theorem dX10_topSplit_50 : decode cX10_topSplit 50 = .ok (.iload_n 3, 1) := by decide +kernel
theorem dX10_topSplit_51 : decode cX10_topSplit 51 = .ok (.ireturn, 1) := by decide +kernel
theorem dX10_topStep_0 : decode cX10_topStep 0 = .ok (.iconst (-1), 1) := by decide +kernel
theorem dX10_topStep_1 : decode cX10_topStep 1 = .ok (.istore_n 3, 1) := by decide +kernel
theorem dX10_topStep_2 : decode cX10_topStep 2 = .ok (.iconst 1, 1) := by decide +kernel
theorem dX10_topStep_3 : decode cX10_topStep 3 = .ok (.istore 4, 2) := by decide +kernel
theorem dX10_topStep_5 : decode cX10_topStep 5 = .ok (.iload 4, 2) := by decide +kernel
