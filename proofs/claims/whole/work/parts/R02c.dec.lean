theorem dX7_off_44 : decode cX7_off 44 = .ok (.ireturn, 1) := by decide +kernel
theorem dX7_off_45 : decode cX7_off 45 = .ok (.iload_n 1, 1) := by decide +kernel
theorem dX7_off_46 : decode cX7_off 46 = .ok (.ifCond .ne 12, 3) := by decide +kernel
theorem dX7_off_49 : decode cX7_off 49 = .ok (.aload_n 0, 1) := by decide +kernel
theorem dX7_off_50 : decode cX7_off 50 = .ok (.getfield 23, 3) := by decide +kernel
theorem dX7_off_53 : decode cX7_off 53 = .ok (.iload_n 2, 1) := by decide +kernel
theorem dX7_off_54 : decode cX7_off 54 = .ok (.baload, 1) := by decide +kernel
theorem dX7_off_55 : decode cX7_off 55 = .ok (.goto 9, 3) := by decide +kernel
theorem dX7_off_58 : decode cX7_off 58 = .ok (.aload_n 0, 1) := by decide +kernel
theorem dX7_off_59 : decode cX7_off 59 = .ok (.getfield 36, 3) := by decide +kernel
theorem dX7_off_62 : decode cX7_off 62 = .ok (.iload_n 2, 1) := by decide +kernel
theorem dX7_off_63 : decode cX7_off 63 = .ok (.baload, 1) := by decide +kernel
theorem dX7_off_64 : decode cX7_off 64 = .ok (.istore 4, 2) := by decide +kernel
theorem dX7_off_66 : decode cX7_off 66 = .ok (.iload_n 1, 1) := by decide +kernel
theorem dX7_off_67 : decode cX7_off 67 = .ok (.ifCond .ne 22, 3) := by decide +kernel
theorem dX7_off_70 : decode cX7_off 70 = .ok (.aload_n 0, 1) := by decide +kernel
theorem dX7_off_71 : decode cX7_off 71 = .ok (.getfield 23, 3) := by decide +kernel
theorem dX7_off_74 : decode cX7_off 74 = .ok (.iload_n 2, 1) := by decide +kernel
theorem dX7_off_75 : decode cX7_off 75 = .ok (.iload_n 3, 1) := by decide +kernel
theorem dX7_off_76 : decode cX7_off 76 = .ok (.iconst 1, 1) := by decide +kernel
theorem dX7_off_77 : decode cX7_off 77 = .ok (.if_icmp .ne 7, 3) := by decide +kernel
theorem dX7_off_80 : decode cX7_off 80 = .ok (.iconst 1, 1) := by decide +kernel
theorem dX7_off_81 : decode cX7_off 81 = .ok (.goto 4, 3) := by decide +kernel
theorem dX7_off_84 : decode cX7_off 84 = .ok (.iconst 0, 1) := by decide +kernel
theorem dX7_off_85 : decode cX7_off 85 = .ok (.bastore, 1) := by decide +kernel
theorem dX7_off_86 : decode cX7_off 86 = .ok (.goto 19, 3) := by decide +kernel
theorem dX7_off_89 : decode cX7_off 89 = .ok (.aload_n 0, 1) := by decide +kernel
theorem dX7_off_90 : decode cX7_off 90 = .ok (.getfield 36, 3) := by decide +kernel
theorem dX7_off_93 : decode cX7_off 93 = .ok (.iload_n 2, 1) := by decide +kernel
theorem dX7_off_94 : decode cX7_off 94 = .ok (.iload_n 3, 1) := by decide +kernel
theorem dX7_off_95 : decode cX7_off 95 = .ok (.iconst 1, 1) := by decide +kernel
theorem dX7_off_96 : decode cX7_off 96 = .ok (.if_icmp .ne 7, 3) := by decide +kernel
theorem dX7_off_99 : decode cX7_off 99 = .ok (.iconst 1, 1) := by decide +kernel
theorem dX7_off_100 : decode cX7_off 100 = .ok (.goto 4, 3) := by decide +kernel
theorem dX7_off_103 : decode cX7_off 103 = .ok (.iconst 0, 1) := by decide +kernel
theorem dX7_off_104 : decode cX7_off 104 = .ok (.bastore, 1) := by decide +kernel
theorem dX7_off_105 : decode cX7_off 105 = .ok (.iload 4, 2) := by decide +kernel
theorem dX7_off_107 : decode cX7_off 107 = .ok (.ifCond .eq 7, 3) := by decide +kernel
theorem dX7_off_110 : decode cX7_off 110 = .ok (.iconst 1, 1) := by decide +kernel
theorem dX7_off_111 : decode cX7_off 111 = .ok (.goto 4, 3) := by decide +kernel
theorem dX7_off_114 : decode cX7_off 114 = .ok (.iconst 0, 1) := by decide +kernel
theorem dX7_off_115 : decode cX7_off 115 = .ok (.ireturn, 1) := by decide +kernel
theorem dX7_determinant_0 : decode cX7_determinant 0 = .ok (.lconst 1, 1) := by decide +kernel
theorem dX7_determinant_1 : decode cX7_determinant 1 = .ok (.lstore_n 2, 1) := by decide +kernel
theorem dX7_determinant_2 : decode cX7_determinant 2 = .ok (.lconst 1, 1) := by decide +kernel
theorem dX7_determinant_3 : decode cX7_determinant 3 = .ok (.lstore 4, 2) := by decide +kernel
theorem dX7_determinant_5 : decode cX7_determinant 5 = .ok (.iconst 0, 1) := by decide +kernel
theorem dX7_determinant_6 : decode cX7_determinant 6 = .ok (.istore 6, 2) := by decide +kernel
theorem dX7_determinant_8 : decode cX7_determinant 8 = .ok (.iload 6, 2) := by decide +kernel
theorem dX7_determinant_10 : decode cX7_determinant 10 = .ok (.iload_n 1, 1) := by decide +kernel
theorem dX7_determinant_11 : decode cX7_determinant 11 = .ok (.if_icmp .ge 243, 3) := by decide +kernel
theorem dX7_determinant_14 : decode cX7_determinant 14 = .ok (.iload 6, 2) := by decide +kernel
theorem dX7_determinant_16 : decode cX7_determinant 16 = .ok (.istore 7, 2) := by decide +kernel
theorem dX7_determinant_18 : decode cX7_determinant 18 = .ok (.iload 7, 2) := by decide +kernel
theorem dX7_determinant_20 : decode cX7_determinant 20 = .ok (.iload_n 1, 1) := by decide +kernel
theorem dX7_determinant_21 : decode cX7_determinant 21 = .ok (.if_icmp .ge 26, 3) := by decide +kernel
theorem dX7_determinant_24 : decode cX7_determinant 24 = .ok (.aload_n 0, 1) := by decide +kernel
theorem dX7_determinant_25 : decode cX7_determinant 25 = .ok (.getfield 88, 3) := by decide +kernel
theorem dX7_determinant_28 : decode cX7_determinant 28 = .ok (.iconst 4, 1) := by decide +kernel
theorem dX7_determinant_29 : decode cX7_determinant 29 = .ok (.iload 7, 2) := by decide +kernel
theorem dX7_determinant_31 : decode cX7_determinant 31 = .ok (.imul, 1) := by decide +kernel
theorem dX7_determinant_32 : decode cX7_determinant 32 = .ok (.iload 6, 2) := by decide +kernel
theorem dX7_determinant_34 : decode cX7_determinant 34 = .ok (.iadd, 1) := by decide +kernel
theorem dX7_determinant_35 : decode cX7_determinant 35 = .ok (.laload, 1) := by decide +kernel
theorem dX7_determinant_36 : decode cX7_determinant 36 = .ok (.lconst 0, 1) := by decide +kernel
theorem dX7_determinant_37 : decode cX7_determinant 37 = .ok (.lcmp, 1) := by decide +kernel
theorem dX7_determinant_38 : decode cX7_determinant 38 = .ok (.ifCond .ne 9, 3) := by decide +kernel
theorem dX7_determinant_41 : decode cX7_determinant 41 = .ok (.iinc 7 1, 3) := by decide +kernel
theorem dX7_determinant_44 : decode cX7_determinant 44 = .ok (.goto (-26), 3) := by decide +kernel
theorem dX7_determinant_47 : decode cX7_determinant 47 = .ok (.iload 7, 2) := by decide +kernel
theorem dX7_determinant_49 : decode cX7_determinant 49 = .ok (.iload_n 1, 1) := by decide +kernel
theorem dX7_determinant_50 : decode cX7_determinant 50 = .ok (.if_icmp .ne 5, 3) := by decide +kernel
theorem dX7_determinant_53 : decode cX7_determinant 53 = .ok (.lconst 0, 1) := by decide +kernel
theorem dX7_determinant_54 : decode cX7_determinant 54 = .ok (.lreturn, 1) := by decide +kernel
theorem dX7_determinant_55 : decode cX7_determinant 55 = .ok (.iload 7, 2) := by decide +kernel
theorem dX7_determinant_57 : decode cX7_determinant 57 = .ok (.iload 6, 2) := by decide +kernel
theorem dX7_determinant_59 : decode cX7_determinant 59 = .ok (.if_icmp .eq 73, 3) := by decide +kernel
theorem dX7_determinant_62 : decode cX7_determinant 62 = .ok (.iconst 0, 1) := by decide +kernel
theorem dX7_determinant_63 : decode cX7_determinant 63 = .ok (.istore 8, 2) := by decide +kernel
theorem dX7_determinant_65 : decode cX7_determinant 65 = .ok (.iload 8, 2) := by decide +kernel
theorem dX7_determinant_67 : decode cX7_determinant 67 = .ok (.iload_n 1, 1) := by decide +kernel
theorem dX7_determinant_68 : decode cX7_determinant 68 = .ok (.if_icmp .ge 61, 3) := by decide +kernel
theorem dX7_determinant_71 : decode cX7_determinant 71 = .ok (.aload_n 0, 1) := by decide +kernel
theorem dX7_determinant_72 : decode cX7_determinant 72 = .ok (.getfield 88, 3) := by decide +kernel
theorem dX7_determinant_75 : decode cX7_determinant 75 = .ok (.iconst 4, 1) := by decide +kernel
theorem dX7_determinant_76 : decode cX7_determinant 76 = .ok (.iload 7, 2) := by decide +kernel
theorem dX7_determinant_78 : decode cX7_determinant 78 = .ok (.imul, 1) := by decide +kernel
theorem dX7_determinant_79 : decode cX7_determinant 79 = .ok (.iload 8, 2) := by decide +kernel
theorem dX7_determinant_81 : decode cX7_determinant 81 = .ok (.iadd, 1) := by decide +kernel
theorem dX7_determinant_82 : decode cX7_determinant 82 = .ok (.laload, 1) := by decide +kernel
theorem dX7_determinant_83 : decode cX7_determinant 83 = .ok (.lstore 9, 2) := by decide +kernel
theorem dX7_determinant_85 : decode cX7_determinant 85 = .ok (.aload_n 0, 1) := by decide +kernel
theorem dX7_determinant_86 : decode cX7_determinant 86 = .ok (.getfield 88, 3) := by decide +kernel
theorem dX7_determinant_89 : decode cX7_determinant 89 = .ok (.iconst 4, 1) := by decide +kernel
theorem dX7_determinant_90 : decode cX7_determinant 90 = .ok (.iload 7, 2) := by decide +kernel
theorem dX7_determinant_92 : decode cX7_determinant 92 = .ok (.imul, 1) := by decide +kernel
theorem dX7_determinant_93 : decode cX7_determinant 93 = .ok (.iload 8, 2) := by decide +kernel
theorem dX7_determinant_95 : decode cX7_determinant 95 = .ok (.iadd, 1) := by decide +kernel
theorem dX7_determinant_96 : decode cX7_determinant 96 = .ok (.aload_n 0, 1) := by decide +kernel
theorem dX7_determinant_97 : decode cX7_determinant 97 = .ok (.getfield 88, 3) := by decide +kernel
theorem dX7_determinant_100 : decode cX7_determinant 100 = .ok (.iconst 4, 1) := by decide +kernel
theorem dX7_determinant_101 : decode cX7_determinant 101 = .ok (.iload 6, 2) := by decide +kernel
theorem dX7_determinant_103 : decode cX7_determinant 103 = .ok (.imul, 1) := by decide +kernel
theorem dX7_determinant_104 : decode cX7_determinant 104 = .ok (.iload 8, 2) := by decide +kernel
theorem dX7_determinant_106 : decode cX7_determinant 106 = .ok (.iadd, 1) := by decide +kernel
theorem dX7_determinant_107 : decode cX7_determinant 107 = .ok (.laload, 1) := by decide +kernel
theorem dX7_determinant_108 : decode cX7_determinant 108 = .ok (.lastore, 1) := by decide +kernel
theorem dX7_determinant_109 : decode cX7_determinant 109 = .ok (.aload_n 0, 1) := by decide +kernel
theorem dX7_determinant_110 : decode cX7_determinant 110 = .ok (.getfield 88, 3) := by decide +kernel
theorem dX7_determinant_113 : decode cX7_determinant 113 = .ok (.iconst 4, 1) := by decide +kernel
theorem dX7_determinant_114 : decode cX7_determinant 114 = .ok (.iload 6, 2) := by decide +kernel
theorem dX7_determinant_116 : decode cX7_determinant 116 = .ok (.imul, 1) := by decide +kernel
theorem dX7_determinant_117 : decode cX7_determinant 117 = .ok (.iload 8, 2) := by decide +kernel
theorem dX7_determinant_119 : decode cX7_determinant 119 = .ok (.iadd, 1) := by decide +kernel
theorem dX7_determinant_120 : decode cX7_determinant 120 = .ok (.lload 9, 2) := by decide +kernel
theorem dX7_determinant_122 : decode cX7_determinant 122 = .ok (.lastore, 1) := by decide +kernel
theorem dX7_determinant_123 : decode cX7_determinant 123 = .ok (.iinc 8 1, 3) := by decide +kernel
theorem dX7_determinant_126 : decode cX7_determinant 126 = .ok (.goto (-61), 3) := by decide +kernel
theorem dX7_determinant_129 : decode cX7_determinant 129 = .ok (.lload_n 2, 1) := by decide +kernel
theorem dX7_determinant_130 : decode cX7_determinant 130 = .ok (.lneg, 1) := by decide +kernel
theorem dX7_determinant_131 : decode cX7_determinant 131 = .ok (.lstore_n 2, 1) := by decide +kernel
theorem dX7_determinant_132 : decode cX7_determinant 132 = .ok (.iload 6, 2) := by decide +kernel
theorem dX7_determinant_134 : decode cX7_determinant 134 = .ok (.iconst 1, 1) := by decide +kernel
theorem dX7_determinant_135 : decode cX7_determinant 135 = .ok (.iadd, 1) := by decide +kernel
theorem dX7_determinant_136 : decode cX7_determinant 136 = .ok (.istore 8, 2) := by decide +kernel
theorem dX7_determinant_138 : decode cX7_determinant 138 = .ok (.iload 8, 2) := by decide +kernel
theorem dX7_determinant_140 : decode cX7_determinant 140 = .ok (.iload_n 1, 1) := by decide +kernel
theorem dX7_determinant_141 : decode cX7_determinant 141 = .ok (.if_icmp .ge 93, 3) := by decide +kernel
theorem dX7_determinant_144 : decode cX7_determinant 144 = .ok (.iload 6, 2) := by decide +kernel
theorem dX7_determinant_146 : decode cX7_determinant 146 = .ok (.iconst 1, 1) := by decide +kernel
theorem dX7_determinant_147 : decode cX7_determinant 147 = .ok (.iadd, 1) := by decide +kernel
theorem dX7_determinant_148 : decode cX7_determinant 148 = .ok (.istore 9, 2) := by decide +kernel
theorem dX7_determinant_150 : decode cX7_determinant 150 = .ok (.iload 9, 2) := by decide +kernel
theorem dX7_determinant_152 : decode cX7_determinant 152 = .ok (.iload_n 1, 1) := by decide +kernel
theorem dX7_determinant_153 : decode cX7_determinant 153 = .ok (.if_icmp .ge 75, 3) := by decide +kernel
theorem dX7_determinant_156 : decode cX7_determinant 156 = .ok (.aload_n 0, 1) := by decide +kernel
theorem dX7_determinant_157 : decode cX7_determinant 157 = .ok (.getfield 88, 3) := by decide +kernel
theorem dX7_determinant_160 : decode cX7_determinant 160 = .ok (.iconst 4, 1) := by decide +kernel
theorem dX7_determinant_161 : decode cX7_determinant 161 = .ok (.iload 8, 2) := by decide +kernel
theorem dX7_determinant_163 : decode cX7_determinant 163 = .ok (.imul, 1) := by decide +kernel
theorem dX7_determinant_164 : decode cX7_determinant 164 = .ok (.iload 9, 2) := by decide +kernel
theorem dX7_determinant_166 : decode cX7_determinant 166 = .ok (.iadd, 1) := by decide +kernel
theorem dX7_determinant_167 : decode cX7_determinant 167 = .ok (.aload_n 0, 1) := by decide +kernel
theorem dX7_determinant_168 : decode cX7_determinant 168 = .ok (.getfield 88, 3) := by decide +kernel
theorem dX7_determinant_171 : decode cX7_determinant 171 = .ok (.iconst 4, 1) := by decide +kernel
theorem dX7_determinant_172 : decode cX7_determinant 172 = .ok (.iload 8, 2) := by decide +kernel
theorem dX7_determinant_174 : decode cX7_determinant 174 = .ok (.imul, 1) := by decide +kernel
theorem dX7_determinant_175 : decode cX7_determinant 175 = .ok (.iload 9, 2) := by decide +kernel
theorem dX7_determinant_177 : decode cX7_determinant 177 = .ok (.iadd, 1) := by decide +kernel
theorem dX7_determinant_178 : decode cX7_determinant 178 = .ok (.laload, 1) := by decide +kernel
theorem dX7_determinant_179 : decode cX7_determinant 179 = .ok (.aload_n 0, 1) := by decide +kernel
theorem dX7_determinant_180 : decode cX7_determinant 180 = .ok (.getfield 88, 3) := by decide +kernel
theorem dX7_determinant_183 : decode cX7_determinant 183 = .ok (.iconst 4, 1) := by decide +kernel
theorem dX7_determinant_184 : decode cX7_determinant 184 = .ok (.iload 6, 2) := by decide +kernel
theorem dX7_determinant_186 : decode cX7_determinant 186 = .ok (.imul, 1) := by decide +kernel
theorem dX7_determinant_187 : decode cX7_determinant 187 = .ok (.iload 6, 2) := by decide +kernel
theorem dX7_determinant_189 : decode cX7_determinant 189 = .ok (.iadd, 1) := by decide +kernel
theorem dX7_determinant_190 : decode cX7_determinant 190 = .ok (.laload, 1) := by decide +kernel
theorem dX7_determinant_191 : decode cX7_determinant 191 = .ok (.lmul, 1) := by decide +kernel
theorem dX7_determinant_192 : decode cX7_determinant 192 = .ok (.aload_n 0, 1) := by decide +kernel
theorem dX7_determinant_193 : decode cX7_determinant 193 = .ok (.getfield 88, 3) := by decide +kernel
theorem dX7_determinant_196 : decode cX7_determinant 196 = .ok (.iconst 4, 1) := by decide +kernel
theorem dX7_determinant_197 : decode cX7_determinant 197 = .ok (.iload 8, 2) := by decide +kernel
theorem dX7_determinant_199 : decode cX7_determinant 199 = .ok (.imul, 1) := by decide +kernel
theorem dX7_determinant_200 : decode cX7_determinant 200 = .ok (.iload 6, 2) := by decide +kernel
theorem dX7_determinant_202 : decode cX7_determinant 202 = .ok (.iadd, 1) := by decide +kernel
theorem dX7_determinant_203 : decode cX7_determinant 203 = .ok (.laload, 1) := by decide +kernel
theorem dX7_determinant_204 : decode cX7_determinant 204 = .ok (.aload_n 0, 1) := by decide +kernel
theorem dX7_determinant_205 : decode cX7_determinant 205 = .ok (.getfield 88, 3) := by decide +kernel
theorem dX7_determinant_208 : decode cX7_determinant 208 = .ok (.iconst 4, 1) := by decide +kernel
theorem dX7_determinant_209 : decode cX7_determinant 209 = .ok (.iload 6, 2) := by decide +kernel
theorem dX7_determinant_211 : decode cX7_determinant 211 = .ok (.imul, 1) := by decide +kernel
theorem dX7_determinant_212 : decode cX7_determinant 212 = .ok (.iload 9, 2) := by decide +kernel
theorem dX7_determinant_214 : decode cX7_determinant 214 = .ok (.iadd, 1) := by decide +kernel
theorem dX7_determinant_215 : decode cX7_determinant 215 = .ok (.laload, 1) := by decide +kernel
theorem dX7_determinant_216 : decode cX7_determinant 216 = .ok (.lmul, 1) := by decide +kernel
theorem dX7_determinant_217 : decode cX7_determinant 217 = .ok (.lsub, 1) := by decide +kernel
theorem dX7_determinant_218 : decode cX7_determinant 218 = .ok (.lload 4, 2) := by decide +kernel
theorem dX7_determinant_220 : decode cX7_determinant 220 = .ok (.ldiv, 1) := by decide +kernel
theorem dX7_determinant_221 : decode cX7_determinant 221 = .ok (.lastore, 1) := by decide +kernel
theorem dX7_determinant_222 : decode cX7_determinant 222 = .ok (.iinc 9 1, 3) := by decide +kernel
theorem dX7_determinant_225 : decode cX7_determinant 225 = .ok (.goto (-75), 3) := by decide +kernel
theorem dX7_determinant_228 : decode cX7_determinant 228 = .ok (.iinc 8 1, 3) := by decide +kernel
theorem dX7_determinant_231 : decode cX7_determinant 231 = .ok (.goto (-93), 3) := by decide +kernel
theorem dX7_determinant_234 : decode cX7_determinant 234 = .ok (.aload_n 0, 1) := by decide +kernel
theorem dX7_determinant_235 : decode cX7_determinant 235 = .ok (.getfield 88, 3) := by decide +kernel
theorem dX7_determinant_238 : decode cX7_determinant 238 = .ok (.iconst 4, 1) := by decide +kernel
theorem dX7_determinant_239 : decode cX7_determinant 239 = .ok (.iload 6, 2) := by decide +kernel
theorem dX7_determinant_241 : decode cX7_determinant 241 = .ok (.imul, 1) := by decide +kernel
theorem dX7_determinant_242 : decode cX7_determinant 242 = .ok (.iload 6, 2) := by decide +kernel
theorem dX7_determinant_244 : decode cX7_determinant 244 = .ok (.iadd, 1) := by decide +kernel
theorem dX7_determinant_245 : decode cX7_determinant 245 = .ok (.laload, 1) := by decide +kernel
theorem dX7_determinant_246 : decode cX7_determinant 246 = .ok (.lstore 4, 2) := by decide +kernel
theorem dX7_determinant_248 : decode cX7_determinant 248 = .ok (.iinc 6 1, 3) := by decide +kernel
theorem dX7_determinant_251 : decode cX7_determinant 251 = .ok (.goto (-243), 3) := by decide +kernel
theorem dX7_determinant_254 : decode cX7_determinant 254 = .ok (.lload_n 2, 1) := by decide +kernel
theorem dX7_determinant_255 : decode cX7_determinant 255 = .ok (.lload 4, 2) := by decide +kernel
theorem dX7_determinant_257 : decode cX7_determinant 257 = .ok (.lmul, 1) := by decide +kernel
theorem dX7_determinant_258 : decode cX7_determinant 258 = .ok (.lreturn, 1) := by decide +kernel
theorem dX7_solved_0 : decode cX7_solved 0 = .ok (.iconst 0, 1) := by decide +kernel
theorem dX7_solved_1 : decode cX7_solved 1 = .ok (.istore_n 3, 1) := by decide +kernel
theorem dX7_solved_2 : decode cX7_solved 2 = .ok (.iload_n 3, 1) := by decide +kernel
theorem dX7_solved_3 : decode cX7_solved 3 = .ok (.iload_n 1, 1) := by decide +kernel
theorem dX7_solved_4 : decode cX7_solved 4 = .ok (.if_icmp .ge 61, 3) := by decide +kernel
theorem dX7_solved_7 : decode cX7_solved 7 = .ok (.iconst 0, 1) := by decide +kernel
theorem dX7_solved_8 : decode cX7_solved 8 = .ok (.istore 4, 2) := by decide +kernel
theorem dX7_solved_10 : decode cX7_solved 10 = .ok (.iload 4, 2) := by decide +kernel
theorem dX7_solved_12 : decode cX7_solved 12 = .ok (.iload_n 1, 1) := by decide +kernel
theorem dX7_solved_13 : decode cX7_solved 13 = .ok (.if_icmp .ge 46, 3) := by decide +kernel
theorem dX7_solved_16 : decode cX7_solved 16 = .ok (.aload_n 0, 1) := by decide +kernel
theorem dX7_solved_17 : decode cX7_solved 17 = .ok (.getfield 88, 3) := by decide +kernel
theorem dX7_solved_20 : decode cX7_solved 20 = .ok (.iconst 4, 1) := by decide +kernel
theorem dX7_solved_21 : decode cX7_solved 21 = .ok (.iload_n 3, 1) := by decide +kernel
theorem dX7_solved_22 : decode cX7_solved 22 = .ok (.imul, 1) := by decide +kernel
theorem dX7_solved_23 : decode cX7_solved 23 = .ok (.iload 4, 2) := by decide +kernel
theorem dX7_solved_25 : decode cX7_solved 25 = .ok (.iadd, 1) := by decide +kernel
theorem dX7_solved_26 : decode cX7_solved 26 = .ok (.iload 4, 2) := by decide +kernel
theorem dX7_solved_28 : decode cX7_solved 28 = .ok (.iload_n 2, 1) := by decide +kernel
theorem dX7_solved_29 : decode cX7_solved 29 = .ok (.if_icmp .ne 12, 3) := by decide +kernel
theorem dX7_solved_32 : decode cX7_solved 32 = .ok (.aload_n 0, 1) := by decide +kernel
theorem dX7_solved_33 : decode cX7_solved 33 = .ok (.getfield 85, 3) := by decide +kernel
theorem dX7_solved_36 : decode cX7_solved 36 = .ok (.iload_n 3, 1) := by decide +kernel
theorem dX7_solved_37 : decode cX7_solved 37 = .ok (.laload, 1) := by decide +kernel
theorem dX7_solved_38 : decode cX7_solved 38 = .ok (.goto 14, 3) := by decide +kernel
theorem dX7_solved_41 : decode cX7_solved 41 = .ok (.aload_n 0, 1) := by decide +kernel
theorem dX7_solved_42 : decode cX7_solved 42 = .ok (.getfield 82, 3) := by decide +kernel
theorem dX7_solved_45 : decode cX7_solved 45 = .ok (.iconst 4, 1) := by decide +kernel
theorem dX7_solved_46 : decode cX7_solved 46 = .ok (.iload_n 3, 1) := by decide +kernel
theorem dX7_solved_47 : decode cX7_solved 47 = .ok (.imul, 1) := by decide +kernel
theorem dX7_solved_48 : decode cX7_solved 48 = .ok (.iload 4, 2) := by decide +kernel
theorem dX7_solved_50 : decode cX7_solved 50 = .ok (.iadd, 1) := by decide +kernel
theorem dX7_solved_51 : decode cX7_solved 51 = .ok (.laload, 1) := by decide +kernel
theorem dX7_solved_52 : decode cX7_solved 52 = .ok (.lastore, 1) := by decide +kernel
theorem dX7_solved_53 : decode cX7_solved 53 = .ok (.iinc 4 1, 3) := by decide +kernel
theorem dX7_solved_56 : decode cX7_solved 56 = .ok (.goto (-46), 3) := by decide +kernel
theorem dX7_solved_59 : decode cX7_solved 59 = .ok (.iinc 3 1, 3) := by decide +kernel
theorem dX7_solved_62 : decode cX7_solved 62 = .ok (.goto (-60), 3) := by decide +kernel
theorem dX7_solved_65 : decode cX7_solved 65 = .ok (.iload_n 1, 1) := by decide +kernel
theorem dX7_solved_66 : decode cX7_solved 66 = .ok (.ifCond .ne 7, 3) := by decide +kernel
theorem dX7_solved_69 : decode cX7_solved 69 = .ok (.lconst 1, 1) := by decide +kernel
theorem dX7_solved_70 : decode cX7_solved 70 = .ok (.goto 8, 3) := by decide +kernel
theorem dX7_solved_73 : decode cX7_solved 73 = .ok (.aload_n 0, 1) := by decide +kernel
theorem dX7_solved_74 : decode cX7_solved 74 = .ok (.iload_n 1, 1) := by decide +kernel
theorem dX7_solved_75 : decode cX7_solved 75 = .ok (.invokevirtual 199, 3) := by decide +kernel
theorem dX7_solved_78 : decode cX7_solved 78 = .ok (.lreturn, 1) := by decide +kernel
theorem dX7_holds_0 : decode cX7_holds 0 = .ok (.iconst 1, 1) := by decide +kernel
theorem dX7_holds_1 : decode cX7_holds 1 = .ok (.istore_n 1, 1) := by decide +kernel
theorem dX7_holds_2 : decode cX7_holds 2 = .ok (.iconst 0, 1) := by decide +kernel
theorem dX7_holds_3 : decode cX7_holds 3 = .ok (.istore_n 2, 1) := by decide +kernel
theorem dX7_holds_4 : decode cX7_holds 4 = .ok (.iload_n 2, 1) := by decide +kernel
theorem dX7_holds_5 : decode cX7_holds 5 = .ok (.aload_n 0, 1) := by decide +kernel
theorem dX7_holds_6 : decode cX7_holds 6 = .ok (.getfield 185, 3) := by decide +kernel
theorem dX7_holds_9 : decode cX7_holds 9 = .ok (.if_icmp .ge 44, 3) := by decide +kernel
theorem dX7_holds_12 : decode cX7_holds 12 = .ok (.iload_n 1, 1) := by decide +kernel
theorem dX7_holds_13 : decode cX7_holds 13 = .ok (.ifCond .eq 32, 3) := by decide +kernel
theorem dX7_holds_16 : decode cX7_holds 16 = .ok (.aload_n 0, 1) := by decide +kernel
theorem dX7_holds_17 : decode cX7_holds 17 = .ok (.getfield 72, 3) := by decide +kernel
theorem dX7_holds_20 : decode cX7_holds 20 = .ok (.iload_n 2, 1) := by decide +kernel
theorem dX7_holds_21 : decode cX7_holds 21 = .ok (.laload, 1) := by decide +kernel
theorem dX7_holds_22 : decode cX7_holds 22 = .ok (.lconst 0, 1) := by decide +kernel
theorem dX7_holds_23 : decode cX7_holds 23 = .ok (.aload_n 0, 1) := by decide +kernel
theorem dX7_holds_24 : decode cX7_holds 24 = .ok (.getfield 33, 3) := by decide +kernel
theorem dX7_holds_27 : decode cX7_holds 27 = .ok (.iload_n 2, 1) := by decide +kernel
theorem dX7_holds_28 : decode cX7_holds 28 = .ok (.iaload, 1) := by decide +kernel
theorem dX7_holds_29 : decode cX7_holds 29 = .ok (.i2l, 1) := by decide +kernel
theorem dX7_holds_30 : decode cX7_holds 30 = .ok (.aload_n 0, 1) := by decide +kernel
theorem dX7_holds_31 : decode cX7_holds 31 = .ok (.getfield 203, 3) := by decide +kernel
theorem dX7_holds_34 : decode cX7_holds 34 = .ok (.lmul, 1) := by decide +kernel
theorem dX7_holds_35 : decode cX7_holds 35 = .ok (.invokestatic 102, 3) := by decide +kernel
theorem dX7_holds_38 : decode cX7_holds 38 = .ok (.ifCond .eq 7, 3) := by decide +kernel
theorem dX7_holds_41 : decode cX7_holds 41 = .ok (.iconst 1, 1) := by decide +kernel
theorem dX7_holds_42 : decode cX7_holds 42 = .ok (.goto 4, 3) := by decide +kernel
theorem dX7_holds_45 : decode cX7_holds 45 = .ok (.iconst 0, 1) := by decide +kernel
theorem dX7_holds_46 : decode cX7_holds 46 = .ok (.istore_n 1, 1) := by decide +kernel
theorem dX7_holds_47 : decode cX7_holds 47 = .ok (.iinc 2 1, 3) := by decide +kernel
theorem dX7_holds_50 : decode cX7_holds 50 = .ok (.goto (-46), 3) := by decide +kernel
theorem dX7_holds_53 : decode cX7_holds 53 = .ok (.iconst 0, 1) := by decide +kernel
theorem dX7_holds_54 : decode cX7_holds 54 = .ok (.istore_n 2, 1) := by decide +kernel
theorem dX7_holds_55 : decode cX7_holds 55 = .ok (.iload_n 2, 1) := by decide +kernel
theorem dX7_holds_56 : decode cX7_holds 56 = .ok (.aload_n 0, 1) := by decide +kernel
theorem dX7_holds_57 : decode cX7_holds 57 = .ok (.getfield 182, 3) := by decide +kernel
theorem dX7_holds_60 : decode cX7_holds 60 = .ok (.if_icmp .ge 118, 3) := by decide +kernel
theorem dX7_holds_63 : decode cX7_holds 63 = .ok (.iload_n 1, 1) := by decide +kernel
theorem dX7_holds_64 : decode cX7_holds 64 = .ok (.ifCond .eq 114, 3) := by decide +kernel
theorem dX7_holds_67 : decode cX7_holds 67 = .ok (.lconst 0, 1) := by decide +kernel
theorem dX7_holds_68 : decode cX7_holds 68 = .ok (.lstore_n 3, 1) := by decide +kernel
theorem dX7_holds_69 : decode cX7_holds 69 = .ok (.iconst 0, 1) := by decide +kernel
theorem dX7_holds_70 : decode cX7_holds 70 = .ok (.istore 5, 2) := by decide +kernel
theorem dX7_holds_72 : decode cX7_holds 72 = .ok (.iload 5, 2) := by decide +kernel
theorem dX7_holds_74 : decode cX7_holds 74 = .ok (.aload_n 0, 1) := by decide +kernel
theorem dX7_holds_75 : decode cX7_holds 75 = .ok (.getfield 185, 3) := by decide +kernel
theorem dX7_holds_78 : decode cX7_holds 78 = .ok (.if_icmp .ge 32, 3) := by decide +kernel
theorem dX7_holds_81 : decode cX7_holds 81 = .ok (.lload_n 3, 1) := by decide +kernel
theorem dX7_holds_82 : decode cX7_holds 82 = .ok (.aload_n 0, 1) := by decide +kernel
theorem dX7_holds_83 : decode cX7_holds 83 = .ok (.getfield 39, 3) := by decide +kernel
theorem dX7_holds_86 : decode cX7_holds 86 = .ok (.iconst 5, 1) := by decide +kernel
theorem dX7_holds_87 : decode cX7_holds 87 = .ok (.iload 5, 2) := by decide +kernel
theorem dX7_holds_89 : decode cX7_holds 89 = .ok (.imul, 1) := by decide +kernel
theorem dX7_holds_90 : decode cX7_holds 90 = .ok (.iload_n 2, 1) := by decide +kernel
theorem dX7_holds_91 : decode cX7_holds 91 = .ok (.iadd, 1) := by decide +kernel
theorem dX7_holds_92 : decode cX7_holds 92 = .ok (.iaload, 1) := by decide +kernel
theorem dX7_holds_93 : decode cX7_holds 93 = .ok (.i2l, 1) := by decide +kernel
theorem dX7_holds_94 : decode cX7_holds 94 = .ok (.aload_n 0, 1) := by decide +kernel
theorem dX7_holds_95 : decode cX7_holds 95 = .ok (.getfield 72, 3) := by decide +kernel
theorem dX7_holds_98 : decode cX7_holds 98 = .ok (.iload 5, 2) := by decide +kernel
theorem dX7_holds_100 : decode cX7_holds 100 = .ok (.laload, 1) := by decide +kernel
theorem dX7_holds_101 : decode cX7_holds 101 = .ok (.lmul, 1) := by decide +kernel
theorem dX7_holds_102 : decode cX7_holds 102 = .ok (.ladd, 1) := by decide +kernel
theorem dX7_holds_103 : decode cX7_holds 103 = .ok (.lstore_n 3, 1) := by decide +kernel
theorem dX7_holds_104 : decode cX7_holds 104 = .ok (.iinc 5 1, 3) := by decide +kernel
theorem dX7_holds_107 : decode cX7_holds 107 = .ok (.goto (-35), 3) := by decide +kernel
theorem dX7_holds_110 : decode cX7_holds 110 = .ok (.aload_n 0, 1) := by decide +kernel
theorem dX7_holds_111 : decode cX7_holds 111 = .ok (.getfield 23, 3) := by decide +kernel
theorem dX7_holds_114 : decode cX7_holds 114 = .ok (.iload_n 2, 1) := by decide +kernel
theorem dX7_holds_115 : decode cX7_holds 115 = .ok (.baload, 1) := by decide +kernel
theorem dX7_holds_116 : decode cX7_holds 116 = .ok (.ifCond .ne 50, 3) := by decide +kernel
theorem dX7_holds_119 : decode cX7_holds 119 = .ok (.aload_n 0, 1) := by decide +kernel
theorem dX7_holds_120 : decode cX7_holds 120 = .ok (.getfield 17, 3) := by decide +kernel
theorem dX7_holds_123 : decode cX7_holds 123 = .ok (.iload_n 2, 1) := by decide +kernel
theorem dX7_holds_124 : decode cX7_holds 124 = .ok (.iaload, 1) := by decide +kernel
theorem dX7_holds_125 : decode cX7_holds 125 = .ok (.iconst 1, 1) := by decide +kernel
theorem dX7_holds_126 : decode cX7_holds 126 = .ok (.if_icmp .ne 23, 3) := by decide +kernel
theorem dX7_holds_129 : decode cX7_holds 129 = .ok (.lload_n 3, 1) := by decide +kernel
theorem dX7_holds_130 : decode cX7_holds 130 = .ok (.aload_n 0, 1) := by decide +kernel
theorem dX7_holds_131 : decode cX7_holds 131 = .ok (.getfield 20, 3) := by decide +kernel
theorem dX7_holds_134 : decode cX7_holds 134 = .ok (.iload_n 2, 1) := by decide +kernel
theorem dX7_holds_135 : decode cX7_holds 135 = .ok (.iaload, 1) := by decide +kernel
theorem dX7_holds_136 : decode cX7_holds 136 = .ok (.i2l, 1) := by decide +kernel
theorem dX7_holds_137 : decode cX7_holds 137 = .ok (.aload_n 0, 1) := by decide +kernel
theorem dX7_holds_138 : decode cX7_holds 138 = .ok (.getfield 203, 3) := by decide +kernel
theorem dX7_holds_141 : decode cX7_holds 141 = .ok (.lmul, 1) := by decide +kernel
theorem dX7_holds_142 : decode cX7_holds 142 = .ok (.lcmp, 1) := by decide +kernel
theorem dX7_holds_143 : decode cX7_holds 143 = .ok (.ifCond .lt 27, 3) := by decide +kernel
theorem dX7_holds_146 : decode cX7_holds 146 = .ok (.goto 20, 3) := by decide +kernel
theorem dX7_holds_149 : decode cX7_holds 149 = .ok (.lload_n 3, 1) := by decide +kernel
theorem dX7_holds_150 : decode cX7_holds 150 = .ok (.aload_n 0, 1) := by decide +kernel
theorem dX7_holds_151 : decode cX7_holds 151 = .ok (.getfield 20, 3) := by decide +kernel
theorem dX7_holds_154 : decode cX7_holds 154 = .ok (.iload_n 2, 1) := by decide +kernel
theorem dX7_holds_155 : decode cX7_holds 155 = .ok (.iaload, 1) := by decide +kernel
theorem dX7_holds_156 : decode cX7_holds 156 = .ok (.i2l, 1) := by decide +kernel
theorem dX7_holds_157 : decode cX7_holds 157 = .ok (.aload_n 0, 1) := by decide +kernel
theorem dX7_holds_158 : decode cX7_holds 158 = .ok (.getfield 203, 3) := by decide +kernel
theorem dX7_holds_161 : decode cX7_holds 161 = .ok (.lmul, 1) := by decide +kernel
theorem dX7_holds_162 : decode cX7_holds 162 = .ok (.lcmp, 1) := by decide +kernel
theorem dX7_holds_163 : decode cX7_holds 163 = .ok (.ifCond .gt 7, 3) := by decide +kernel
theorem dX7_holds_166 : decode cX7_holds 166 = .ok (.iconst 1, 1) := by decide +kernel
theorem dX7_holds_167 : decode cX7_holds 167 = .ok (.goto 4, 3) := by decide +kernel
theorem dX7_holds_170 : decode cX7_holds 170 = .ok (.iconst 0, 1) := by decide +kernel
theorem dX7_holds_171 : decode cX7_holds 171 = .ok (.istore_n 1, 1) := by decide +kernel
theorem dX7_holds_172 : decode cX7_holds 172 = .ok (.iinc 2 1, 3) := by decide +kernel
theorem dX7_holds_175 : decode cX7_holds 175 = .ok (.goto (-120), 3) := by decide +kernel
theorem dX7_holds_178 : decode cX7_holds 178 = .ok (.iload_n 1, 1) := by decide +kernel
theorem dX7_holds_179 : decode cX7_holds 179 = .ok (.ireturn, 1) := by decide +kernel
theorem dX7_compare_0 : decode cX7_compare 0 = .ok (.lconst 0, 1) := by decide +kernel
theorem dX7_compare_1 : decode cX7_compare 1 = .ok (.lstore_n 1, 1) := by decide +kernel
theorem dX7_compare_2 : decode cX7_compare 2 = .ok (.iconst 0, 1) := by decide +kernel
theorem dX7_compare_3 : decode cX7_compare 3 = .ok (.istore_n 3, 1) := by decide +kernel
theorem dX7_compare_4 : decode cX7_compare 4 = .ok (.iload_n 3, 1) := by decide +kernel
theorem dX7_compare_5 : decode cX7_compare 5 = .ok (.aload_n 0, 1) := by decide +kernel
theorem dX7_compare_6 : decode cX7_compare 6 = .ok (.getfield 185, 3) := by decide +kernel
theorem dX7_compare_9 : decode cX7_compare 9 = .ok (.if_icmp .ge 26, 3) := by decide +kernel
theorem dX7_compare_12 : decode cX7_compare 12 = .ok (.lload_n 1, 1) := by decide +kernel
theorem dX7_compare_13 : decode cX7_compare 13 = .ok (.aload_n 0, 1) := by decide +kernel
theorem dX7_compare_14 : decode cX7_compare 14 = .ok (.getfield 27, 3) := by decide +kernel
theorem dX7_compare_17 : decode cX7_compare 17 = .ok (.iload_n 3, 1) := by decide +kernel
theorem dX7_compare_18 : decode cX7_compare 18 = .ok (.iaload, 1) := by decide +kernel
theorem dX7_compare_19 : decode cX7_compare 19 = .ok (.i2l, 1) := by decide +kernel
theorem dX7_compare_20 : decode cX7_compare 20 = .ok (.aload_n 0, 1) := by decide +kernel
theorem dX7_compare_21 : decode cX7_compare 21 = .ok (.getfield 72, 3) := by decide +kernel
theorem dX7_compare_24 : decode cX7_compare 24 = .ok (.iload_n 3, 1) := by decide +kernel
theorem dX7_compare_25 : decode cX7_compare 25 = .ok (.laload, 1) := by decide +kernel
theorem dX7_compare_26 : decode cX7_compare 26 = .ok (.lmul, 1) := by decide +kernel
theorem dX7_compare_27 : decode cX7_compare 27 = .ok (.ladd, 1) := by decide +kernel
theorem dX7_compare_28 : decode cX7_compare 28 = .ok (.lstore_n 1, 1) := by decide +kernel
theorem dX7_compare_29 : decode cX7_compare 29 = .ok (.iinc 3 1, 3) := by decide +kernel
theorem dX7_compare_32 : decode cX7_compare 32 = .ok (.goto (-28), 3) := by decide +kernel
theorem dX7_compare_35 : decode cX7_compare 35 = .ok (.aload_n 0, 1) := by decide +kernel
theorem dX7_compare_36 : decode cX7_compare 36 = .ok (.getfield 207, 3) := by decide +kernel
theorem dX7_compare_39 : decode cX7_compare 39 = .ok (.ifCond .eq 22, 3) := by decide +kernel
theorem dX7_compare_42 : decode cX7_compare 42 = .ok (.lload_n 1, 1) := by decide +kernel
theorem dX7_compare_43 : decode cX7_compare 43 = .ok (.aload_n 0, 1) := by decide +kernel
theorem dX7_compare_44 : decode cX7_compare 44 = .ok (.getfield 211, 3) := by decide +kernel
theorem dX7_compare_47 : decode cX7_compare 47 = .ok (.lmul, 1) := by decide +kernel
theorem dX7_compare_48 : decode cX7_compare 48 = .ok (.aload_n 0, 1) := by decide +kernel
theorem dX7_compare_49 : decode cX7_compare 49 = .ok (.getfield 214, 3) := by decide +kernel
theorem dX7_compare_52 : decode cX7_compare 52 = .ok (.aload_n 0, 1) := by decide +kernel
theorem dX7_compare_53 : decode cX7_compare 53 = .ok (.getfield 203, 3) := by decide +kernel
theorem dX7_compare_56 : decode cX7_compare 56 = .ok (.lmul, 1) := by decide +kernel
theorem dX7_compare_57 : decode cX7_compare 57 = .ok (.lcmp, 1) := by decide +kernel
theorem dX7_compare_58 : decode cX7_compare 58 = .ok (.ifCond .le 7, 3) := by decide +kernel
theorem dX7_compare_61 : decode cX7_compare 61 = .ok (.iconst 1, 1) := by decide +kernel
theorem dX7_compare_62 : decode cX7_compare 62 = .ok (.goto 4, 3) := by decide +kernel
theorem dX7_compare_65 : decode cX7_compare 65 = .ok (.iconst 0, 1) := by decide +kernel
theorem dX7_compare_66 : decode cX7_compare 66 = .ok (.istore_n 3, 1) := by decide +kernel
theorem dX7_compare_67 : decode cX7_compare 67 = .ok (.aload_n 0, 1) := by decide +kernel
theorem dX7_compare_68 : decode cX7_compare 68 = .ok (.getfield 207, 3) := by decide +kernel
theorem dX7_compare_71 : decode cX7_compare 71 = .ok (.ifCond .eq 92, 3) := by decide +kernel
theorem dX7_compare_74 : decode cX7_compare 74 = .ok (.lload_n 1, 1) := by decide +kernel
theorem dX7_compare_75 : decode cX7_compare 75 = .ok (.aload_n 0, 1) := by decide +kernel
theorem dX7_compare_76 : decode cX7_compare 76 = .ok (.getfield 211, 3) := by decide +kernel
theorem dX7_compare_79 : decode cX7_compare 79 = .ok (.lmul, 1) := by decide +kernel
theorem dX7_compare_80 : decode cX7_compare 80 = .ok (.aload_n 0, 1) := by decide +kernel
theorem dX7_compare_81 : decode cX7_compare 81 = .ok (.getfield 214, 3) := by decide +kernel
theorem dX7_compare_84 : decode cX7_compare 84 = .ok (.aload_n 0, 1) := by decide +kernel
theorem dX7_compare_85 : decode cX7_compare 85 = .ok (.getfield 203, 3) := by decide +kernel
theorem dX7_compare_88 : decode cX7_compare 88 = .ok (.lmul, 1) := by decide +kernel
theorem dX7_compare_89 : decode cX7_compare 89 = .ok (.lcmp, 1) := by decide +kernel
theorem dX7_compare_90 : decode cX7_compare 90 = .ok (.ifCond .ne 73, 3) := by decide +kernel
theorem dX7_compare_93 : decode cX7_compare 93 = .ok (.aload_n 0, 1) := by decide +kernel
theorem dX7_compare_94 : decode cX7_compare 94 = .ok (.getfield 185, 3) := by decide +kernel
theorem dX7_compare_97 : decode cX7_compare 97 = .ok (.iconst 1, 1) := by decide +kernel
theorem dX7_compare_98 : decode cX7_compare 98 = .ok (.isub, 1) := by decide +kernel
theorem dX7_compare_99 : decode cX7_compare 99 = .ok (.istore 4, 2) := by decide +kernel
theorem dX7_compare_101 : decode cX7_compare 101 = .ok (.iload 4, 2) := by decide +kernel
theorem dX7_compare_103 : decode cX7_compare 103 = .ok (.ifCond .lt 60, 3) := by decide +kernel
theorem dX7_compare_106 : decode cX7_compare 106 = .ok (.aload_n 0, 1) := by decide +kernel
theorem dX7_compare_107 : decode cX7_compare 107 = .ok (.getfield 72, 3) := by decide +kernel
theorem dX7_compare_110 : decode cX7_compare 110 = .ok (.iload 4, 2) := by decide +kernel
theorem dX7_compare_112 : decode cX7_compare 112 = .ok (.laload, 1) := by decide +kernel
theorem dX7_compare_113 : decode cX7_compare 113 = .ok (.aload_n 0, 1) := by decide +kernel
theorem dX7_compare_114 : decode cX7_compare 114 = .ok (.getfield 211, 3) := by decide +kernel
theorem dX7_compare_117 : decode cX7_compare 117 = .ok (.lmul, 1) := by decide +kernel
theorem dX7_compare_118 : decode cX7_compare 118 = .ok (.aload_n 0, 1) := by decide +kernel
theorem dX7_compare_119 : decode cX7_compare 119 = .ok (.getfield 76, 3) := by decide +kernel
theorem dX7_compare_122 : decode cX7_compare 122 = .ok (.iload 4, 2) := by decide +kernel
theorem dX7_compare_124 : decode cX7_compare 124 = .ok (.laload, 1) := by decide +kernel
theorem dX7_compare_125 : decode cX7_compare 125 = .ok (.aload_n 0, 1) := by decide +kernel
theorem dX7_compare_126 : decode cX7_compare 126 = .ok (.getfield 203, 3) := by decide +kernel
theorem dX7_compare_129 : decode cX7_compare 129 = .ok (.lmul, 1) := by decide +kernel
theorem dX7_compare_130 : decode cX7_compare 130 = .ok (.lsub, 1) := by decide +kernel
theorem dX7_compare_131 : decode cX7_compare 131 = .ok (.lstore 5, 2) := by decide +kernel
theorem dX7_compare_133 : decode cX7_compare 133 = .ok (.lload 5, 2) := by decide +kernel
theorem dX7_compare_135 : decode cX7_compare 135 = .ok (.lconst 0, 1) := by decide +kernel
theorem dX7_compare_136 : decode cX7_compare 136 = .ok (.lcmp, 1) := by decide +kernel
theorem dX7_compare_137 : decode cX7_compare 137 = .ok (.ifCond .ne 7, 3) := by decide +kernel
theorem dX7_compare_140 : decode cX7_compare 140 = .ok (.iload_n 3, 1) := by decide +kernel
theorem dX7_compare_141 : decode cX7_compare 141 = .ok (.goto 15, 3) := by decide +kernel
theorem dX7_compare_144 : decode cX7_compare 144 = .ok (.lload 5, 2) := by decide +kernel
theorem dX7_compare_146 : decode cX7_compare 146 = .ok (.lconst 0, 1) := by decide +kernel
theorem dX7_compare_147 : decode cX7_compare 147 = .ok (.lcmp, 1) := by decide +kernel
theorem dX7_compare_148 : decode cX7_compare 148 = .ok (.ifCond .ge 7, 3) := by decide +kernel
theorem dX7_compare_151 : decode cX7_compare 151 = .ok (.iconst 1, 1) := by decide +kernel
theorem dX7_compare_152 : decode cX7_compare 152 = .ok (.goto 4, 3) := by decide +kernel
theorem dX7_compare_155 : decode cX7_compare 155 = .ok (.iconst 0, 1) := by decide +kernel
theorem dX7_compare_156 : decode cX7_compare 156 = .ok (.istore_n 3, 1) := by decide +kernel
theorem dX7_compare_157 : decode cX7_compare 157 = .ok (.iinc 4 (-1), 3) := by decide +kernel
theorem dX7_compare_160 : decode cX7_compare 160 = .ok (.goto (-59), 3) := by decide +kernel
theorem dX7_compare_163 : decode cX7_compare 163 = .ok (.iload_n 3, 1) := by decide +kernel
theorem dX7_compare_164 : decode cX7_compare 164 = .ok (.ifCond .eq 53, 3) := by decide +kernel
theorem dX7_compare_167 : decode cX7_compare 167 = .ok (.aload_n 0, 1) := by decide +kernel
theorem dX7_compare_168 : decode cX7_compare 168 = .ok (.iconst 1, 1) := by decide +kernel
theorem dX7_compare_169 : decode cX7_compare 169 = .ok (.putfield 207, 3) := by decide +kernel
theorem dX7_compare_172 : decode cX7_compare 172 = .ok (.aload_n 0, 1) := by decide +kernel
theorem dX7_compare_173 : decode cX7_compare 173 = .ok (.lload_n 1, 1) := by decide +kernel
theorem dX7_compare_174 : decode cX7_compare 174 = .ok (.putfield 214, 3) := by decide +kernel
theorem dX7_compare_177 : decode cX7_compare 177 = .ok (.aload_n 0, 1) := by decide +kernel
theorem dX7_compare_178 : decode cX7_compare 178 = .ok (.aload_n 0, 1) := by decide +kernel
theorem dX7_compare_179 : decode cX7_compare 179 = .ok (.getfield 203, 3) := by decide +kernel
theorem dX7_compare_182 : decode cX7_compare 182 = .ok (.putfield 211, 3) := by decide +kernel
theorem dX7_compare_185 : decode cX7_compare 185 = .ok (.iconst 0, 1) := by decide +kernel
theorem dX7_compare_186 : decode cX7_compare 186 = .ok (.istore 4, 2) := by decide +kernel
theorem dX7_compare_188 : decode cX7_compare 188 = .ok (.iload 4, 2) := by decide +kernel
theorem dX7_compare_190 : decode cX7_compare 190 = .ok (.aload_n 0, 1) := by decide +kernel
theorem dX7_compare_191 : decode cX7_compare 191 = .ok (.getfield 185, 3) := by decide +kernel
theorem dX7_compare_194 : decode cX7_compare 194 = .ok (.if_icmp .ge 23, 3) := by decide +kernel
theorem dX7_compare_197 : decode cX7_compare 197 = .ok (.aload_n 0, 1) := by decide +kernel
theorem dX7_compare_198 : decode cX7_compare 198 = .ok (.getfield 76, 3) := by decide +kernel
theorem dX7_compare_201 : decode cX7_compare 201 = .ok (.iload 4, 2) := by decide +kernel
theorem dX7_compare_203 : decode cX7_compare 203 = .ok (.aload_n 0, 1) := by decide +kernel
theorem dX7_compare_204 : decode cX7_compare 204 = .ok (.getfield 72, 3) := by decide +kernel
theorem dX7_compare_207 : decode cX7_compare 207 = .ok (.iload 4, 2) := by decide +kernel
theorem dX7_compare_209 : decode cX7_compare 209 = .ok (.laload, 1) := by decide +kernel
theorem dX7_compare_210 : decode cX7_compare 210 = .ok (.lastore, 1) := by decide +kernel
theorem dX7_compare_211 : decode cX7_compare 211 = .ok (.iinc 4 1, 3) := by decide +kernel
theorem dX7_compare_214 : decode cX7_compare 214 = .ok (.goto (-26), 3) := by decide +kernel
theorem dX7_compare_217 : decode cX7_compare 217 = .ok (.return_, 1) := by decide +kernel
theorem dX7_put_0 : decode cX7_put 0 = .ok (.iload_n 2, 1) := by decide +kernel
theorem dX7_put_1 : decode cX7_put 1 = .ok (.aload_n 0, 1) := by decide +kernel
theorem dX7_put_2 : decode cX7_put 2 = .ok (.getfield 182, 3) := by decide +kernel
theorem dX7_put_5 : decode cX7_put 5 = .ok (.if_icmp .ge 104, 3) := by decide +kernel
theorem dX7_put_8 : decode cX7_put 8 = .ok (.aload_n 0, 1) := by decide +kernel
theorem dX7_put_9 : decode cX7_put 9 = .ok (.getfield 85, 3) := by decide +kernel
theorem dX7_put_12 : decode cX7_put 12 = .ok (.iload_n 1, 1) := by decide +kernel
theorem dX7_put_13 : decode cX7_put 13 = .ok (.aload_n 0, 1) := by decide +kernel
theorem dX7_put_14 : decode cX7_put 14 = .ok (.getfield 20, 3) := by decide +kernel
theorem dX7_put_17 : decode cX7_put 17 = .ok (.iload_n 2, 1) := by decide +kernel
theorem dX7_put_18 : decode cX7_put 18 = .ok (.iaload, 1) := by decide +kernel
theorem dX7_put_19 : decode cX7_put 19 = .ok (.i2l, 1) := by decide +kernel
theorem dX7_put_20 : decode cX7_put 20 = .ok (.lastore, 1) := by decide +kernel
theorem dX7_put_21 : decode cX7_put 21 = .ok (.iconst 0, 1) := by decide +kernel
theorem dX7_put_22 : decode cX7_put 22 = .ok (.istore_n 3, 1) := by decide +kernel
theorem dX7_put_23 : decode cX7_put 23 = .ok (.iload_n 3, 1) := by decide +kernel
theorem dX7_put_24 : decode cX7_put 24 = .ok (.aload_n 0, 1) := by decide +kernel
theorem dX7_put_25 : decode cX7_put 25 = .ok (.getfield 185, 3) := by decide +kernel
theorem dX7_put_28 : decode cX7_put 28 = .ok (.if_icmp .ge 36, 3) := by decide +kernel
theorem dX7_put_31 : decode cX7_put 31 = .ok (.aload_n 0, 1) := by decide +kernel
theorem dX7_put_32 : decode cX7_put 32 = .ok (.getfield 85, 3) := by decide +kernel
theorem dX7_put_35 : decode cX7_put 35 = .ok (.iload_n 1, 1) := by decide +kernel
theorem dX7_put_36 : decode cX7_put 36 = .ok (.dup2, 1) := by decide +kernel
theorem dX7_put_37 : decode cX7_put 37 = .ok (.laload, 1) := by decide +kernel
theorem dX7_put_38 : decode cX7_put 38 = .ok (.aload_n 0, 1) := by decide +kernel
theorem dX7_put_39 : decode cX7_put 39 = .ok (.getfield 39, 3) := by decide +kernel
theorem dX7_put_42 : decode cX7_put 42 = .ok (.iconst 5, 1) := by decide +kernel
theorem dX7_put_43 : decode cX7_put 43 = .ok (.iload_n 3, 1) := by decide +kernel
theorem dX7_put_44 : decode cX7_put 44 = .ok (.imul, 1) := by decide +kernel
theorem dX7_put_45 : decode cX7_put 45 = .ok (.iload_n 2, 1) := by decide +kernel
theorem dX7_put_46 : decode cX7_put 46 = .ok (.iadd, 1) := by decide +kernel
theorem dX7_put_47 : decode cX7_put 47 = .ok (.iaload, 1) := by decide +kernel
theorem dX7_put_48 : decode cX7_put 48 = .ok (.i2l, 1) := by decide +kernel
theorem dX7_put_49 : decode cX7_put 49 = .ok (.aload_n 0, 1) := by decide +kernel
theorem dX7_put_50 : decode cX7_put 50 = .ok (.getfield 91, 3) := by decide +kernel
theorem dX7_put_53 : decode cX7_put 53 = .ok (.iload_n 3, 1) := by decide +kernel
theorem dX7_put_54 : decode cX7_put 54 = .ok (.laload, 1) := by decide +kernel
theorem dX7_put_55 : decode cX7_put 55 = .ok (.lmul, 1) := by decide +kernel
theorem dX7_put_56 : decode cX7_put 56 = .ok (.lsub, 1) := by decide +kernel
theorem dX7_put_57 : decode cX7_put 57 = .ok (.lastore, 1) := by decide +kernel
theorem dX7_put_58 : decode cX7_put 58 = .ok (.iinc 3 1, 3) := by decide +kernel
theorem dX7_put_61 : decode cX7_put 61 = .ok (.goto (-38), 3) := by decide +kernel
theorem dX7_put_64 : decode cX7_put 64 = .ok (.iconst 0, 1) := by decide +kernel
theorem dX7_put_65 : decode cX7_put 65 = .ok (.istore_n 3, 1) := by decide +kernel
theorem dX7_put_66 : decode cX7_put 66 = .ok (.iload_n 3, 1) := by decide +kernel
theorem dX7_put_67 : decode cX7_put 67 = .ok (.aload_n 0, 1) := by decide +kernel
theorem dX7_put_68 : decode cX7_put 68 = .ok (.getfield 217, 3) := by decide +kernel
theorem dX7_put_71 : decode cX7_put 71 = .ok (.if_icmp .ge 35, 3) := by decide +kernel
theorem dX7_put_74 : decode cX7_put 74 = .ok (.aload_n 0, 1) := by decide +kernel
theorem dX7_put_75 : decode cX7_put 75 = .ok (.getfield 82, 3) := by decide +kernel
theorem dX7_put_78 : decode cX7_put 78 = .ok (.iconst 4, 1) := by decide +kernel
theorem dX7_put_79 : decode cX7_put 79 = .ok (.iload_n 1, 1) := by decide +kernel
theorem dX7_put_80 : decode cX7_put 80 = .ok (.imul, 1) := by decide +kernel
theorem dX7_put_81 : decode cX7_put 81 = .ok (.iload_n 3, 1) := by decide +kernel
theorem dX7_put_82 : decode cX7_put 82 = .ok (.iadd, 1) := by decide +kernel
theorem dX7_put_83 : decode cX7_put 83 = .ok (.aload_n 0, 1) := by decide +kernel
theorem dX7_put_84 : decode cX7_put 84 = .ok (.getfield 39, 3) := by decide +kernel
theorem dX7_put_87 : decode cX7_put 87 = .ok (.iconst 5, 1) := by decide +kernel
theorem dX7_put_88 : decode cX7_put 88 = .ok (.aload_n 0, 1) := by decide +kernel
theorem dX7_put_89 : decode cX7_put 89 = .ok (.getfield 79, 3) := by decide +kernel
theorem dX7_put_92 : decode cX7_put 92 = .ok (.iload_n 3, 1) := by decide +kernel
theorem dX7_put_93 : decode cX7_put 93 = .ok (.iaload, 1) := by decide +kernel
theorem dX7_put_94 : decode cX7_put 94 = .ok (.imul, 1) := by decide +kernel
theorem dX7_put_95 : decode cX7_put 95 = .ok (.iload_n 2, 1) := by decide +kernel
theorem dX7_put_96 : decode cX7_put 96 = .ok (.iadd, 1) := by decide +kernel
theorem dX7_put_97 : decode cX7_put 97 = .ok (.iaload, 1) := by decide +kernel
theorem dX7_put_98 : decode cX7_put 98 = .ok (.i2l, 1) := by decide +kernel
theorem dX7_put_99 : decode cX7_put 99 = .ok (.lastore, 1) := by decide +kernel
theorem dX7_put_100 : decode cX7_put 100 = .ok (.iinc 3 1, 3) := by decide +kernel
theorem dX7_put_103 : decode cX7_put 103 = .ok (.goto (-37), 3) := by decide +kernel
theorem dX7_put_106 : decode cX7_put 106 = .ok (.goto 85, 3) := by decide +kernel
theorem dX7_put_109 : decode cX7_put 109 = .ok (.iload_n 2, 1) := by decide +kernel
theorem dX7_put_110 : decode cX7_put 110 = .ok (.aload_n 0, 1) := by decide +kernel
theorem dX7_put_111 : decode cX7_put 111 = .ok (.getfield 182, 3) := by decide +kernel
theorem dX7_put_114 : decode cX7_put 114 = .ok (.isub, 1) := by decide +kernel
theorem dX7_put_115 : decode cX7_put 115 = .ok (.iconst 2, 1) := by decide +kernel
theorem dX7_put_116 : decode cX7_put 116 = .ok (.idiv, 1) := by decide +kernel
theorem dX7_put_117 : decode cX7_put 117 = .ok (.istore_n 3, 1) := by decide +kernel
theorem dX7_put_118 : decode cX7_put 118 = .ok (.aload_n 0, 1) := by decide +kernel
theorem dX7_put_119 : decode cX7_put 119 = .ok (.getfield 85, 3) := by decide +kernel
theorem dX7_put_122 : decode cX7_put 122 = .ok (.iload_n 1, 1) := by decide +kernel
theorem dX7_put_123 : decode cX7_put 123 = .ok (.iload_n 2, 1) := by decide +kernel
theorem dX7_put_124 : decode cX7_put 124 = .ok (.aload_n 0, 1) := by decide +kernel
theorem dX7_put_125 : decode cX7_put 125 = .ok (.getfield 182, 3) := by decide +kernel
theorem dX7_put_128 : decode cX7_put 128 = .ok (.isub, 1) := by decide +kernel
theorem dX7_put_129 : decode cX7_put 129 = .ok (.iconst 2, 1) := by decide +kernel
theorem dX7_put_130 : decode cX7_put 130 = .ok (.irem, 1) := by decide +kernel
theorem dX7_put_131 : decode cX7_put 131 = .ok (.ifCond .ne 7, 3) := by decide +kernel
theorem dX7_put_134 : decode cX7_put 134 = .ok (.lconst 0, 1) := by decide +kernel
theorem dX7_put_135 : decode cX7_put 135 = .ok (.goto 15, 3) := by decide +kernel
theorem dX7_put_138 : decode cX7_put 138 = .ok (.aload_n 0, 1) := by decide +kernel
theorem dX7_put_139 : decode cX7_put 139 = .ok (.getfield 33, 3) := by decide +kernel
theorem dX7_put_142 : decode cX7_put 142 = .ok (.aload_n 0, 1) := by decide +kernel
theorem dX7_put_143 : decode cX7_put 143 = .ok (.getfield 79, 3) := by decide +kernel
theorem dX7_put_146 : decode cX7_put 146 = .ok (.iload_n 3, 1) := by decide +kernel
theorem dX7_put_147 : decode cX7_put 147 = .ok (.iaload, 1) := by decide +kernel
theorem dX7_put_148 : decode cX7_put 148 = .ok (.iaload, 1) := by decide +kernel
theorem dX7_put_149 : decode cX7_put 149 = .ok (.i2l, 1) := by decide +kernel
theorem dX7_put_150 : decode cX7_put 150 = .ok (.lastore, 1) := by decide +kernel
theorem dX7_put_151 : decode cX7_put 151 = .ok (.iconst 0, 1) := by decide +kernel
theorem dX7_put_152 : decode cX7_put 152 = .ok (.istore 4, 2) := by decide +kernel
theorem dX7_put_154 : decode cX7_put 154 = .ok (.iload 4, 2) := by decide +kernel
theorem dX7_put_156 : decode cX7_put 156 = .ok (.aload_n 0, 1) := by decide +kernel
theorem dX7_put_157 : decode cX7_put 157 = .ok (.getfield 217, 3) := by decide +kernel
theorem dX7_put_160 : decode cX7_put 160 = .ok (.if_icmp .ge 31, 3) := by decide +kernel
theorem dX7_put_163 : decode cX7_put 163 = .ok (.aload_n 0, 1) := by decide +kernel
theorem dX7_put_164 : decode cX7_put 164 = .ok (.getfield 82, 3) := by decide +kernel
theorem dX7_put_167 : decode cX7_put 167 = .ok (.iconst 4, 1) := by decide +kernel
theorem dX7_put_168 : decode cX7_put 168 = .ok (.iload_n 1, 1) := by decide +kernel
theorem dX7_put_169 : decode cX7_put 169 = .ok (.imul, 1) := by decide +kernel
theorem dX7_put_170 : decode cX7_put 170 = .ok (.iload 4, 2) := by decide +kernel
theorem dX7_put_172 : decode cX7_put 172 = .ok (.iadd, 1) := by decide +kernel
theorem dX7_put_173 : decode cX7_put 173 = .ok (.iload 4, 2) := by decide +kernel
theorem dX7_put_175 : decode cX7_put 175 = .ok (.iload_n 3, 1) := by decide +kernel
theorem dX7_put_176 : decode cX7_put 176 = .ok (.if_icmp .ne 7, 3) := by decide +kernel
theorem dX7_put_179 : decode cX7_put 179 = .ok (.lconst 1, 1) := by decide +kernel
theorem dX7_put_180 : decode cX7_put 180 = .ok (.goto 4, 3) := by decide +kernel
theorem dX7_put_183 : decode cX7_put 183 = .ok (.lconst 0, 1) := by decide +kernel
theorem dX7_put_184 : decode cX7_put 184 = .ok (.lastore, 1) := by decide +kernel
theorem dX7_put_185 : decode cX7_put 185 = .ok (.iinc 4 1, 3) := by decide +kernel
theorem dX7_put_188 : decode cX7_put 188 = .ok (.goto (-34), 3) := by decide +kernel
theorem dX7_put_191 : decode cX7_put 191 = .ok (.return_, 1) := by decide +kernel
theorem dX7_corners_0 : decode cX7_corners 0 = .ok (.aload_n 0, 1) := by decide +kernel
theorem dX7_corners_1 : decode cX7_corners 1 = .ok (.getfield 217, 3) := by decide +kernel
theorem dX7_corners_4 : decode cX7_corners 4 = .ok (.ifCond .ne 48, 3) := by decide +kernel
theorem dX7_corners_7 : decode cX7_corners 7 = .ok (.aload_n 0, 1) := by decide +kernel
theorem dX7_corners_8 : decode cX7_corners 8 = .ok (.lconst 1, 1) := by decide +kernel
theorem dX7_corners_9 : decode cX7_corners 9 = .ok (.putfield 203, 3) := by decide +kernel
theorem dX7_corners_12 : decode cX7_corners 12 = .ok (.iconst 0, 1) := by decide +kernel
theorem dX7_corners_13 : decode cX7_corners 13 = .ok (.istore_n 1, 1) := by decide +kernel
theorem dX7_corners_14 : decode cX7_corners 14 = .ok (.iload_n 1, 1) := by decide +kernel
theorem dX7_corners_15 : decode cX7_corners 15 = .ok (.aload_n 0, 1) := by decide +kernel
theorem dX7_corners_16 : decode cX7_corners 16 = .ok (.getfield 185, 3) := by decide +kernel
theorem dX7_corners_19 : decode cX7_corners 19 = .ok (.if_icmp .ge 21, 3) := by decide +kernel
theorem dX7_corners_22 : decode cX7_corners 22 = .ok (.aload_n 0, 1) := by decide +kernel
theorem dX7_corners_23 : decode cX7_corners 23 = .ok (.getfield 72, 3) := by decide +kernel
theorem dX7_corners_26 : decode cX7_corners 26 = .ok (.iload_n 1, 1) := by decide +kernel
theorem dX7_corners_27 : decode cX7_corners 27 = .ok (.aload_n 0, 1) := by decide +kernel
theorem dX7_corners_28 : decode cX7_corners 28 = .ok (.getfield 91, 3) := by decide +kernel
theorem dX7_corners_31 : decode cX7_corners 31 = .ok (.iload_n 1, 1) := by decide +kernel
theorem dX7_corners_32 : decode cX7_corners 32 = .ok (.laload, 1) := by decide +kernel
theorem dX7_corners_33 : decode cX7_corners 33 = .ok (.lastore, 1) := by decide +kernel
theorem dX7_corners_34 : decode cX7_corners 34 = .ok (.iinc 1 1, 3) := by decide +kernel
theorem dX7_corners_37 : decode cX7_corners 37 = .ok (.goto (-23), 3) := by decide +kernel
theorem dX7_corners_40 : decode cX7_corners 40 = .ok (.aload_n 0, 1) := by decide +kernel
theorem dX7_corners_41 : decode cX7_corners 41 = .ok (.invokevirtual 220, 3) := by decide +kernel
theorem dX7_corners_44 : decode cX7_corners 44 = .ok (.ifCond .eq 7, 3) := by decide +kernel
theorem dX7_corners_47 : decode cX7_corners 47 = .ok (.aload_n 0, 1) := by decide +kernel
theorem dX7_corners_48 : decode cX7_corners 48 = .ok (.invokevirtual 224, 3) := by decide +kernel
theorem dX7_corners_51 : decode cX7_corners 51 = .ok (.return_, 1) := by decide +kernel
theorem dX7_corners_52 : decode cX7_corners 52 = .ok (.aload_n 0, 1) := by decide +kernel
theorem dX7_corners_53 : decode cX7_corners 53 = .ok (.getfield 182, 3) := by decide +kernel
theorem dX7_corners_56 : decode cX7_corners 56 = .ok (.iconst 2, 1) := by decide +kernel
theorem dX7_corners_57 : decode cX7_corners 57 = .ok (.aload_n 0, 1) := by decide +kernel
theorem dX7_corners_58 : decode cX7_corners 58 = .ok (.getfield 217, 3) := by decide +kernel
theorem dX7_corners_61 : decode cX7_corners 61 = .ok (.imul, 1) := by decide +kernel
theorem dX7_corners_62 : decode cX7_corners 62 = .ok (.iadd, 1) := by decide +kernel
theorem dX7_corners_63 : decode cX7_corners 63 = .ok (.istore_n 1, 1) := by decide +kernel
theorem dX7_corners_64 : decode cX7_corners 64 = .ok (.iconst 0, 1) := by decide +kernel
theorem dX7_corners_65 : decode cX7_corners 65 = .ok (.istore_n 2, 1) := by decide +kernel
theorem dX7_corners_66 : decode cX7_corners 66 = .ok (.iload_n 2, 1) := by decide +kernel
theorem dX7_corners_67 : decode cX7_corners 67 = .ok (.iconst 1, 1) := by decide +kernel
theorem dX7_corners_68 : decode cX7_corners 68 = .ok (.iload_n 1, 1) := by decide +kernel
theorem dX7_corners_69 : decode cX7_corners 69 = .ok (.ishl, 1) := by decide +kernel
theorem dX7_corners_70 : decode cX7_corners 70 = .ok (.if_icmp .ge 253, 3) := by decide +kernel
theorem dX7_corners_73 : decode cX7_corners 73 = .ok (.iconst 0, 1) := by decide +kernel
theorem dX7_corners_74 : decode cX7_corners 74 = .ok (.istore_n 3, 1) := by decide +kernel
theorem dX7_corners_75 : decode cX7_corners 75 = .ok (.iconst 1, 1) := by decide +kernel
theorem dX7_corners_76 : decode cX7_corners 76 = .ok (.istore 4, 2) := by decide +kernel
theorem dX7_corners_78 : decode cX7_corners 78 = .ok (.iconst 0, 1) := by decide +kernel
theorem dX7_corners_79 : decode cX7_corners 79 = .ok (.istore 5, 2) := by decide +kernel
theorem dX7_corners_81 : decode cX7_corners 81 = .ok (.iload 5, 2) := by decide +kernel
theorem dX7_corners_83 : decode cX7_corners 83 = .ok (.iload_n 1, 1) := by decide +kernel
theorem dX7_corners_84 : decode cX7_corners 84 = .ok (.if_icmp .ge 73, 3) := by decide +kernel
theorem dX7_corners_87 : decode cX7_corners 87 = .ok (.iload 4, 2) := by decide +kernel
theorem dX7_corners_89 : decode cX7_corners 89 = .ok (.ifCond .eq 68, 3) := by decide +kernel
theorem dX7_corners_92 : decode cX7_corners 92 = .ok (.iload_n 2, 1) := by decide +kernel
theorem dX7_corners_93 : decode cX7_corners 93 = .ok (.iload 5, 2) := by decide +kernel
theorem dX7_corners_95 : decode cX7_corners 95 = .ok (.ishr, 1) := by decide +kernel
theorem dX7_corners_96 : decode cX7_corners 96 = .ok (.iconst 1, 1) := by decide +kernel
theorem dX7_corners_97 : decode cX7_corners 97 = .ok (.iand, 1) := by decide +kernel
theorem dX7_corners_98 : decode cX7_corners 98 = .ok (.iconst 1, 1) := by decide +kernel
theorem dX7_corners_99 : decode cX7_corners 99 = .ok (.if_icmp .ne 52, 3) := by decide +kernel
theorem dX7_corners_102 : decode cX7_corners 102 = .ok (.iload_n 3, 1) := by decide +kernel
theorem dX7_corners_103 : decode cX7_corners 103 = .ok (.aload_n 0, 1) := by decide +kernel
theorem dX7_corners_104 : decode cX7_corners 104 = .ok (.getfield 217, 3) := by decide +kernel
theorem dX7_corners_107 : decode cX7_corners 107 = .ok (.if_icmp .ge 26, 3) := by decide +kernel
theorem dX7_corners_110 : decode cX7_corners 110 = .ok (.iload 5, 2) := by decide +kernel
theorem dX7_corners_112 : decode cX7_corners 112 = .ok (.aload_n 0, 1) := by decide +kernel
theorem dX7_corners_113 : decode cX7_corners 113 = .ok (.getfield 182, 3) := by decide +kernel
theorem dX7_corners_116 : decode cX7_corners 116 = .ok (.if_icmp .ge 13, 3) := by decide +kernel
theorem dX7_corners_119 : decode cX7_corners 119 = .ok (.aload_n 0, 1) := by decide +kernel
theorem dX7_corners_120 : decode cX7_corners 120 = .ok (.getfield 23, 3) := by decide +kernel
theorem dX7_corners_123 : decode cX7_corners 123 = .ok (.iload 5, 2) := by decide +kernel
theorem dX7_corners_125 : decode cX7_corners 125 = .ok (.baload, 1) := by decide +kernel
theorem dX7_corners_126 : decode cX7_corners 126 = .ok (.ifCond .ne 7, 3) := by decide +kernel
theorem dX7_corners_129 : decode cX7_corners 129 = .ok (.iconst 1, 1) := by decide +kernel
theorem dX7_corners_130 : decode cX7_corners 130 = .ok (.goto 4, 3) := by decide +kernel
theorem dX7_corners_133 : decode cX7_corners 133 = .ok (.iconst 0, 1) := by decide +kernel
theorem dX7_corners_134 : decode cX7_corners 134 = .ok (.istore 4, 2) := by decide +kernel
theorem dX7_corners_136 : decode cX7_corners 136 = .ok (.iload 4, 2) := by decide +kernel
theorem dX7_corners_138 : decode cX7_corners 138 = .ok (.ifCond .eq 10, 3) := by decide +kernel
theorem dX7_corners_141 : decode cX7_corners 141 = .ok (.aload_n 0, 1) := by decide +kernel
theorem dX7_corners_142 : decode cX7_corners 142 = .ok (.iload_n 3, 1) := by decide +kernel
theorem dX7_corners_143 : decode cX7_corners 143 = .ok (.iload 5, 2) := by decide +kernel
theorem dX7_corners_145 : decode cX7_corners 145 = .ok (.invokevirtual 227, 3) := by decide +kernel
theorem dX7_corners_148 : decode cX7_corners 148 = .ok (.iinc 3 1, 3) := by decide +kernel
theorem dX7_corners_151 : decode cX7_corners 151 = .ok (.iinc 5 1, 3) := by decide +kernel
theorem dX7_corners_154 : decode cX7_corners 154 = .ok (.goto (-73), 3) := by decide +kernel
theorem dX7_corners_157 : decode cX7_corners 157 = .ok (.iload 4, 2) := by decide +kernel
theorem dX7_corners_159 : decode cX7_corners 159 = .ok (.ifCond .eq 20, 3) := by decide +kernel
theorem dX7_corners_162 : decode cX7_corners 162 = .ok (.iload_n 3, 1) := by decide +kernel
theorem dX7_corners_163 : decode cX7_corners 163 = .ok (.aload_n 0, 1) := by decide +kernel
theorem dX7_corners_164 : decode cX7_corners 164 = .ok (.getfield 217, 3) := by decide +kernel
theorem dX7_corners_167 : decode cX7_corners 167 = .ok (.if_icmp .ne 12, 3) := by decide +kernel
theorem dX7_corners_170 : decode cX7_corners 170 = .ok (.aload_n 0, 1) := by decide +kernel
theorem dX7_corners_171 : decode cX7_corners 171 = .ok (.iload_n 3, 1) := by decide +kernel
theorem dX7_corners_172 : decode cX7_corners 172 = .ok (.iconst (-1), 1) := by decide +kernel
theorem dX7_corners_173 : decode cX7_corners 173 = .ok (.invokevirtual 231, 3) := by decide +kernel
theorem dX7_corners_176 : decode cX7_corners 176 = .ok (.goto 4, 3) := by decide +kernel
theorem dX7_corners_179 : decode cX7_corners 179 = .ok (.lconst 0, 1) := by decide +kernel
theorem dX7_corners_180 : decode cX7_corners 180 = .ok (.lstore 5, 2) := by decide +kernel
theorem dX7_corners_182 : decode cX7_corners 182 = .ok (.lload 5, 2) := by decide +kernel
theorem dX7_corners_184 : decode cX7_corners 184 = .ok (.lconst 0, 1) := by decide +kernel
theorem dX7_corners_185 : decode cX7_corners 185 = .ok (.lcmp, 1) := by decide +kernel
theorem dX7_corners_186 : decode cX7_corners 186 = .ok (.ifCond .eq 131, 3) := by decide +kernel
theorem dX7_corners_189 : decode cX7_corners 189 = .ok (.aload_n 0, 1) := by decide +kernel
theorem dX7_corners_190 : decode cX7_corners 190 = .ok (.lload 5, 2) := by decide +kernel
theorem dX7_corners_192 : decode cX7_corners 192 = .ok (.lconst 0, 1) := by decide +kernel
theorem dX7_corners_193 : decode cX7_corners 193 = .ok (.lcmp, 1) := by decide +kernel
theorem dX7_corners_194 : decode cX7_corners 194 = .ok (.ifCond .ge 9, 3) := by decide +kernel
theorem dX7_corners_197 : decode cX7_corners 197 = .ok (.lload 5, 2) := by decide +kernel
theorem dX7_corners_199 : decode cX7_corners 199 = .ok (.lneg, 1) := by decide +kernel
theorem dX7_corners_200 : decode cX7_corners 200 = .ok (.goto 5, 3) := by decide +kernel
theorem dX7_corners_203 : decode cX7_corners 203 = .ok (.lload 5, 2) := by decide +kernel
theorem dX7_corners_205 : decode cX7_corners 205 = .ok (.putfield 203, 3) := by decide +kernel
theorem dX7_corners_208 : decode cX7_corners 208 = .ok (.iconst 0, 1) := by decide +kernel
theorem dX7_corners_209 : decode cX7_corners 209 = .ok (.istore 7, 2) := by decide +kernel
theorem dX7_corners_211 : decode cX7_corners 211 = .ok (.iload 7, 2) := by decide +kernel
theorem dX7_corners_213 : decode cX7_corners 213 = .ok (.aload_n 0, 1) := by decide +kernel
theorem dX7_corners_214 : decode cX7_corners 214 = .ok (.getfield 185, 3) := by decide +kernel
theorem dX7_corners_217 : decode cX7_corners 217 = .ok (.if_icmp .ge 28, 3) := by decide +kernel
theorem dX7_corners_220 : decode cX7_corners 220 = .ok (.aload_n 0, 1) := by decide +kernel
theorem dX7_corners_221 : decode cX7_corners 221 = .ok (.getfield 72, 3) := by decide +kernel
theorem dX7_corners_224 : decode cX7_corners 224 = .ok (.iload 7, 2) := by decide +kernel
theorem dX7_corners_226 : decode cX7_corners 226 = .ok (.aload_n 0, 1) := by decide +kernel
theorem dX7_corners_227 : decode cX7_corners 227 = .ok (.getfield 91, 3) := by decide +kernel
theorem dX7_corners_230 : decode cX7_corners 230 = .ok (.iload 7, 2) := by decide +kernel
theorem dX7_corners_232 : decode cX7_corners 232 = .ok (.laload, 1) := by decide +kernel
theorem dX7_corners_233 : decode cX7_corners 233 = .ok (.aload_n 0, 1) := by decide +kernel
theorem dX7_corners_234 : decode cX7_corners 234 = .ok (.getfield 203, 3) := by decide +kernel
theorem dX7_corners_237 : decode cX7_corners 237 = .ok (.lmul, 1) := by decide +kernel
theorem dX7_corners_238 : decode cX7_corners 238 = .ok (.lastore, 1) := by decide +kernel
theorem dX7_corners_239 : decode cX7_corners 239 = .ok (.iinc 7 1, 3) := by decide +kernel
theorem dX7_corners_242 : decode cX7_corners 242 = .ok (.goto (-31), 3) := by decide +kernel
theorem dX7_corners_245 : decode cX7_corners 245 = .ok (.iconst 0, 1) := by decide +kernel
theorem dX7_corners_246 : decode cX7_corners 246 = .ok (.istore 7, 2) := by decide +kernel
theorem dX7_corners_248 : decode cX7_corners 248 = .ok (.iload 7, 2) := by decide +kernel
theorem dX7_corners_250 : decode cX7_corners 250 = .ok (.aload_n 0, 1) := by decide +kernel
theorem dX7_corners_251 : decode cX7_corners 251 = .ok (.getfield 217, 3) := by decide +kernel
theorem dX7_corners_254 : decode cX7_corners 254 = .ok (.if_icmp .ge 52, 3) := by decide +kernel
theorem dX7_corners_257 : decode cX7_corners 257 = .ok (.aload_n 0, 1) := by decide +kernel
theorem dX7_corners_258 : decode cX7_corners 258 = .ok (.getfield 72, 3) := by decide +kernel
theorem dX7_corners_261 : decode cX7_corners 261 = .ok (.aload_n 0, 1) := by decide +kernel
theorem dX7_corners_262 : decode cX7_corners 262 = .ok (.getfield 79, 3) := by decide +kernel
theorem dX7_corners_265 : decode cX7_corners 265 = .ok (.iload 7, 2) := by decide +kernel
theorem dX7_corners_267 : decode cX7_corners 267 = .ok (.iaload, 1) := by decide +kernel
theorem dX7_corners_268 : decode cX7_corners 268 = .ok (.lload 5, 2) := by decide +kernel
theorem dX7_corners_270 : decode cX7_corners 270 = .ok (.lconst 0, 1) := by decide +kernel
theorem dX7_corners_271 : decode cX7_corners 271 = .ok (.lcmp, 1) := by decide +kernel
theorem dX7_corners_272 : decode cX7_corners 272 = .ok (.ifCond .ge 17, 3) := by decide +kernel
theorem dX7_corners_275 : decode cX7_corners 275 = .ok (.aload_n 0, 1) := by decide +kernel
theorem dX7_corners_276 : decode cX7_corners 276 = .ok (.aload_n 0, 1) := by decide +kernel
theorem dX7_corners_277 : decode cX7_corners 277 = .ok (.getfield 217, 3) := by decide +kernel
theorem dX7_corners_280 : decode cX7_corners 280 = .ok (.iload 7, 2) := by decide +kernel
theorem dX7_corners_282 : decode cX7_corners 282 = .ok (.invokevirtual 231, 3) := by decide +kernel
theorem dX7_corners_285 : decode cX7_corners 285 = .ok (.lneg, 1) := by decide +kernel
theorem dX7_corners_286 : decode cX7_corners 286 = .ok (.goto 13, 3) := by decide +kernel
theorem dX7_corners_289 : decode cX7_corners 289 = .ok (.aload_n 0, 1) := by decide +kernel
theorem dX7_corners_290 : decode cX7_corners 290 = .ok (.aload_n 0, 1) := by decide +kernel
theorem dX7_corners_291 : decode cX7_corners 291 = .ok (.getfield 217, 3) := by decide +kernel
theorem dX7_corners_294 : decode cX7_corners 294 = .ok (.iload 7, 2) := by decide +kernel
theorem dX7_corners_296 : decode cX7_corners 296 = .ok (.invokevirtual 231, 3) := by decide +kernel
theorem dX7_corners_299 : decode cX7_corners 299 = .ok (.lastore, 1) := by decide +kernel
theorem dX7_corners_300 : decode cX7_corners 300 = .ok (.iinc 7 1, 3) := by decide +kernel
theorem dX7_corners_303 : decode cX7_corners 303 = .ok (.goto (-55), 3) := by decide +kernel
theorem dX7_corners_306 : decode cX7_corners 306 = .ok (.aload_n 0, 1) := by decide +kernel
theorem dX7_corners_307 : decode cX7_corners 307 = .ok (.invokevirtual 220, 3) := by decide +kernel
theorem dX7_corners_310 : decode cX7_corners 310 = .ok (.ifCond .eq 7, 3) := by decide +kernel
theorem dX7_corners_313 : decode cX7_corners 313 = .ok (.aload_n 0, 1) := by decide +kernel
theorem dX7_corners_314 : decode cX7_corners 314 = .ok (.invokevirtual 224, 3) := by decide +kernel
theorem dX7_corners_317 : decode cX7_corners 317 = .ok (.iinc 2 1, 3) := by decide +kernel
theorem dX7_corners_320 : decode cX7_corners 320 = .ok (.goto (-254), 3) := by decide +kernel
theorem dX7_corners_323 : decode cX7_corners 323 = .ok (.return_, 1) := by decide +kernel
theorem dX7_find_0 : decode cX7_find 0 = .ok (.aload_n 0, 1) := by decide +kernel
theorem dX7_find_1 : decode cX7_find 1 = .ok (.iconst 0, 1) := by decide +kernel
theorem dX7_find_2 : decode cX7_find 2 = .ok (.putfield 207, 3) := by decide +kernel
theorem dX7_find_5 : decode cX7_find 5 = .ok (.aload_n 0, 1) := by decide +kernel
theorem dX7_find_6 : decode cX7_find 6 = .ok (.iconst 0, 1) := by decide +kernel
theorem dX7_find_7 : decode cX7_find 7 = .ok (.putfield 217, 3) := by decide +kernel
theorem dX7_find_10 : decode cX7_find 10 = .ok (.iconst 1, 1) := by decide +kernel
theorem dX7_find_11 : decode cX7_find 11 = .ok (.istore_n 2, 1) := by decide +kernel
theorem dX7_find_12 : decode cX7_find 12 = .ok (.iconst 0, 1) := by decide +kernel
theorem dX7_find_13 : decode cX7_find 13 = .ok (.istore_n 3, 1) := by decide +kernel
theorem dX7_find_14 : decode cX7_find 14 = .ok (.iload_n 3, 1) := by decide +kernel
theorem dX7_find_15 : decode cX7_find 15 = .ok (.aload_n 0, 1) := by decide +kernel
theorem dX7_find_16 : decode cX7_find 16 = .ok (.getfield 185, 3) := by decide +kernel
theorem dX7_find_19 : decode cX7_find 19 = .ok (.if_icmp .ge 88, 3) := by decide +kernel
theorem dX7_find_22 : decode cX7_find 22 = .ok (.aload_n 0, 1) := by decide +kernel
theorem dX7_find_23 : decode cX7_find 23 = .ok (.getfield 36, 3) := by decide +kernel
theorem dX7_find_26 : decode cX7_find 26 = .ok (.iload_n 3, 1) := by decide +kernel
theorem dX7_find_27 : decode cX7_find 27 = .ok (.baload, 1) := by decide +kernel
theorem dX7_find_28 : decode cX7_find 28 = .ok (.ifCond .ne 39, 3) := by decide +kernel
theorem dX7_find_31 : decode cX7_find 31 = .ok (.iload_n 1, 1) := by decide +kernel
theorem dX7_find_32 : decode cX7_find 32 = .ok (.ifCond .ne 12, 3) := by decide +kernel
theorem dX7_find_35 : decode cX7_find 35 = .ok (.aload_n 0, 1) := by decide +kernel
theorem dX7_find_36 : decode cX7_find 36 = .ok (.getfield 30, 3) := by decide +kernel
theorem dX7_find_39 : decode cX7_find 39 = .ok (.iload_n 3, 1) := by decide +kernel
theorem dX7_find_40 : decode cX7_find 40 = .ok (.iaload, 1) := by decide +kernel
theorem dX7_find_41 : decode cX7_find 41 = .ok (.ifCond .ne 26, 3) := by decide +kernel
theorem dX7_find_44 : decode cX7_find 44 = .ok (.aload_n 0, 1) := by decide +kernel
theorem dX7_find_45 : decode cX7_find 45 = .ok (.getfield 79, 3) := by decide +kernel
theorem dX7_find_48 : decode cX7_find 48 = .ok (.aload_n 0, 1) := by decide +kernel
theorem dX7_find_49 : decode cX7_find 49 = .ok (.getfield 217, 3) := by decide +kernel
theorem dX7_find_52 : decode cX7_find 52 = .ok (.iload_n 3, 1) := by decide +kernel
theorem dX7_find_53 : decode cX7_find 53 = .ok (.iastore, 1) := by decide +kernel
theorem dX7_find_54 : decode cX7_find 54 = .ok (.aload_n 0, 1) := by decide +kernel
theorem dX7_find_55 : decode cX7_find 55 = .ok (.dup, 1) := by decide +kernel
theorem dX7_find_56 : decode cX7_find 56 = .ok (.getfield 217, 3) := by decide +kernel
theorem dX7_find_59 : decode cX7_find 59 = .ok (.iconst 1, 1) := by decide +kernel
theorem dX7_find_60 : decode cX7_find 60 = .ok (.iadd, 1) := by decide +kernel
theorem dX7_find_61 : decode cX7_find 61 = .ok (.putfield 217, 3) := by decide +kernel
theorem dX7_find_64 : decode cX7_find 64 = .ok (.goto 37, 3) := by decide +kernel
theorem dX7_find_67 : decode cX7_find 67 = .ok (.aload_n 0, 1) := by decide +kernel
theorem dX7_find_68 : decode cX7_find 68 = .ok (.getfield 36, 3) := by decide +kernel
theorem dX7_find_71 : decode cX7_find 71 = .ok (.iload_n 3, 1) := by decide +kernel
theorem dX7_find_72 : decode cX7_find 72 = .ok (.baload, 1) := by decide +kernel
theorem dX7_find_73 : decode cX7_find 73 = .ok (.ifCond .ne 28, 3) := by decide +kernel
theorem dX7_find_76 : decode cX7_find 76 = .ok (.iload_n 2, 1) := by decide +kernel
theorem dX7_find_77 : decode cX7_find 77 = .ok (.aload_n 0, 1) := by decide +kernel
theorem dX7_find_78 : decode cX7_find 78 = .ok (.getfield 30, 3) := by decide +kernel
theorem dX7_find_81 : decode cX7_find 81 = .ok (.iload_n 3, 1) := by decide +kernel
theorem dX7_find_82 : decode cX7_find 82 = .ok (.iaload, 1) := by decide +kernel
theorem dX7_find_83 : decode cX7_find 83 = .ok (.iconst 1, 1) := by decide +kernel
theorem dX7_find_84 : decode cX7_find 84 = .ok (.if_icmp .ne 14, 3) := by decide +kernel
theorem dX7_find_87 : decode cX7_find 87 = .ok (.aload_n 0, 1) := by decide +kernel
theorem dX7_find_88 : decode cX7_find 88 = .ok (.getfield 33, 3) := by decide +kernel
theorem dX7_find_91 : decode cX7_find 91 = .ok (.iload_n 3, 1) := by decide +kernel
theorem dX7_find_92 : decode cX7_find 92 = .ok (.iaload, 1) := by decide +kernel
theorem dX7_find_93 : decode cX7_find 93 = .ok (.iconst 1, 1) := by decide +kernel
theorem dX7_find_94 : decode cX7_find 94 = .ok (.iadd, 1) := by decide +kernel
theorem dX7_find_95 : decode cX7_find 95 = .ok (.goto 4, 3) := by decide +kernel
theorem dX7_find_98 : decode cX7_find 98 = .ok (.iconst 2, 1) := by decide +kernel
theorem dX7_find_99 : decode cX7_find 99 = .ok (.imul, 1) := by decide +kernel
theorem dX7_find_100 : decode cX7_find 100 = .ok (.istore_n 2, 1) := by decide +kernel
theorem dX7_find_101 : decode cX7_find 101 = .ok (.iinc 3 1, 3) := by decide +kernel
theorem dX7_find_104 : decode cX7_find 104 = .ok (.goto (-90), 3) := by decide +kernel
theorem dX7_find_107 : decode cX7_find 107 = .ok (.iconst 0, 1) := by decide +kernel
theorem dX7_find_108 : decode cX7_find 108 = .ok (.istore_n 3, 1) := by decide +kernel
theorem dX7_find_109 : decode cX7_find 109 = .ok (.iload_n 3, 1) := by decide +kernel
theorem dX7_find_110 : decode cX7_find 110 = .ok (.iload_n 2, 1) := by decide +kernel
theorem dX7_find_111 : decode cX7_find 111 = .ok (.if_icmp .ge 155, 3) := by decide +kernel
theorem dX7_find_114 : decode cX7_find 114 = .ok (.iload_n 3, 1) := by decide +kernel
theorem dX7_find_115 : decode cX7_find 115 = .ok (.istore 4, 2) := by decide +kernel
theorem dX7_find_117 : decode cX7_find 117 = .ok (.iconst 0, 1) := by decide +kernel
theorem dX7_find_118 : decode cX7_find 118 = .ok (.istore 5, 2) := by decide +kernel
theorem dX7_find_120 : decode cX7_find 120 = .ok (.iload 5, 2) := by decide +kernel
theorem dX7_find_122 : decode cX7_find 122 = .ok (.aload_n 0, 1) := by decide +kernel
theorem dX7_find_123 : decode cX7_find 123 = .ok (.getfield 185, 3) := by decide +kernel
theorem dX7_find_126 : decode cX7_find 126 = .ok (.if_icmp .ge 130, 3) := by decide +kernel
theorem dX7_find_129 : decode cX7_find 129 = .ok (.aload_n 0, 1) := by decide +kernel
theorem dX7_find_130 : decode cX7_find 130 = .ok (.getfield 91, 3) := by decide +kernel
theorem dX7_find_133 : decode cX7_find 133 = .ok (.iload 5, 2) := by decide +kernel
theorem dX7_find_135 : decode cX7_find 135 = .ok (.lconst 0, 1) := by decide +kernel
theorem dX7_find_136 : decode cX7_find 136 = .ok (.lastore, 1) := by decide +kernel
theorem dX7_find_137 : decode cX7_find 137 = .ok (.aload_n 0, 1) := by decide +kernel
theorem dX7_find_138 : decode cX7_find 138 = .ok (.getfield 36, 3) := by decide +kernel
theorem dX7_find_141 : decode cX7_find 141 = .ok (.iload 5, 2) := by decide +kernel
theorem dX7_find_143 : decode cX7_find 143 = .ok (.baload, 1) := by decide +kernel
theorem dX7_find_144 : decode cX7_find 144 = .ok (.ifCond .ne 55, 3) := by decide +kernel
theorem dX7_find_147 : decode cX7_find 147 = .ok (.iload_n 1, 1) := by decide +kernel
theorem dX7_find_148 : decode cX7_find 148 = .ok (.ifCond .ne 51, 3) := by decide +kernel
theorem dX7_find_151 : decode cX7_find 151 = .ok (.aload_n 0, 1) := by decide +kernel
theorem dX7_find_152 : decode cX7_find 152 = .ok (.getfield 30, 3) := by decide +kernel
theorem dX7_find_155 : decode cX7_find 155 = .ok (.iload 5, 2) := by decide +kernel
theorem dX7_find_157 : decode cX7_find 157 = .ok (.iaload, 1) := by decide +kernel
theorem dX7_find_158 : decode cX7_find 158 = .ok (.iconst 1, 1) := by decide +kernel
theorem dX7_find_159 : decode cX7_find 159 = .ok (.if_icmp .ne 40, 3) := by decide +kernel
theorem dX7_find_162 : decode cX7_find 162 = .ok (.aload_n 0, 1) := by decide +kernel
theorem dX7_find_163 : decode cX7_find 163 = .ok (.getfield 91, 3) := by decide +kernel
theorem dX7_find_166 : decode cX7_find 166 = .ok (.iload 5, 2) := by decide +kernel
theorem dX7_find_168 : decode cX7_find 168 = .ok (.iload 4, 2) := by decide +kernel
theorem dX7_find_170 : decode cX7_find 170 = .ok (.aload_n 0, 1) := by decide +kernel
theorem dX7_find_171 : decode cX7_find 171 = .ok (.getfield 33, 3) := by decide +kernel
theorem dX7_find_174 : decode cX7_find 174 = .ok (.iload 5, 2) := by decide +kernel
theorem dX7_find_176 : decode cX7_find 176 = .ok (.iaload, 1) := by decide +kernel
theorem dX7_find_177 : decode cX7_find 177 = .ok (.iconst 1, 1) := by decide +kernel
theorem dX7_find_178 : decode cX7_find 178 = .ok (.iadd, 1) := by decide +kernel
theorem dX7_find_179 : decode cX7_find 179 = .ok (.irem, 1) := by decide +kernel
theorem dX7_find_180 : decode cX7_find 180 = .ok (.i2l, 1) := by decide +kernel
theorem dX7_find_181 : decode cX7_find 181 = .ok (.lastore, 1) := by decide +kernel
theorem dX7_find_182 : decode cX7_find 182 = .ok (.iload 4, 2) := by decide +kernel
theorem dX7_find_184 : decode cX7_find 184 = .ok (.aload_n 0, 1) := by decide +kernel
theorem dX7_find_185 : decode cX7_find 185 = .ok (.getfield 33, 3) := by decide +kernel
theorem dX7_find_188 : decode cX7_find 188 = .ok (.iload 5, 2) := by decide +kernel
theorem dX7_find_190 : decode cX7_find 190 = .ok (.iaload, 1) := by decide +kernel
theorem dX7_find_191 : decode cX7_find 191 = .ok (.iconst 1, 1) := by decide +kernel
theorem dX7_find_192 : decode cX7_find 192 = .ok (.iadd, 1) := by decide +kernel
theorem dX7_find_193 : decode cX7_find 193 = .ok (.idiv, 1) := by decide +kernel
theorem dX7_find_194 : decode cX7_find 194 = .ok (.istore 4, 2) := by decide +kernel
theorem dX7_find_196 : decode cX7_find 196 = .ok (.goto 54, 3) := by decide +kernel
theorem dX7_find_199 : decode cX7_find 199 = .ok (.aload_n 0, 1) := by decide +kernel
theorem dX7_find_200 : decode cX7_find 200 = .ok (.getfield 36, 3) := by decide +kernel
theorem dX7_find_203 : decode cX7_find 203 = .ok (.iload 5, 2) := by decide +kernel
theorem dX7_find_205 : decode cX7_find 205 = .ok (.baload, 1) := by decide +kernel
theorem dX7_find_206 : decode cX7_find 206 = .ok (.ifCond .ne 44, 3) := by decide +kernel
theorem dX7_find_209 : decode cX7_find 209 = .ok (.iload_n 1, 1) := by decide +kernel
theorem dX7_find_210 : decode cX7_find 210 = .ok (.ifCond .ne 40, 3) := by decide +kernel
theorem dX7_find_213 : decode cX7_find 213 = .ok (.aload_n 0, 1) := by decide +kernel
theorem dX7_find_214 : decode cX7_find 214 = .ok (.getfield 30, 3) := by decide +kernel
theorem dX7_find_217 : decode cX7_find 217 = .ok (.iload 5, 2) := by decide +kernel
theorem dX7_find_219 : decode cX7_find 219 = .ok (.iaload, 1) := by decide +kernel
theorem dX7_find_220 : decode cX7_find 220 = .ok (.iconst 2, 1) := by decide +kernel
theorem dX7_find_221 : decode cX7_find 221 = .ok (.if_icmp .ne 29, 3) := by decide +kernel
theorem dX7_find_224 : decode cX7_find 224 = .ok (.aload_n 0, 1) := by decide +kernel
theorem dX7_find_225 : decode cX7_find 225 = .ok (.getfield 91, 3) := by decide +kernel
theorem dX7_find_228 : decode cX7_find 228 = .ok (.iload 5, 2) := by decide +kernel
theorem dX7_find_230 : decode cX7_find 230 = .ok (.iload 4, 2) := by decide +kernel
theorem dX7_find_232 : decode cX7_find 232 = .ok (.iconst 2, 1) := by decide +kernel
theorem dX7_find_233 : decode cX7_find 233 = .ok (.irem, 1) := by decide +kernel
theorem dX7_find_234 : decode cX7_find 234 = .ok (.aload_n 0, 1) := by decide +kernel
theorem dX7_find_235 : decode cX7_find 235 = .ok (.getfield 33, 3) := by decide +kernel
theorem dX7_find_238 : decode cX7_find 238 = .ok (.iload 5, 2) := by decide +kernel
theorem dX7_find_240 : decode cX7_find 240 = .ok (.iaload, 1) := by decide +kernel
theorem dX7_find_241 : decode cX7_find 241 = .ok (.imul, 1) := by decide +kernel
theorem dX7_find_242 : decode cX7_find 242 = .ok (.i2l, 1) := by decide +kernel
theorem dX7_find_243 : decode cX7_find 243 = .ok (.lastore, 1) := by decide +kernel
theorem dX7_find_244 : decode cX7_find 244 = .ok (.iload 4, 2) := by decide +kernel
theorem dX7_find_246 : decode cX7_find 246 = .ok (.iconst 2, 1) := by decide +kernel
theorem dX7_find_247 : decode cX7_find 247 = .ok (.idiv, 1) := by decide +kernel
theorem dX7_find_248 : decode cX7_find 248 = .ok (.istore 4, 2) := by decide +kernel
theorem dX7_find_250 : decode cX7_find 250 = .ok (.iinc 5 1, 3) := by decide +kernel
theorem dX7_find_253 : decode cX7_find 253 = .ok (.goto (-133), 3) := by decide +kernel
theorem dX7_find_256 : decode cX7_find 256 = .ok (.aload_n 0, 1) := by decide +kernel
theorem dX7_find_257 : decode cX7_find 257 = .ok (.invokevirtual 235, 3) := by decide +kernel
theorem dX7_find_260 : decode cX7_find 260 = .ok (.iinc 3 1, 3) := by decide +kernel
theorem dX7_find_263 : decode cX7_find 263 = .ok (.goto (-154), 3) := by decide +kernel
theorem dX7_find_266 : decode cX7_find 266 = .ok (.aload_n 0, 1) := by decide +kernel
theorem dX7_find_267 : decode cX7_find 267 = .ok (.getfield 207, 3) := by decide +kernel
theorem dX7_find_270 : decode cX7_find 270 = .ok (.ireturn, 1) := by decide +kernel
theorem dX7_common_0 : decode cX7_common 0 = .ok (.lload_n 0, 1) := by decide +kernel
theorem dX7_common_1 : decode cX7_common 1 = .ok (.lconst 0, 1) := by decide +kernel
theorem dX7_common_2 : decode cX7_common 2 = .ok (.lcmp, 1) := by decide +kernel
theorem dX7_common_3 : decode cX7_common 3 = .ok (.ifCond .ge 8, 3) := by decide +kernel
theorem dX7_common_6 : decode cX7_common 6 = .ok (.lload_n 0, 1) := by decide +kernel
theorem dX7_common_7 : decode cX7_common 7 = .ok (.lneg, 1) := by decide +kernel
theorem dX7_common_8 : decode cX7_common 8 = .ok (.goto 4, 3) := by decide +kernel
theorem dX7_common_11 : decode cX7_common 11 = .ok (.lload_n 0, 1) := by decide +kernel
theorem dX7_common_12 : decode cX7_common 12 = .ok (.lstore 4, 2) := by decide +kernel
theorem dX7_common_14 : decode cX7_common 14 = .ok (.lload_n 2, 1) := by decide +kernel
theorem dX7_common_15 : decode cX7_common 15 = .ok (.lstore 6, 2) := by decide +kernel
theorem dX7_common_17 : decode cX7_common 17 = .ok (.lload 6, 2) := by decide +kernel
theorem dX7_common_19 : decode cX7_common 19 = .ok (.lconst 0, 1) := by decide +kernel
theorem dX7_common_20 : decode cX7_common 20 = .ok (.lcmp, 1) := by decide +kernel
theorem dX7_common_21 : decode cX7_common 21 = .ok (.ifCond .eq 21, 3) := by decide +kernel
theorem dX7_common_24 : decode cX7_common 24 = .ok (.lload 4, 2) := by decide +kernel
theorem dX7_common_26 : decode cX7_common 26 = .ok (.lload 6, 2) := by decide +kernel
theorem dX7_common_28 : decode cX7_common 28 = .ok (.lrem, 1) := by decide +kernel
theorem dX7_common_29 : decode cX7_common 29 = .ok (.lstore 8, 2) := by decide +kernel
theorem dX7_common_31 : decode cX7_common 31 = .ok (.lload 6, 2) := by decide +kernel
theorem dX7_common_33 : decode cX7_common 33 = .ok (.lstore 4, 2) := by decide +kernel
theorem dX7_common_35 : decode cX7_common 35 = .ok (.lload 8, 2) := by decide +kernel
theorem dX7_common_37 : decode cX7_common 37 = .ok (.lstore 6, 2) := by decide +kernel
theorem dX7_common_39 : decode cX7_common 39 = .ok (.goto (-22), 3) := by decide +kernel
theorem dX7_common_42 : decode cX7_common 42 = .ok (.lload 4, 2) := by decide +kernel
theorem dX7_common_44 : decode cX7_common 44 = .ok (.lreturn, 1) := by decide +kernel
theorem dX7_told_0 : decode cX7_told 0 = .ok (.lload_n 0, 1) := by decide +kernel
theorem dX7_told_1 : decode cX7_told 1 = .ok (.lload_n 2, 1) := by decide +kernel
theorem dX7_told_2 : decode cX7_told 2 = .ok (.invokestatic 238, 3) := by decide +kernel
theorem dX7_told_5 : decode cX7_told 5 = .ok (.lstore 5, 2) := by decide +kernel
theorem dX7_told_7 : decode cX7_told 7 = .ok (.iload 4, 2) := by decide +kernel
theorem dX7_told_9 : decode cX7_told 9 = .ok (.ifCond .ne 10, 3) := by decide +kernel
theorem dX7_told_12 : decode cX7_told 12 = .ok (.lload_n 0, 1) := by decide +kernel
theorem dX7_told_13 : decode cX7_told 13 = .ok (.lload 5, 2) := by decide +kernel
theorem dX7_told_15 : decode cX7_told 15 = .ok (.ldiv, 1) := by decide +kernel
theorem dX7_told_16 : decode cX7_told 16 = .ok (.goto 7, 3) := by decide +kernel
theorem dX7_told_19 : decode cX7_told 19 = .ok (.lload_n 2, 1) := by decide +kernel
theorem dX7_told_20 : decode cX7_told 20 = .ok (.lload 5, 2) := by decide +kernel
theorem dX7_told_22 : decode cX7_told 22 = .ok (.ldiv, 1) := by decide +kernel
theorem dX7_told_23 : decode cX7_told 23 = .ok (.lreturn, 1) := by decide +kernel
theorem dX7_best_0 : decode cX7_best 0 = .ok (.aload_n 0, 1) := by decide +kernel
theorem dX7_best_1 : decode cX7_best 1 = .ok (.iload_n 1, 1) := by decide +kernel
theorem dX7_best_2 : decode cX7_best 2 = .ok (.invokevirtual 194, 3) := by decide +kernel
theorem dX7_best_5 : decode cX7_best 5 = .ok (.ifCond .eq 40, 3) := by decide +kernel
theorem dX7_best_8 : decode cX7_best 8 = .ok (.iload_n 2, 1) := by decide +kernel
theorem dX7_best_9 : decode cX7_best 9 = .ok (.i2l, 1) := by decide +kernel
theorem dX7_best_10 : decode cX7_best 10 = .ok (.lconst 0, 1) := by decide +kernel
theorem dX7_best_11 : decode cX7_best 11 = .ok (.lconst 1, 1) := by decide +kernel
theorem dX7_best_12 : decode cX7_best 12 = .ok (.invokestatic 102, 3) := by decide +kernel
theorem dX7_best_15 : decode cX7_best 15 = .ok (.ifCond .eq 30, 3) := by decide +kernel
theorem dX7_best_18 : decode cX7_best 18 = .ok (.iload_n 3, 1) := by decide +kernel
theorem dX7_best_19 : decode cX7_best 19 = .ok (.i2l, 1) := by decide +kernel
theorem dX7_best_20 : decode cX7_best 20 = .ok (.lconst 0, 1) := by decide +kernel
theorem dX7_best_21 : decode cX7_best 21 = .ok (.lconst 1, 1) := by decide +kernel
theorem dX7_best_22 : decode cX7_best 22 = .ok (.invokestatic 102, 3) := by decide +kernel
theorem dX7_best_25 : decode cX7_best 25 = .ok (.ifCond .eq 20, 3) := by decide +kernel
theorem dX7_best_28 : decode cX7_best 28 = .ok (.aload_n 0, 1) := by decide +kernel
theorem dX7_best_29 : decode cX7_best 29 = .ok (.iload_n 2, 1) := by decide +kernel
theorem dX7_best_30 : decode cX7_best 30 = .ok (.iconst 1, 1) := by decide +kernel
theorem dX7_best_31 : decode cX7_best 31 = .ok (.if_icmp .ne 7, 3) := by decide +kernel
theorem dX7_best_34 : decode cX7_best 34 = .ok (.iconst 1, 1) := by decide +kernel
theorem dX7_best_35 : decode cX7_best 35 = .ok (.goto 4, 3) := by decide +kernel
theorem dX7_best_38 : decode cX7_best 38 = .ok (.iconst 0, 1) := by decide +kernel
theorem dX7_best_39 : decode cX7_best 39 = .ok (.invokevirtual 242, 3) := by decide +kernel
theorem dX7_best_42 : decode cX7_best 42 = .ok (.ifCond .ne 7, 3) := by decide +kernel
theorem dX7_best_45 : decode cX7_best 45 = .ok (.ldc2_w 246, 3) := by decide +kernel
theorem dX7_best_48 : decode cX7_best 48 = .ok (.lreturn, 1) := by decide +kernel
theorem dX7_best_49 : decode cX7_best 49 = .ok (.aload_n 0, 1) := by decide +kernel
theorem dX7_best_50 : decode cX7_best 50 = .ok (.getfield 76, 3) := by decide +kernel
theorem dX7_best_53 : decode cX7_best 53 = .ok (.iload_n 1, 1) := by decide +kernel
theorem dX7_best_54 : decode cX7_best 54 = .ok (.laload, 1) := by decide +kernel
theorem dX7_best_55 : decode cX7_best 55 = .ok (.aload_n 0, 1) := by decide +kernel
theorem dX7_best_56 : decode cX7_best 56 = .ok (.getfield 211, 3) := by decide +kernel
theorem dX7_best_59 : decode cX7_best 59 = .ok (.iload_n 3, 1) := by decide +kernel
theorem dX7_best_60 : decode cX7_best 60 = .ok (.invokestatic 248, 3) := by decide +kernel
theorem dX7_best_63 : decode cX7_best 63 = .ok (.lreturn, 1) := by decide +kernel
theorem dX7_worth_0 : decode cX7_worth 0 = .ok (.iload_n 1, 1) := by decide +kernel
theorem dX7_worth_1 : decode cX7_worth 1 = .ok (.i2l, 1) := by decide +kernel
theorem dX7_worth_2 : decode cX7_worth 2 = .ok (.lconst 0, 1) := by decide +kernel
theorem dX7_worth_3 : decode cX7_worth 3 = .ok (.lconst 1, 1) := by decide +kernel
theorem dX7_worth_4 : decode cX7_worth 4 = .ok (.invokestatic 102, 3) := by decide +kernel
theorem dX7_worth_7 : decode cX7_worth 7 = .ok (.ifCond .eq 30, 3) := by decide +kernel
theorem dX7_worth_10 : decode cX7_worth 10 = .ok (.iload_n 2, 1) := by decide +kernel
theorem dX7_worth_11 : decode cX7_worth 11 = .ok (.i2l, 1) := by decide +kernel
theorem dX7_worth_12 : decode cX7_worth 12 = .ok (.lconst 0, 1) := by decide +kernel
theorem dX7_worth_13 : decode cX7_worth 13 = .ok (.lconst 1, 1) := by decide +kernel
theorem dX7_worth_14 : decode cX7_worth 14 = .ok (.invokestatic 102, 3) := by decide +kernel
theorem dX7_worth_17 : decode cX7_worth 17 = .ok (.ifCond .eq 20, 3) := by decide +kernel
theorem dX7_worth_20 : decode cX7_worth 20 = .ok (.aload_n 0, 1) := by decide +kernel
theorem dX7_worth_21 : decode cX7_worth 21 = .ok (.iload_n 1, 1) := by decide +kernel
theorem dX7_worth_22 : decode cX7_worth 22 = .ok (.iconst 1, 1) := by decide +kernel
theorem dX7_worth_23 : decode cX7_worth 23 = .ok (.if_icmp .ne 7, 3) := by decide +kernel
theorem dX7_worth_26 : decode cX7_worth 26 = .ok (.iconst 1, 1) := by decide +kernel
theorem dX7_worth_27 : decode cX7_worth 27 = .ok (.goto 4, 3) := by decide +kernel
theorem dX7_worth_30 : decode cX7_worth 30 = .ok (.iconst 0, 1) := by decide +kernel
theorem dX7_worth_31 : decode cX7_worth 31 = .ok (.invokevirtual 242, 3) := by decide +kernel
theorem dX7_worth_34 : decode cX7_worth 34 = .ok (.ifCond .ne 7, 3) := by decide +kernel
theorem dX7_worth_37 : decode cX7_worth 37 = .ok (.ldc2_w 246, 3) := by decide +kernel
theorem dX7_worth_40 : decode cX7_worth 40 = .ok (.lreturn, 1) := by decide +kernel
theorem dX7_worth_41 : decode cX7_worth 41 = .ok (.aload_n 0, 1) := by decide +kernel
theorem dX7_worth_42 : decode cX7_worth 42 = .ok (.getfield 214, 3) := by decide +kernel
theorem dX7_worth_45 : decode cX7_worth 45 = .ok (.aload_n 0, 1) := by decide +kernel
theorem dX7_worth_46 : decode cX7_worth 46 = .ok (.getfield 211, 3) := by decide +kernel
theorem dX7_worth_49 : decode cX7_worth 49 = .ok (.iload_n 2, 1) := by decide +kernel
theorem dX7_worth_50 : decode cX7_worth 50 = .ok (.invokestatic 248, 3) := by decide +kernel
theorem dX7_worth_53 : decode cX7_worth 53 = .ok (.lreturn, 1) := by decide +kernel
theorem dX7_gap_0 : decode cX7_gap 0 = .ok (.iload_n 1, 1) := by decide +kernel
theorem dX7_gap_1 : decode cX7_gap 1 = .ok (.i2l, 1) := by decide +kernel
theorem dX7_gap_2 : decode cX7_gap 2 = .ok (.lconst 0, 1) := by decide +kernel
theorem dX7_gap_3 : decode cX7_gap 3 = .ok (.lconst 1, 1) := by decide +kernel
theorem dX7_gap_4 : decode cX7_gap 4 = .ok (.invokestatic 102, 3) := by decide +kernel
theorem dX7_gap_7 : decode cX7_gap 7 = .ok (.ifCond .eq 11, 3) := by decide +kernel
theorem dX7_gap_10 : decode cX7_gap 10 = .ok (.aload_n 0, 1) := by decide +kernel
theorem dX7_gap_11 : decode cX7_gap 11 = .ok (.iconst 0, 1) := by decide +kernel
theorem dX7_gap_12 : decode cX7_gap 12 = .ok (.invokevirtual 242, 3) := by decide +kernel
theorem dX7_gap_15 : decode cX7_gap 15 = .ok (.ifCond .ne 7, 3) := by decide +kernel
theorem dX7_gap_18 : decode cX7_gap 18 = .ok (.ldc2_w 246, 3) := by decide +kernel
theorem dX7_gap_21 : decode cX7_gap 21 = .ok (.lreturn, 1) := by decide +kernel
theorem dX7_gap_22 : decode cX7_gap 22 = .ok (.aload_n 0, 1) := by decide +kernel
theorem dX7_gap_23 : decode cX7_gap 23 = .ok (.getfield 214, 3) := by decide +kernel
theorem dX7_gap_26 : decode cX7_gap 26 = .ok (.lstore_n 2, 1) := by decide +kernel
theorem dX7_gap_27 : decode cX7_gap 27 = .ok (.aload_n 0, 1) := by decide +kernel
theorem dX7_gap_28 : decode cX7_gap 28 = .ok (.getfield 211, 3) := by decide +kernel
theorem dX7_gap_31 : decode cX7_gap 31 = .ok (.lstore 4, 2) := by decide +kernel
theorem dX7_gap_33 : decode cX7_gap 33 = .ok (.aload_n 0, 1) := by decide +kernel
theorem dX7_gap_34 : decode cX7_gap 34 = .ok (.iconst 1, 1) := by decide +kernel
theorem dX7_gap_35 : decode cX7_gap 35 = .ok (.invokevirtual 242, 3) := by decide +kernel
theorem dX7_gap_38 : decode cX7_gap 38 = .ok (.pop, 1) := by decide +kernel
theorem dX7_gap_39 : decode cX7_gap 39 = .ok (.aload_n 0, 1) := by decide +kernel
theorem dX7_gap_40 : decode cX7_gap 40 = .ok (.getfield 214, 3) := by decide +kernel
theorem dX7_gap_43 : decode cX7_gap 43 = .ok (.lload 4, 2) := by decide +kernel
theorem dX7_gap_45 : decode cX7_gap 45 = .ok (.lmul, 1) := by decide +kernel
theorem dX7_gap_46 : decode cX7_gap 46 = .ok (.lload_n 2, 1) := by decide +kernel
theorem dX7_gap_47 : decode cX7_gap 47 = .ok (.aload_n 0, 1) := by decide +kernel
theorem dX7_gap_48 : decode cX7_gap 48 = .ok (.getfield 211, 3) := by decide +kernel
theorem dX7_gap_51 : decode cX7_gap 51 = .ok (.lmul, 1) := by decide +kernel
theorem dX7_gap_52 : decode cX7_gap 52 = .ok (.lsub, 1) := by decide +kernel
theorem dX7_gap_53 : decode cX7_gap 53 = .ok (.aload_n 0, 1) := by decide +kernel
theorem dX7_gap_54 : decode cX7_gap 54 = .ok (.getfield 211, 3) := by decide +kernel
theorem dX7_gap_57 : decode cX7_gap 57 = .ok (.lload 4, 2) := by decide +kernel
theorem dX7_gap_59 : decode cX7_gap 59 = .ok (.lmul, 1) := by decide +kernel
theorem dX7_gap_60 : decode cX7_gap 60 = .ok (.iload_n 1, 1) := by decide +kernel
theorem dX7_gap_61 : decode cX7_gap 61 = .ok (.invokestatic 248, 3) := by decide +kernel
theorem dX7_gap_64 : decode cX7_gap 64 = .ok (.lreturn, 1) := by decide +kernel
theorem dX7_more_0 : decode cX7_more 0 = .ok (.aload_n 0, 1) := by decide +kernel
theorem dX7_more_1 : decode cX7_more 1 = .ok (.iload_n 1, 1) := by decide +kernel
theorem dX7_more_2 : decode cX7_more 2 = .ok (.invokevirtual 188, 3) := by decide +kernel
theorem dX7_more_5 : decode cX7_more 5 = .ok (.ifCond .eq 30, 3) := by decide +kernel
theorem dX7_more_8 : decode cX7_more 8 = .ok (.aload_n 0, 1) := by decide +kernel
theorem dX7_more_9 : decode cX7_more 9 = .ok (.getfield 23, 3) := by decide +kernel
theorem dX7_more_12 : decode cX7_more 12 = .ok (.iload_n 1, 1) := by decide +kernel
theorem dX7_more_13 : decode cX7_more 13 = .ok (.baload, 1) := by decide +kernel
theorem dX7_more_14 : decode cX7_more 14 = .ok (.ifCond .ne 21, 3) := by decide +kernel
theorem dX7_more_17 : decode cX7_more 17 = .ok (.iload_n 2, 1) := by decide +kernel
theorem dX7_more_18 : decode cX7_more 18 = .ok (.i2l, 1) := by decide +kernel
theorem dX7_more_19 : decode cX7_more 19 = .ok (.lconst 0, 1) := by decide +kernel
theorem dX7_more_20 : decode cX7_more 20 = .ok (.lconst 1, 1) := by decide +kernel
theorem dX7_more_21 : decode cX7_more 21 = .ok (.invokestatic 102, 3) := by decide +kernel
theorem dX7_more_24 : decode cX7_more 24 = .ok (.ifCond .eq 11, 3) := by decide +kernel
theorem dX7_more_27 : decode cX7_more 27 = .ok (.aload_n 0, 1) := by decide +kernel
theorem dX7_more_28 : decode cX7_more 28 = .ok (.iconst 1, 1) := by decide +kernel
theorem dX7_more_29 : decode cX7_more 29 = .ok (.invokevirtual 242, 3) := by decide +kernel
theorem dX7_more_32 : decode cX7_more 32 = .ok (.ifCond .ne 7, 3) := by decide +kernel
theorem dX7_more_35 : decode cX7_more 35 = .ok (.ldc2_w 246, 3) := by decide +kernel
theorem dX7_more_38 : decode cX7_more 38 = .ok (.lreturn, 1) := by decide +kernel
theorem dX7_more_39 : decode cX7_more 39 = .ok (.aload_n 0, 1) := by decide +kernel
theorem dX7_more_40 : decode cX7_more 40 = .ok (.getfield 214, 3) := by decide +kernel
theorem dX7_more_43 : decode cX7_more 43 = .ok (.lstore_n 3, 1) := by decide +kernel
theorem dX7_more_44 : decode cX7_more 44 = .ok (.aload_n 0, 1) := by decide +kernel
theorem dX7_more_45 : decode cX7_more 45 = .ok (.getfield 211, 3) := by decide +kernel
theorem dX7_more_48 : decode cX7_more 48 = .ok (.lstore 5, 2) := by decide +kernel
theorem dX7_more_50 : decode cX7_more 50 = .ok (.aload_n 0, 1) := by decide +kernel
theorem dX7_more_51 : decode cX7_more 51 = .ok (.getfield 20, 3) := by decide +kernel
theorem dX7_more_54 : decode cX7_more 54 = .ok (.iload_n 1, 1) := by decide +kernel
theorem dX7_more_55 : decode cX7_more 55 = .ok (.dup2, 1) := by decide +kernel
theorem dX7_more_56 : decode cX7_more 56 = .ok (.iaload, 1) := by decide +kernel
theorem dX7_more_57 : decode cX7_more 57 = .ok (.iconst 1, 1) := by decide +kernel
theorem dX7_more_58 : decode cX7_more 58 = .ok (.iadd, 1) := by decide +kernel
theorem dX7_more_59 : decode cX7_more 59 = .ok (.iastore, 1) := by decide +kernel
theorem dX7_more_60 : decode cX7_more 60 = .ok (.aload_n 0, 1) := by decide +kernel
theorem dX7_more_61 : decode cX7_more 61 = .ok (.iconst 1, 1) := by decide +kernel
theorem dX7_more_62 : decode cX7_more 62 = .ok (.invokevirtual 242, 3) := by decide +kernel
theorem dX7_more_65 : decode cX7_more 65 = .ok (.istore 7, 2) := by decide +kernel
theorem dX7_more_67 : decode cX7_more 67 = .ok (.aload_n 0, 1) := by decide +kernel
theorem dX7_more_68 : decode cX7_more 68 = .ok (.getfield 20, 3) := by decide +kernel
theorem dX7_more_71 : decode cX7_more 71 = .ok (.iload_n 1, 1) := by decide +kernel
theorem dX7_more_72 : decode cX7_more 72 = .ok (.dup2, 1) := by decide +kernel
theorem dX7_more_73 : decode cX7_more 73 = .ok (.iaload, 1) := by decide +kernel
theorem dX7_more_74 : decode cX7_more 74 = .ok (.iconst 1, 1) := by decide +kernel
theorem dX7_more_75 : decode cX7_more 75 = .ok (.isub, 1) := by decide +kernel
theorem dX7_more_76 : decode cX7_more 76 = .ok (.iastore, 1) := by decide +kernel
theorem dX7_more_77 : decode cX7_more 77 = .ok (.iload 7, 2) := by decide +kernel
theorem dX7_more_79 : decode cX7_more 79 = .ok (.ifCond .eq 31, 3) := by decide +kernel
theorem dX7_more_82 : decode cX7_more 82 = .ok (.aload_n 0, 1) := by decide +kernel
theorem dX7_more_83 : decode cX7_more 83 = .ok (.getfield 214, 3) := by decide +kernel
theorem dX7_more_86 : decode cX7_more 86 = .ok (.lload 5, 2) := by decide +kernel
theorem dX7_more_88 : decode cX7_more 88 = .ok (.lmul, 1) := by decide +kernel
theorem dX7_more_89 : decode cX7_more 89 = .ok (.lload_n 3, 1) := by decide +kernel
theorem dX7_more_90 : decode cX7_more 90 = .ok (.aload_n 0, 1) := by decide +kernel
theorem dX7_more_91 : decode cX7_more 91 = .ok (.getfield 211, 3) := by decide +kernel
theorem dX7_more_94 : decode cX7_more 94 = .ok (.lmul, 1) := by decide +kernel
theorem dX7_more_95 : decode cX7_more 95 = .ok (.lsub, 1) := by decide +kernel
theorem dX7_more_96 : decode cX7_more 96 = .ok (.aload_n 0, 1) := by decide +kernel
theorem dX7_more_97 : decode cX7_more 97 = .ok (.getfield 211, 3) := by decide +kernel
theorem dX7_more_100 : decode cX7_more 100 = .ok (.lload 5, 2) := by decide +kernel
theorem dX7_more_102 : decode cX7_more 102 = .ok (.lmul, 1) := by decide +kernel
theorem dX7_more_103 : decode cX7_more 103 = .ok (.iload_n 2, 1) := by decide +kernel
theorem dX7_more_104 : decode cX7_more 104 = .ok (.invokestatic 248, 3) := by decide +kernel
theorem dX7_more_107 : decode cX7_more 107 = .ok (.goto 6, 3) := by decide +kernel
theorem dX7_more_110 : decode cX7_more 110 = .ok (.ldc2_w 246, 3) := by decide +kernel
theorem dX7_more_113 : decode cX7_more 113 = .ok (.lreturn, 1) := by decide +kernel
theorem dX7_bitsIn_0 : decode cX7_bitsIn 0 = .ok (.iconst 0, 1) := by decide +kernel
theorem dX7_bitsIn_1 : decode cX7_bitsIn 1 = .ok (.istore_n 1, 1) := by decide +kernel
theorem dX7_bitsIn_2 : decode cX7_bitsIn 2 = .ok (.iconst 0, 1) := by decide +kernel
theorem dX7_bitsIn_3 : decode cX7_bitsIn 3 = .ok (.istore_n 2, 1) := by decide +kernel
theorem dX7_bitsIn_4 : decode cX7_bitsIn 4 = .ok (.iload_n 2, 1) := by decide +kernel
theorem dX7_bitsIn_5 : decode cX7_bitsIn 5 = .ok (.iconst 5, 1) := by decide +kernel
theorem dX7_bitsIn_6 : decode cX7_bitsIn 6 = .ok (.if_icmp .ge 17, 3) := by decide +kernel
theorem dX7_bitsIn_9 : decode cX7_bitsIn 9 = .ok (.iload_n 1, 1) := by decide +kernel
theorem dX7_bitsIn_10 : decode cX7_bitsIn 10 = .ok (.iload_n 0, 1) := by decide +kernel
theorem dX7_bitsIn_11 : decode cX7_bitsIn 11 = .ok (.iload_n 2, 1) := by decide +kernel
theorem dX7_bitsIn_12 : decode cX7_bitsIn 12 = .ok (.ishr, 1) := by decide +kernel
theorem dX7_bitsIn_13 : decode cX7_bitsIn 13 = .ok (.iconst 1, 1) := by decide +kernel
theorem dX7_bitsIn_14 : decode cX7_bitsIn 14 = .ok (.iand, 1) := by decide +kernel
theorem dX7_bitsIn_15 : decode cX7_bitsIn 15 = .ok (.iadd, 1) := by decide +kernel
theorem dX7_bitsIn_16 : decode cX7_bitsIn 16 = .ok (.istore_n 1, 1) := by decide +kernel
theorem dX7_bitsIn_17 : decode cX7_bitsIn 17 = .ok (.iinc 2 1, 3) := by decide +kernel
theorem dX7_bitsIn_20 : decode cX7_bitsIn 20 = .ok (.goto (-16), 3) := by decide +kernel
theorem dX7_bitsIn_23 : decode cX7_bitsIn 23 = .ok (.iload_n 1, 1) := by decide +kernel
theorem dX7_bitsIn_24 : decode cX7_bitsIn 24 = .ok (.ireturn, 1) := by decide +kernel
theorem dX7_clash_0 : decode cX7_clash 0 = .ok (.iload_n 1, 1) := by decide +kernel
theorem dX7_clash_1 : decode cX7_clash 1 = .ok (.i2l, 1) := by decide +kernel
theorem dX7_clash_2 : decode cX7_clash 2 = .ok (.lconst 0, 1) := by decide +kernel
theorem dX7_clash_3 : decode cX7_clash 3 = .ok (.lconst 1, 1) := by decide +kernel
theorem dX7_clash_4 : decode cX7_clash 4 = .ok (.invokestatic 102, 3) := by decide +kernel
theorem dX7_clash_7 : decode cX7_clash 7 = .ok (.ifCond .ne 5, 3) := by decide +kernel
theorem dX7_clash_10 : decode cX7_clash 10 = .ok (.iconst (-1), 1) := by decide +kernel
theorem dX7_clash_11 : decode cX7_clash 11 = .ok (.ireturn, 1) := by decide +kernel
theorem dX7_clash_12 : decode cX7_clash 12 = .ok (.bipush (-9), 2) := by decide +kernel
theorem dX7_clash_14 : decode cX7_clash 14 = .ok (.istore_n 2, 1) := by decide +kernel
theorem dX7_clash_15 : decode cX7_clash 15 = .ok (.iconst 0, 1) := by decide +kernel
theorem dX7_clash_16 : decode cX7_clash 16 = .ok (.istore_n 3, 1) := by decide +kernel
theorem dX7_clash_17 : decode cX7_clash 17 = .ok (.iload_n 3, 1) := by decide +kernel
theorem dX7_clash_18 : decode cX7_clash 18 = .ok (.aload_n 0, 1) := by decide +kernel
theorem dX7_clash_19 : decode cX7_clash 19 = .ok (.getfield 182, 3) := by decide +kernel
theorem dX7_clash_22 : decode cX7_clash 22 = .ok (.if_icmp .ge 21, 3) := by decide +kernel
theorem dX7_clash_25 : decode cX7_clash 25 = .ok (.aload_n 0, 1) := by decide +kernel
theorem dX7_clash_26 : decode cX7_clash 26 = .ok (.getfield 94, 3) := by decide +kernel
theorem dX7_clash_29 : decode cX7_clash 29 = .ok (.iload_n 3, 1) := by decide +kernel
theorem dX7_clash_30 : decode cX7_clash 30 = .ok (.aload_n 0, 1) := by decide +kernel
theorem dX7_clash_31 : decode cX7_clash 31 = .ok (.getfield 23, 3) := by decide +kernel
theorem dX7_clash_34 : decode cX7_clash 34 = .ok (.iload_n 3, 1) := by decide +kernel
theorem dX7_clash_35 : decode cX7_clash 35 = .ok (.baload, 1) := by decide +kernel
theorem dX7_clash_36 : decode cX7_clash 36 = .ok (.bastore, 1) := by decide +kernel
theorem dX7_clash_37 : decode cX7_clash 37 = .ok (.iinc 3 1, 3) := by decide +kernel
theorem dX7_clash_40 : decode cX7_clash 40 = .ok (.goto (-23), 3) := by decide +kernel
theorem dX7_clash_43 : decode cX7_clash 43 = .ok (.iconst 0, 1) := by decide +kernel
theorem dX7_clash_44 : decode cX7_clash 44 = .ok (.istore_n 3, 1) := by decide +kernel
theorem dX7_clash_45 : decode cX7_clash 45 = .ok (.iload_n 3, 1) := by decide +kernel
theorem dX7_clash_46 : decode cX7_clash 46 = .ok (.iconst 1, 1) := by decide +kernel
theorem dX7_clash_47 : decode cX7_clash 47 = .ok (.aload_n 0, 1) := by decide +kernel
theorem dX7_clash_48 : decode cX7_clash 48 = .ok (.getfield 182, 3) := by decide +kernel
theorem dX7_clash_51 : decode cX7_clash 51 = .ok (.ishl, 1) := by decide +kernel
theorem dX7_clash_52 : decode cX7_clash 52 = .ok (.if_icmp .ge 122, 3) := by decide +kernel
theorem dX7_clash_55 : decode cX7_clash 55 = .ok (.iload_n 2, 1) := by decide +kernel
theorem dX7_clash_56 : decode cX7_clash 56 = .ok (.bipush (-9), 2) := by decide +kernel
theorem dX7_clash_58 : decode cX7_clash 58 = .ok (.if_icmp .eq 14, 3) := by decide +kernel
theorem dX7_clash_61 : decode cX7_clash 61 = .ok (.iload_n 3, 1) := by decide +kernel
theorem dX7_clash_62 : decode cX7_clash 62 = .ok (.invokestatic 252, 3) := by decide +kernel
theorem dX7_clash_65 : decode cX7_clash 65 = .ok (.iload_n 2, 1) := by decide +kernel
theorem dX7_clash_66 : decode cX7_clash 66 = .ok (.invokestatic 252, 3) := by decide +kernel
theorem dX7_clash_69 : decode cX7_clash 69 = .ok (.if_icmp .ge 7, 3) := by decide +kernel
theorem dX7_clash_72 : decode cX7_clash 72 = .ok (.iconst 1, 1) := by decide +kernel
theorem dX7_clash_73 : decode cX7_clash 73 = .ok (.goto 4, 3) := by decide +kernel
theorem dX7_clash_76 : decode cX7_clash 76 = .ok (.iconst 0, 1) := by decide +kernel
theorem dX7_clash_77 : decode cX7_clash 77 = .ok (.istore 4, 2) := by decide +kernel
theorem dX7_clash_79 : decode cX7_clash 79 = .ok (.iconst 0, 1) := by decide +kernel
theorem dX7_clash_80 : decode cX7_clash 80 = .ok (.istore 5, 2) := by decide +kernel
theorem dX7_clash_82 : decode cX7_clash 82 = .ok (.iload 5, 2) := by decide +kernel
theorem dX7_clash_84 : decode cX7_clash 84 = .ok (.aload_n 0, 1) := by decide +kernel
theorem dX7_clash_85 : decode cX7_clash 85 = .ok (.getfield 182, 3) := by decide +kernel
theorem dX7_clash_88 : decode cX7_clash 88 = .ok (.if_icmp .ge 61, 3) := by decide +kernel
theorem dX7_clash_91 : decode cX7_clash 91 = .ok (.iload 4, 2) := by decide +kernel
theorem dX7_clash_93 : decode cX7_clash 93 = .ok (.ifCond .eq 26, 3) := by decide +kernel
theorem dX7_clash_96 : decode cX7_clash 96 = .ok (.iload_n 3, 1) := by decide +kernel
theorem dX7_clash_97 : decode cX7_clash 97 = .ok (.iload 5, 2) := by decide +kernel
theorem dX7_clash_99 : decode cX7_clash 99 = .ok (.ishr, 1) := by decide +kernel
theorem dX7_clash_100 : decode cX7_clash 100 = .ok (.iconst 1, 1) := by decide +kernel
theorem dX7_clash_101 : decode cX7_clash 101 = .ok (.iand, 1) := by decide +kernel
theorem dX7_clash_102 : decode cX7_clash 102 = .ok (.ifCond .eq 13, 3) := by decide +kernel
theorem dX7_clash_105 : decode cX7_clash 105 = .ok (.aload_n 0, 1) := by decide +kernel
theorem dX7_clash_106 : decode cX7_clash 106 = .ok (.getfield 94, 3) := by decide +kernel
theorem dX7_clash_109 : decode cX7_clash 109 = .ok (.iload 5, 2) := by decide +kernel
theorem dX7_clash_111 : decode cX7_clash 111 = .ok (.baload, 1) := by decide +kernel
theorem dX7_clash_112 : decode cX7_clash 112 = .ok (.ifCond .ne 7, 3) := by decide +kernel
theorem dX7_clash_115 : decode cX7_clash 115 = .ok (.iconst 1, 1) := by decide +kernel
theorem dX7_clash_116 : decode cX7_clash 116 = .ok (.goto 4, 3) := by decide +kernel
theorem dX7_clash_119 : decode cX7_clash 119 = .ok (.iconst 0, 1) := by decide +kernel
theorem dX7_clash_120 : decode cX7_clash 120 = .ok (.istore 4, 2) := by decide +kernel
theorem dX7_clash_122 : decode cX7_clash 122 = .ok (.aload_n 0, 1) := by decide +kernel
theorem dX7_clash_123 : decode cX7_clash 123 = .ok (.getfield 23, 3) := by decide +kernel
theorem dX7_clash_126 : decode cX7_clash 126 = .ok (.iload 5, 2) := by decide +kernel
theorem dX7_clash_128 : decode cX7_clash 128 = .ok (.iload_n 3, 1) := by decide +kernel
theorem dX7_clash_129 : decode cX7_clash 129 = .ok (.iload 5, 2) := by decide +kernel
theorem dX7_clash_131 : decode cX7_clash 131 = .ok (.ishr, 1) := by decide +kernel
theorem dX7_clash_132 : decode cX7_clash 132 = .ok (.iconst 1, 1) := by decide +kernel
theorem dX7_clash_133 : decode cX7_clash 133 = .ok (.iand, 1) := by decide +kernel
theorem dX7_clash_134 : decode cX7_clash 134 = .ok (.ifCond .ne 7, 3) := by decide +kernel
theorem dX7_clash_137 : decode cX7_clash 137 = .ok (.iconst 1, 1) := by decide +kernel
theorem dX7_clash_138 : decode cX7_clash 138 = .ok (.goto 4, 3) := by decide +kernel
theorem dX7_clash_141 : decode cX7_clash 141 = .ok (.iconst 0, 1) := by decide +kernel
theorem dX7_clash_142 : decode cX7_clash 142 = .ok (.bastore, 1) := by decide +kernel
theorem dX7_clash_143 : decode cX7_clash 143 = .ok (.iinc 5 1, 3) := by decide +kernel
theorem dX7_clash_146 : decode cX7_clash 146 = .ok (.goto (-64), 3) := by decide +kernel
theorem dX7_clash_149 : decode cX7_clash 149 = .ok (.iload 4, 2) := by decide +kernel
theorem dX7_clash_151 : decode cX7_clash 151 = .ok (.ifCond .eq 15, 3) := by decide +kernel
theorem dX7_clash_154 : decode cX7_clash 154 = .ok (.aload_n 0, 1) := by decide +kernel
theorem dX7_clash_155 : decode cX7_clash 155 = .ok (.iconst 1, 1) := by decide +kernel
theorem dX7_clash_156 : decode cX7_clash 156 = .ok (.invokevirtual 242, 3) := by decide +kernel
theorem dX7_clash_159 : decode cX7_clash 159 = .ok (.ifCond .ne 7, 3) := by decide +kernel
theorem dX7_clash_162 : decode cX7_clash 162 = .ok (.iload_n 3, 1) := by decide +kernel
theorem dX7_clash_163 : decode cX7_clash 163 = .ok (.goto 4, 3) := by decide +kernel
theorem dX7_clash_166 : decode cX7_clash 166 = .ok (.iload_n 2, 1) := by decide +kernel
theorem dX7_clash_167 : decode cX7_clash 167 = .ok (.istore_n 2, 1) := by decide +kernel
theorem dX7_clash_168 : decode cX7_clash 168 = .ok (.iinc 3 1, 3) := by decide +kernel
theorem dX7_clash_171 : decode cX7_clash 171 = .ok (.goto (-126), 3) := by decide +kernel
theorem dX7_clash_174 : decode cX7_clash 174 = .ok (.iconst 0, 1) := by decide +kernel
theorem dX7_clash_175 : decode cX7_clash 175 = .ok (.istore_n 3, 1) := by decide +kernel
theorem dX7_clash_176 : decode cX7_clash 176 = .ok (.iload_n 3, 1) := by decide +kernel
theorem dX7_clash_177 : decode cX7_clash 177 = .ok (.aload_n 0, 1) := by decide +kernel
theorem dX7_clash_178 : decode cX7_clash 178 = .ok (.getfield 182, 3) := by decide +kernel
theorem dX7_clash_181 : decode cX7_clash 181 = .ok (.if_icmp .ge 21, 3) := by decide +kernel
theorem dX7_clash_184 : decode cX7_clash 184 = .ok (.aload_n 0, 1) := by decide +kernel
theorem dX7_clash_185 : decode cX7_clash 185 = .ok (.getfield 23, 3) := by decide +kernel
theorem dX7_clash_188 : decode cX7_clash 188 = .ok (.iload_n 3, 1) := by decide +kernel
theorem dX7_clash_189 : decode cX7_clash 189 = .ok (.aload_n 0, 1) := by decide +kernel
theorem dX7_clash_190 : decode cX7_clash 190 = .ok (.getfield 94, 3) := by decide +kernel
theorem dX7_clash_193 : decode cX7_clash 193 = .ok (.iload_n 3, 1) := by decide +kernel
theorem dX7_clash_194 : decode cX7_clash 194 = .ok (.baload, 1) := by decide +kernel
theorem dX7_clash_195 : decode cX7_clash 195 = .ok (.bastore, 1) := by decide +kernel
theorem dX7_clash_196 : decode cX7_clash 196 = .ok (.iinc 3 1, 3) := by decide +kernel
theorem dX7_clash_199 : decode cX7_clash 199 = .ok (.goto (-23), 3) := by decide +kernel
theorem dX7_clash_202 : decode cX7_clash 202 = .ok (.iload_n 2, 1) := by decide +kernel
theorem dX7_clash_203 : decode cX7_clash 203 = .ok (.bipush (-9), 2) := by decide +kernel
theorem dX7_clash_205 : decode cX7_clash 205 = .ok (.if_icmp .eq 8, 3) := by decide +kernel
theorem dX7_clash_208 : decode cX7_clash 208 = .ok (.iload_n 1, 1) := by decide +kernel
theorem dX7_clash_209 : decode cX7_clash 209 = .ok (.iconst 1, 1) := by decide +kernel
theorem dX7_clash_210 : decode cX7_clash 210 = .ok (.if_icmp .ne 7, 3) := by decide +kernel
theorem dX7_clash_213 : decode cX7_clash 213 = .ok (.iload_n 2, 1) := by decide +kernel
theorem dX7_clash_214 : decode cX7_clash 214 = .ok (.goto 7, 3) := by decide +kernel
theorem dX7_clash_217 : decode cX7_clash 217 = .ok (.iload_n 2, 1) := by decide +kernel
theorem dX7_clash_218 : decode cX7_clash 218 = .ok (.invokestatic 252, 3) := by decide +kernel
theorem dX7_clash_221 : decode cX7_clash 221 = .ok (.ireturn, 1) := by decide +kernel
theorem dX7_tell_0 : decode cX7_tell 0 = .ok (.iload_n 1, 1) := by decide +kernel
theorem dX7_tell_1 : decode cX7_tell 1 = .ok (.i2l, 1) := by decide +kernel
theorem dX7_tell_2 : decode cX7_tell 2 = .ok (.lconst 0, 1) := by decide +kernel
theorem dX7_tell_3 : decode cX7_tell 3 = .ok (.lconst 1, 1) := by decide +kernel
theorem dX7_tell_4 : decode cX7_tell 4 = .ok (.invokestatic 102, 3) := by decide +kernel
theorem dX7_tell_7 : decode cX7_tell 7 = .ok (.ifCond .eq 53, 3) := by decide +kernel
theorem dX7_tell_10 : decode cX7_tell 10 = .ok (.iload_n 1, 1) := by decide +kernel
theorem dX7_tell_11 : decode cX7_tell 11 = .ok (.ifCond .ne 14, 3) := by decide +kernel
theorem dX7_tell_14 : decode cX7_tell 14 = .ok (.aload_n 0, 1) := by decide +kernel
theorem dX7_tell_15 : decode cX7_tell 15 = .ok (.iload_n 2, 1) := by decide +kernel
theorem dX7_tell_16 : decode cX7_tell 16 = .ok (.invokevirtual 194, 3) := by decide +kernel
theorem dX7_tell_19 : decode cX7_tell 19 = .ok (.ifCond .eq 41, 3) := by decide +kernel
theorem dX7_tell_22 : decode cX7_tell 22 = .ok (.goto 11, 3) := by decide +kernel
theorem dX7_tell_25 : decode cX7_tell 25 = .ok (.aload_n 0, 1) := by decide +kernel
theorem dX7_tell_26 : decode cX7_tell 26 = .ok (.iload_n 2, 1) := by decide +kernel
theorem dX7_tell_27 : decode cX7_tell 27 = .ok (.invokevirtual 188, 3) := by decide +kernel
theorem dX7_tell_30 : decode cX7_tell 30 = .ok (.ifCond .eq 30, 3) := by decide +kernel
theorem dX7_tell_33 : decode cX7_tell 33 = .ok (.iload_n 3, 1) := by decide +kernel
theorem dX7_tell_34 : decode cX7_tell 34 = .ok (.i2l, 1) := by decide +kernel
theorem dX7_tell_35 : decode cX7_tell 35 = .ok (.ldc2_w 256, 3) := by decide +kernel
theorem dX7_tell_38 : decode cX7_tell 38 = .ok (.ldc2_w 258, 3) := by decide +kernel
theorem dX7_tell_41 : decode cX7_tell 41 = .ok (.invokestatic 102, 3) := by decide +kernel
theorem dX7_tell_44 : decode cX7_tell 44 = .ok (.ifCond .eq 16, 3) := by decide +kernel
theorem dX7_tell_47 : decode cX7_tell 47 = .ok (.iload 4, 2) := by decide +kernel
theorem dX7_tell_49 : decode cX7_tell 49 = .ok (.i2l, 1) := by decide +kernel
theorem dX7_tell_50 : decode cX7_tell 50 = .ok (.lconst 1, 1) := by decide +kernel
theorem dX7_tell_51 : decode cX7_tell 51 = .ok (.ldc2_w 260, 3) := by decide +kernel
theorem dX7_tell_54 : decode cX7_tell 54 = .ok (.invokestatic 102, 3) := by decide +kernel
theorem dX7_tell_57 : decode cX7_tell 57 = .ok (.ifCond .ne 5, 3) := by decide +kernel
theorem dX7_tell_60 : decode cX7_tell 60 = .ok (.iconst (-1), 1) := by decide +kernel
theorem dX7_tell_61 : decode cX7_tell 61 = .ok (.ireturn, 1) := by decide +kernel
theorem dX7_tell_62 : decode cX7_tell 62 = .ok (.iload_n 1, 1) := by decide +kernel
theorem dX7_tell_63 : decode cX7_tell 63 = .ok (.ifCond .ne 21, 3) := by decide +kernel
theorem dX7_tell_66 : decode cX7_tell 66 = .ok (.aload_n 0, 1) := by decide +kernel
theorem dX7_tell_67 : decode cX7_tell 67 = .ok (.getfield 42, 3) := by decide +kernel
theorem dX7_tell_70 : decode cX7_tell 70 = .ok (.iload_n 2, 1) := by decide +kernel
theorem dX7_tell_71 : decode cX7_tell 71 = .ok (.iload_n 3, 1) := by decide +kernel
theorem dX7_tell_72 : decode cX7_tell 72 = .ok (.iastore, 1) := by decide +kernel
theorem dX7_tell_73 : decode cX7_tell 73 = .ok (.aload_n 0, 1) := by decide +kernel
theorem dX7_tell_74 : decode cX7_tell 74 = .ok (.getfield 45, 3) := by decide +kernel
theorem dX7_tell_77 : decode cX7_tell 77 = .ok (.iload_n 2, 1) := by decide +kernel
theorem dX7_tell_78 : decode cX7_tell 78 = .ok (.iload 4, 2) := by decide +kernel
theorem dX7_tell_80 : decode cX7_tell 80 = .ok (.iastore, 1) := by decide +kernel
theorem dX7_tell_81 : decode cX7_tell 81 = .ok (.goto 18, 3) := by decide +kernel
theorem dX7_tell_84 : decode cX7_tell 84 = .ok (.aload_n 0, 1) := by decide +kernel
theorem dX7_tell_85 : decode cX7_tell 85 = .ok (.getfield 48, 3) := by decide +kernel
theorem dX7_tell_88 : decode cX7_tell 88 = .ok (.iload_n 2, 1) := by decide +kernel
theorem dX7_tell_89 : decode cX7_tell 89 = .ok (.iload_n 3, 1) := by decide +kernel
theorem dX7_tell_90 : decode cX7_tell 90 = .ok (.iastore, 1) := by decide +kernel
theorem dX7_tell_91 : decode cX7_tell 91 = .ok (.aload_n 0, 1) := by decide +kernel
theorem dX7_tell_92 : decode cX7_tell 92 = .ok (.getfield 51, 3) := by decide +kernel
theorem dX7_tell_95 : decode cX7_tell 95 = .ok (.iload_n 2, 1) := by decide +kernel
theorem dX7_tell_96 : decode cX7_tell 96 = .ok (.iload 4, 2) := by decide +kernel
theorem dX7_tell_98 : decode cX7_tell 98 = .ok (.iastore, 1) := by decide +kernel
theorem dX7_tell_99 : decode cX7_tell 99 = .ok (.iconst 1, 1) := by decide +kernel
theorem dX7_tell_100 : decode cX7_tell 100 = .ok (.ireturn, 1) := by decide +kernel
theorem dX7_toldX_0 : decode cX7_toldX 0 = .ok (.aload_n 0, 1) := by decide +kernel
theorem dX7_toldX_1 : decode cX7_toldX 1 = .ok (.getfield 42, 3) := by decide +kernel
theorem dX7_toldX_4 : decode cX7_toldX 4 = .ok (.iload_n 1, 1) := by decide +kernel
theorem dX7_toldX_5 : decode cX7_toldX 5 = .ok (.iaload, 1) := by decide +kernel
theorem dX7_toldX_6 : decode cX7_toldX 6 = .ok (.i2l, 1) := by decide +kernel
theorem dX7_toldX_7 : decode cX7_toldX 7 = .ok (.sipush 27720, 3) := by decide +kernel
theorem dX7_toldX_10 : decode cX7_toldX 10 = .ok (.aload_n 0, 1) := by decide +kernel
theorem dX7_toldX_11 : decode cX7_toldX 11 = .ok (.getfield 45, 3) := by decide +kernel
theorem dX7_toldX_14 : decode cX7_toldX 14 = .ok (.iload_n 1, 1) := by decide +kernel
theorem dX7_toldX_15 : decode cX7_toldX 15 = .ok (.iaload, 1) := by decide +kernel
theorem dX7_toldX_16 : decode cX7_toldX 16 = .ok (.idiv, 1) := by decide +kernel
theorem dX7_toldX_17 : decode cX7_toldX 17 = .ok (.i2l, 1) := by decide +kernel
theorem dX7_toldX_18 : decode cX7_toldX 18 = .ok (.lmul, 1) := by decide +kernel
theorem dX7_toldX_19 : decode cX7_toldX 19 = .ok (.lreturn, 1) := by decide +kernel
theorem dX7_price_0 : decode cX7_price 0 = .ok (.aload_n 0, 1) := by decide +kernel
theorem dX7_price_1 : decode cX7_price 1 = .ok (.getfield 48, 3) := by decide +kernel
theorem dX7_price_4 : decode cX7_price 4 = .ok (.iload_n 1, 1) := by decide +kernel
theorem dX7_price_5 : decode cX7_price 5 = .ok (.iaload, 1) := by decide +kernel
theorem dX7_price_6 : decode cX7_price 6 = .ok (.i2l, 1) := by decide +kernel
theorem dX7_price_7 : decode cX7_price 7 = .ok (.sipush 27720, 3) := by decide +kernel
theorem dX7_price_10 : decode cX7_price 10 = .ok (.aload_n 0, 1) := by decide +kernel
theorem dX7_price_11 : decode cX7_price 11 = .ok (.getfield 51, 3) := by decide +kernel
theorem dX7_price_14 : decode cX7_price 14 = .ok (.iload_n 1, 1) := by decide +kernel
theorem dX7_price_15 : decode cX7_price 15 = .ok (.iaload, 1) := by decide +kernel
theorem dX7_price_16 : decode cX7_price 16 = .ok (.idiv, 1) := by decide +kernel
theorem dX7_price_17 : decode cX7_price 17 = .ok (.i2l, 1) := by decide +kernel
theorem dX7_price_18 : decode cX7_price 18 = .ok (.lmul, 1) := by decide +kernel
theorem dX7_price_19 : decode cX7_price 19 = .ok (.lreturn, 1) := by decide +kernel
theorem dX7_isWithin_0 : decode cX7_isWithin 0 = .ok (.aload_n 0, 1) := by decide +kernel
theorem dX7_isWithin_1 : decode cX7_isWithin 1 = .ok (.getfield 36, 3) := by decide +kernel
theorem dX7_isWithin_4 : decode cX7_isWithin 4 = .ok (.iload_n 1, 1) := by decide +kernel
theorem dX7_isWithin_5 : decode cX7_isWithin 5 = .ok (.baload, 1) := by decide +kernel
theorem dX7_isWithin_6 : decode cX7_isWithin 6 = .ok (.ifCond .eq 20, 3) := by decide +kernel
theorem dX7_isWithin_9 : decode cX7_isWithin 9 = .ok (.aload_n 0, 1) := by decide +kernel
theorem dX7_isWithin_10 : decode cX7_isWithin 10 = .ok (.getfield 42, 3) := by decide +kernel
theorem dX7_isWithin_13 : decode cX7_isWithin 13 = .ok (.iload_n 1, 1) := by decide +kernel
theorem dX7_isWithin_14 : decode cX7_isWithin 14 = .ok (.iaload, 1) := by decide +kernel
theorem dX7_isWithin_15 : decode cX7_isWithin 15 = .ok (.ifCond .ne 7, 3) := by decide +kernel
theorem dX7_isWithin_18 : decode cX7_isWithin 18 = .ok (.iconst 1, 1) := by decide +kernel
theorem dX7_isWithin_19 : decode cX7_isWithin 19 = .ok (.goto 27, 3) := by decide +kernel
theorem dX7_isWithin_22 : decode cX7_isWithin 22 = .ok (.iconst 0, 1) := by decide +kernel
theorem dX7_isWithin_23 : decode cX7_isWithin 23 = .ok (.goto 23, 3) := by decide +kernel
theorem dX7_isWithin_26 : decode cX7_isWithin 26 = .ok (.aload_n 0, 1) := by decide +kernel
theorem dX7_isWithin_27 : decode cX7_isWithin 27 = .ok (.iload_n 1, 1) := by decide +kernel
theorem dX7_isWithin_28 : decode cX7_isWithin 28 = .ok (.invokevirtual 262, 3) := by decide +kernel
theorem dX7_isWithin_31 : decode cX7_isWithin 31 = .ok (.lconst 0, 1) := by decide +kernel
theorem dX7_isWithin_32 : decode cX7_isWithin 32 = .ok (.aload_n 0, 1) := by decide +kernel
theorem dX7_isWithin_33 : decode cX7_isWithin 33 = .ok (.getfield 33, 3) := by decide +kernel
theorem dX7_isWithin_36 : decode cX7_isWithin 36 = .ok (.iload_n 1, 1) := by decide +kernel
theorem dX7_isWithin_37 : decode cX7_isWithin 37 = .ok (.iaload, 1) := by decide +kernel
theorem dX7_isWithin_38 : decode cX7_isWithin 38 = .ok (.i2l, 1) := by decide +kernel
theorem dX7_isWithin_39 : decode cX7_isWithin 39 = .ok (.ldc2_w 265, 3) := by decide +kernel
theorem dX7_isWithin_42 : decode cX7_isWithin 42 = .ok (.lmul, 1) := by decide +kernel
theorem dX7_isWithin_43 : decode cX7_isWithin 43 = .ok (.invokestatic 102, 3) := by decide +kernel
theorem dX7_isWithin_46 : decode cX7_isWithin 46 = .ok (.ireturn, 1) := by decide +kernel
theorem dX7_isHeld_0 : decode cX7_isHeld 0 = .ok (.lconst 0, 1) := by decide +kernel
theorem dX7_isHeld_1 : decode cX7_isHeld 1 = .ok (.lstore_n 2, 1) := by decide +kernel
theorem dX7_isHeld_2 : decode cX7_isHeld 2 = .ok (.iconst 0, 1) := by decide +kernel
theorem dX7_isHeld_3 : decode cX7_isHeld 3 = .ok (.istore 4, 2) := by decide +kernel
theorem dX7_isHeld_5 : decode cX7_isHeld 5 = .ok (.iload 4, 2) := by decide +kernel
theorem dX7_isHeld_7 : decode cX7_isHeld 7 = .ok (.aload_n 0, 1) := by decide +kernel
theorem dX7_isHeld_8 : decode cX7_isHeld 8 = .ok (.getfield 185, 3) := by decide +kernel
theorem dX7_isHeld_11 : decode cX7_isHeld 11 = .ok (.if_icmp .ge 45, 3) := by decide +kernel
theorem dX7_isHeld_14 : decode cX7_isHeld 14 = .ok (.lload_n 2, 1) := by decide +kernel
theorem dX7_isHeld_15 : decode cX7_isHeld 15 = .ok (.aload_n 0, 1) := by decide +kernel
theorem dX7_isHeld_16 : decode cX7_isHeld 16 = .ok (.getfield 36, 3) := by decide +kernel
theorem dX7_isHeld_19 : decode cX7_isHeld 19 = .ok (.iload 4, 2) := by decide +kernel
theorem dX7_isHeld_21 : decode cX7_isHeld 21 = .ok (.baload, 1) := by decide +kernel
theorem dX7_isHeld_22 : decode cX7_isHeld 22 = .ok (.ifCond .eq 7, 3) := by decide +kernel
theorem dX7_isHeld_25 : decode cX7_isHeld 25 = .ok (.lconst 0, 1) := by decide +kernel
theorem dX7_isHeld_26 : decode cX7_isHeld 26 = .ok (.goto 22, 3) := by decide +kernel
theorem dX7_isHeld_29 : decode cX7_isHeld 29 = .ok (.aload_n 0, 1) := by decide +kernel
theorem dX7_isHeld_30 : decode cX7_isHeld 30 = .ok (.getfield 39, 3) := by decide +kernel
theorem dX7_isHeld_33 : decode cX7_isHeld 33 = .ok (.iconst 5, 1) := by decide +kernel
theorem dX7_isHeld_34 : decode cX7_isHeld 34 = .ok (.iload 4, 2) := by decide +kernel
theorem dX7_isHeld_36 : decode cX7_isHeld 36 = .ok (.imul, 1) := by decide +kernel
theorem dX7_isHeld_37 : decode cX7_isHeld 37 = .ok (.iload_n 1, 1) := by decide +kernel
theorem dX7_isHeld_38 : decode cX7_isHeld 38 = .ok (.iadd, 1) := by decide +kernel
theorem dX7_isHeld_39 : decode cX7_isHeld 39 = .ok (.iaload, 1) := by decide +kernel
theorem dX7_isHeld_40 : decode cX7_isHeld 40 = .ok (.i2l, 1) := by decide +kernel
theorem dX7_isHeld_41 : decode cX7_isHeld 41 = .ok (.aload_n 0, 1) := by decide +kernel
theorem dX7_isHeld_42 : decode cX7_isHeld 42 = .ok (.iload 4, 2) := by decide +kernel
theorem dX7_isHeld_44 : decode cX7_isHeld 44 = .ok (.invokevirtual 262, 3) := by decide +kernel
theorem dX7_isHeld_47 : decode cX7_isHeld 47 = .ok (.lmul, 1) := by decide +kernel
theorem dX7_isHeld_48 : decode cX7_isHeld 48 = .ok (.ladd, 1) := by decide +kernel
theorem dX7_isHeld_49 : decode cX7_isHeld 49 = .ok (.lstore_n 2, 1) := by decide +kernel
theorem dX7_isHeld_50 : decode cX7_isHeld 50 = .ok (.iinc 4 1, 3) := by decide +kernel
theorem dX7_isHeld_53 : decode cX7_isHeld 53 = .ok (.goto (-48), 3) := by decide +kernel
theorem dX7_isHeld_56 : decode cX7_isHeld 56 = .ok (.aload_n 0, 1) := by decide +kernel
theorem dX7_isHeld_57 : decode cX7_isHeld 57 = .ok (.getfield 20, 3) := by decide +kernel
theorem dX7_isHeld_60 : decode cX7_isHeld 60 = .ok (.iload_n 1, 1) := by decide +kernel
theorem dX7_isHeld_61 : decode cX7_isHeld 61 = .ok (.iaload, 1) := by decide +kernel
theorem dX7_isHeld_62 : decode cX7_isHeld 62 = .ok (.i2l, 1) := by decide +kernel
theorem dX7_isHeld_63 : decode cX7_isHeld 63 = .ok (.ldc2_w 265, 3) := by decide +kernel
theorem dX7_isHeld_66 : decode cX7_isHeld 66 = .ok (.lmul, 1) := by decide +kernel
theorem dX7_isHeld_67 : decode cX7_isHeld 67 = .ok (.lstore 4, 2) := by decide +kernel
theorem dX7_isHeld_69 : decode cX7_isHeld 69 = .ok (.aload_n 0, 1) := by decide +kernel
theorem dX7_isHeld_70 : decode cX7_isHeld 70 = .ok (.getfield 23, 3) := by decide +kernel
theorem dX7_isHeld_73 : decode cX7_isHeld 73 = .ok (.iload_n 1, 1) := by decide +kernel
theorem dX7_isHeld_74 : decode cX7_isHeld 74 = .ok (.baload, 1) := by decide +kernel
theorem dX7_isHeld_75 : decode cX7_isHeld 75 = .ok (.ifCond .ne 30, 3) := by decide +kernel
theorem dX7_isHeld_78 : decode cX7_isHeld 78 = .ok (.aload_n 0, 1) := by decide +kernel
theorem dX7_isHeld_79 : decode cX7_isHeld 79 = .ok (.getfield 17, 3) := by decide +kernel
theorem dX7_isHeld_82 : decode cX7_isHeld 82 = .ok (.iload_n 1, 1) := by decide +kernel
theorem dX7_isHeld_83 : decode cX7_isHeld 83 = .ok (.iaload, 1) := by decide +kernel
theorem dX7_isHeld_84 : decode cX7_isHeld 84 = .ok (.iconst 1, 1) := by decide +kernel
theorem dX7_isHeld_85 : decode cX7_isHeld 85 = .ok (.if_icmp .ne 13, 3) := by decide +kernel
theorem dX7_isHeld_88 : decode cX7_isHeld 88 = .ok (.lload_n 2, 1) := by decide +kernel
theorem dX7_isHeld_89 : decode cX7_isHeld 89 = .ok (.lload 4, 2) := by decide +kernel
theorem dX7_isHeld_91 : decode cX7_isHeld 91 = .ok (.lcmp, 1) := by decide +kernel
theorem dX7_isHeld_92 : decode cX7_isHeld 92 = .ok (.ifCond .lt 17, 3) := by decide +kernel
theorem dX7_isHeld_95 : decode cX7_isHeld 95 = .ok (.goto 10, 3) := by decide +kernel
theorem dX7_isHeld_98 : decode cX7_isHeld 98 = .ok (.lload_n 2, 1) := by decide +kernel
theorem dX7_isHeld_99 : decode cX7_isHeld 99 = .ok (.lload 4, 2) := by decide +kernel
theorem dX7_isHeld_101 : decode cX7_isHeld 101 = .ok (.lcmp, 1) := by decide +kernel
theorem dX7_isHeld_102 : decode cX7_isHeld 102 = .ok (.ifCond .gt 7, 3) := by decide +kernel
theorem dX7_isHeld_105 : decode cX7_isHeld 105 = .ok (.iconst 1, 1) := by decide +kernel
theorem dX7_isHeld_106 : decode cX7_isHeld 106 = .ok (.goto 4, 3) := by decide +kernel
theorem dX7_isHeld_109 : decode cX7_isHeld 109 = .ok (.iconst 0, 1) := by decide +kernel
theorem dX7_isHeld_110 : decode cX7_isHeld 110 = .ok (.ireturn, 1) := by decide +kernel
theorem dX7_isPrice_0 : decode cX7_isPrice 0 = .ok (.aload_n 0, 1) := by decide +kernel
theorem dX7_isPrice_1 : decode cX7_isPrice 1 = .ok (.getfield 23, 3) := by decide +kernel
theorem dX7_isPrice_4 : decode cX7_isPrice 4 = .ok (.iload_n 1, 1) := by decide +kernel
theorem dX7_isPrice_5 : decode cX7_isPrice 5 = .ok (.baload, 1) := by decide +kernel
theorem dX7_isPrice_6 : decode cX7_isPrice 6 = .ok (.ifCond .eq 20, 3) := by decide +kernel
theorem dX7_isPrice_9 : decode cX7_isPrice 9 = .ok (.aload_n 0, 1) := by decide +kernel
theorem dX7_isPrice_10 : decode cX7_isPrice 10 = .ok (.getfield 48, 3) := by decide +kernel
theorem dX7_isPrice_13 : decode cX7_isPrice 13 = .ok (.iload_n 1, 1) := by decide +kernel
theorem dX7_isPrice_14 : decode cX7_isPrice 14 = .ok (.iaload, 1) := by decide +kernel
theorem dX7_isPrice_15 : decode cX7_isPrice 15 = .ok (.ifCond .ne 7, 3) := by decide +kernel
theorem dX7_isPrice_18 : decode cX7_isPrice 18 = .ok (.iconst 1, 1) := by decide +kernel
theorem dX7_isPrice_19 : decode cX7_isPrice 19 = .ok (.goto 48, 3) := by decide +kernel
theorem dX7_isPrice_22 : decode cX7_isPrice 22 = .ok (.iconst 0, 1) := by decide +kernel
theorem dX7_isPrice_23 : decode cX7_isPrice 23 = .ok (.goto 44, 3) := by decide +kernel
theorem dX7_isPrice_26 : decode cX7_isPrice 26 = .ok (.aload_n 0, 1) := by decide +kernel
theorem dX7_isPrice_27 : decode cX7_isPrice 27 = .ok (.getfield 17, 3) := by decide +kernel
theorem dX7_isPrice_30 : decode cX7_isPrice 30 = .ok (.iload_n 1, 1) := by decide +kernel
theorem dX7_isPrice_31 : decode cX7_isPrice 31 = .ok (.iaload, 1) := by decide +kernel
theorem dX7_isPrice_32 : decode cX7_isPrice 32 = .ok (.iconst 1, 1) := by decide +kernel
theorem dX7_isPrice_33 : decode cX7_isPrice 33 = .ok (.if_icmp .ne 20, 3) := by decide +kernel
theorem dX7_isPrice_36 : decode cX7_isPrice 36 = .ok (.aload_n 0, 1) := by decide +kernel
theorem dX7_isPrice_37 : decode cX7_isPrice 37 = .ok (.getfield 48, 3) := by decide +kernel
theorem dX7_isPrice_40 : decode cX7_isPrice 40 = .ok (.iload_n 1, 1) := by decide +kernel
theorem dX7_isPrice_41 : decode cX7_isPrice 41 = .ok (.iaload, 1) := by decide +kernel
theorem dX7_isPrice_42 : decode cX7_isPrice 42 = .ok (.ifCond .gt 7, 3) := by decide +kernel
theorem dX7_isPrice_45 : decode cX7_isPrice 45 = .ok (.iconst 1, 1) := by decide +kernel
theorem dX7_isPrice_46 : decode cX7_isPrice 46 = .ok (.goto 21, 3) := by decide +kernel
theorem dX7_isPrice_49 : decode cX7_isPrice 49 = .ok (.iconst 0, 1) := by decide +kernel
theorem dX7_isPrice_50 : decode cX7_isPrice 50 = .ok (.goto 17, 3) := by decide +kernel
theorem dX7_isPrice_53 : decode cX7_isPrice 53 = .ok (.aload_n 0, 1) := by decide +kernel
theorem dX7_isPrice_54 : decode cX7_isPrice 54 = .ok (.getfield 48, 3) := by decide +kernel
theorem dX7_isPrice_57 : decode cX7_isPrice 57 = .ok (.iload_n 1, 1) := by decide +kernel
theorem dX7_isPrice_58 : decode cX7_isPrice 58 = .ok (.iaload, 1) := by decide +kernel
theorem dX7_isPrice_59 : decode cX7_isPrice 59 = .ok (.ifCond .lt 7, 3) := by decide +kernel
theorem dX7_isPrice_62 : decode cX7_isPrice 62 = .ok (.iconst 1, 1) := by decide +kernel
theorem dX7_isPrice_63 : decode cX7_isPrice 63 = .ok (.goto 4, 3) := by decide +kernel
theorem dX7_isPrice_66 : decode cX7_isPrice 66 = .ok (.iconst 0, 1) := by decide +kernel
theorem dX7_isPrice_67 : decode cX7_isPrice 67 = .ok (.ireturn, 1) := by decide +kernel
theorem dX7_check_0 : decode cX7_check 0 = .ok (.iconst 1, 1) := by decide +kernel
theorem dX7_check_1 : decode cX7_check 1 = .ok (.istore_n 1, 1) := by decide +kernel
theorem dX7_check_2 : decode cX7_check 2 = .ok (.iconst 1, 1) := by decide +kernel
theorem dX7_check_3 : decode cX7_check 3 = .ok (.istore_n 2, 1) := by decide +kernel
theorem dX7_check_4 : decode cX7_check 4 = .ok (.iconst 1, 1) := by decide +kernel
theorem dX7_check_5 : decode cX7_check 5 = .ok (.istore_n 3, 1) := by decide +kernel
theorem dX7_check_6 : decode cX7_check 6 = .ok (.lconst 0, 1) := by decide +kernel
theorem dX7_check_7 : decode cX7_check 7 = .ok (.lstore 4, 2) := by decide +kernel
theorem dX7_check_9 : decode cX7_check 9 = .ok (.iconst 0, 1) := by decide +kernel
theorem dX7_check_10 : decode cX7_check 10 = .ok (.istore 6, 2) := by decide +kernel
theorem dX7_check_12 : decode cX7_check 12 = .ok (.iload 6, 2) := by decide +kernel
theorem dX7_check_14 : decode cX7_check 14 = .ok (.aload_n 0, 1) := by decide +kernel
theorem dX7_check_15 : decode cX7_check 15 = .ok (.getfield 185, 3) := by decide +kernel
theorem dX7_check_18 : decode cX7_check 18 = .ok (.if_icmp .ge 138, 3) := by decide +kernel
theorem dX7_check_21 : decode cX7_check 21 = .ok (.iload_n 1, 1) := by decide +kernel
theorem dX7_check_22 : decode cX7_check 22 = .ok (.ifCond .eq 16, 3) := by decide +kernel
theorem dX7_check_25 : decode cX7_check 25 = .ok (.aload_n 0, 1) := by decide +kernel
theorem dX7_check_26 : decode cX7_check 26 = .ok (.iload 6, 2) := by decide +kernel
theorem dX7_check_28 : decode cX7_check 28 = .ok (.invokevirtual 267, 3) := by decide +kernel
theorem dX7_check_31 : decode cX7_check 31 = .ok (.ifCond .eq 7, 3) := by decide +kernel
theorem dX7_check_34 : decode cX7_check 34 = .ok (.iconst 1, 1) := by decide +kernel
theorem dX7_check_35 : decode cX7_check 35 = .ok (.goto 4, 3) := by decide +kernel
theorem dX7_check_38 : decode cX7_check 38 = .ok (.iconst 0, 1) := by decide +kernel
theorem dX7_check_39 : decode cX7_check 39 = .ok (.istore_n 1, 1) := by decide +kernel
theorem dX7_check_40 : decode cX7_check 40 = .ok (.aload_n 0, 1) := by decide +kernel
theorem dX7_check_41 : decode cX7_check 41 = .ok (.getfield 27, 3) := by decide +kernel
theorem dX7_check_44 : decode cX7_check 44 = .ok (.iload 6, 2) := by decide +kernel
theorem dX7_check_46 : decode cX7_check 46 = .ok (.iaload, 1) := by decide +kernel
theorem dX7_check_47 : decode cX7_check 47 = .ok (.i2l, 1) := by decide +kernel
theorem dX7_check_48 : decode cX7_check 48 = .ok (.ldc2_w 265, 3) := by decide +kernel
theorem dX7_check_51 : decode cX7_check 51 = .ok (.lmul, 1) := by decide +kernel
theorem dX7_check_52 : decode cX7_check 52 = .ok (.lstore 7, 2) := by decide +kernel
theorem dX7_check_54 : decode cX7_check 54 = .ok (.iconst 0, 1) := by decide +kernel
theorem dX7_check_55 : decode cX7_check 55 = .ok (.istore 9, 2) := by decide +kernel
theorem dX7_check_57 : decode cX7_check 57 = .ok (.iload 9, 2) := by decide +kernel
theorem dX7_check_59 : decode cX7_check 59 = .ok (.aload_n 0, 1) := by decide +kernel
theorem dX7_check_60 : decode cX7_check 60 = .ok (.getfield 182, 3) := by decide +kernel
theorem dX7_check_63 : decode cX7_check 63 = .ok (.if_icmp .ge 34, 3) := by decide +kernel
theorem dX7_check_66 : decode cX7_check 66 = .ok (.lload 7, 2) := by decide +kernel
theorem dX7_check_68 : decode cX7_check 68 = .ok (.aload_n 0, 1) := by decide +kernel
theorem dX7_check_69 : decode cX7_check 69 = .ok (.getfield 39, 3) := by decide +kernel
theorem dX7_check_72 : decode cX7_check 72 = .ok (.iconst 5, 1) := by decide +kernel
theorem dX7_check_73 : decode cX7_check 73 = .ok (.iload 6, 2) := by decide +kernel
theorem dX7_check_75 : decode cX7_check 75 = .ok (.imul, 1) := by decide +kernel
theorem dX7_check_76 : decode cX7_check 76 = .ok (.iload 9, 2) := by decide +kernel
theorem dX7_check_78 : decode cX7_check 78 = .ok (.iadd, 1) := by decide +kernel
theorem dX7_check_79 : decode cX7_check 79 = .ok (.iaload, 1) := by decide +kernel
theorem dX7_check_80 : decode cX7_check 80 = .ok (.i2l, 1) := by decide +kernel
theorem dX7_check_81 : decode cX7_check 81 = .ok (.aload_n 0, 1) := by decide +kernel
theorem dX7_check_82 : decode cX7_check 82 = .ok (.iload 9, 2) := by decide +kernel
theorem dX7_check_84 : decode cX7_check 84 = .ok (.invokevirtual 270, 3) := by decide +kernel
theorem dX7_check_87 : decode cX7_check 87 = .ok (.lmul, 1) := by decide +kernel
theorem dX7_check_88 : decode cX7_check 88 = .ok (.lsub, 1) := by decide +kernel
theorem dX7_check_89 : decode cX7_check 89 = .ok (.lstore 7, 2) := by decide +kernel
theorem dX7_check_91 : decode cX7_check 91 = .ok (.iinc 9 1, 3) := by decide +kernel
theorem dX7_check_94 : decode cX7_check 94 = .ok (.goto (-37), 3) := by decide +kernel
theorem dX7_check_97 : decode cX7_check 97 = .ok (.lload 4, 2) := by decide +kernel
theorem dX7_check_99 : decode cX7_check 99 = .ok (.aload_n 0, 1) := by decide +kernel
theorem dX7_check_100 : decode cX7_check 100 = .ok (.getfield 27, 3) := by decide +kernel
theorem dX7_check_103 : decode cX7_check 103 = .ok (.iload 6, 2) := by decide +kernel
theorem dX7_check_105 : decode cX7_check 105 = .ok (.iaload, 1) := by decide +kernel
theorem dX7_check_106 : decode cX7_check 106 = .ok (.i2l, 1) := by decide +kernel
theorem dX7_check_107 : decode cX7_check 107 = .ok (.aload_n 0, 1) := by decide +kernel
theorem dX7_check_108 : decode cX7_check 108 = .ok (.iload 6, 2) := by decide +kernel
theorem dX7_check_110 : decode cX7_check 110 = .ok (.invokevirtual 262, 3) := by decide +kernel
theorem dX7_check_113 : decode cX7_check 113 = .ok (.lmul, 1) := by decide +kernel
theorem dX7_check_114 : decode cX7_check 114 = .ok (.aload_n 0, 1) := by decide +kernel
theorem dX7_check_115 : decode cX7_check 115 = .ok (.getfield 36, 3) := by decide +kernel
theorem dX7_check_118 : decode cX7_check 118 = .ok (.iload 6, 2) := by decide +kernel
theorem dX7_check_120 : decode cX7_check 120 = .ok (.baload, 1) := by decide +kernel
theorem dX7_check_121 : decode cX7_check 121 = .ok (.ifCond .ne 10, 3) := by decide +kernel
theorem dX7_check_124 : decode cX7_check 124 = .ok (.lload 7, 2) := by decide +kernel
theorem dX7_check_126 : decode cX7_check 126 = .ok (.lconst 0, 1) := by decide +kernel
theorem dX7_check_127 : decode cX7_check 127 = .ok (.lcmp, 1) := by decide +kernel
theorem dX7_check_128 : decode cX7_check 128 = .ok (.ifCond .ge 7, 3) := by decide +kernel
theorem dX7_check_131 : decode cX7_check 131 = .ok (.lconst 0, 1) := by decide +kernel
theorem dX7_check_132 : decode cX7_check 132 = .ok (.goto 14, 3) := by decide +kernel
theorem dX7_check_135 : decode cX7_check 135 = .ok (.aload_n 0, 1) := by decide +kernel
theorem dX7_check_136 : decode cX7_check 136 = .ok (.getfield 33, 3) := by decide +kernel
theorem dX7_check_139 : decode cX7_check 139 = .ok (.iload 6, 2) := by decide +kernel
theorem dX7_check_141 : decode cX7_check 141 = .ok (.iaload, 1) := by decide +kernel
theorem dX7_check_142 : decode cX7_check 142 = .ok (.i2l, 1) := by decide +kernel
theorem dX7_check_143 : decode cX7_check 143 = .ok (.lload 7, 2) := by decide +kernel
theorem dX7_check_145 : decode cX7_check 145 = .ok (.lmul, 1) := by decide +kernel
theorem dX7_check_146 : decode cX7_check 146 = .ok (.lsub, 1) := by decide +kernel
theorem dX7_check_147 : decode cX7_check 147 = .ok (.ladd, 1) := by decide +kernel
theorem dX7_check_148 : decode cX7_check 148 = .ok (.lstore 4, 2) := by decide +kernel
theorem dX7_check_150 : decode cX7_check 150 = .ok (.iinc 6 1, 3) := by decide +kernel
theorem dX7_check_153 : decode cX7_check 153 = .ok (.goto (-141), 3) := by decide +kernel
theorem dX7_check_156 : decode cX7_check 156 = .ok (.iconst 0, 1) := by decide +kernel
theorem dX7_check_157 : decode cX7_check 157 = .ok (.istore 6, 2) := by decide +kernel
theorem dX7_check_159 : decode cX7_check 159 = .ok (.iload 6, 2) := by decide +kernel
theorem dX7_check_161 : decode cX7_check 161 = .ok (.aload_n 0, 1) := by decide +kernel
theorem dX7_check_162 : decode cX7_check 162 = .ok (.getfield 182, 3) := by decide +kernel
theorem dX7_check_165 : decode cX7_check 165 = .ok (.if_icmp .ge 81, 3) := by decide +kernel
theorem dX7_check_168 : decode cX7_check 168 = .ok (.iload_n 2, 1) := by decide +kernel
theorem dX7_check_169 : decode cX7_check 169 = .ok (.ifCond .eq 16, 3) := by decide +kernel
theorem dX7_check_172 : decode cX7_check 172 = .ok (.aload_n 0, 1) := by decide +kernel
theorem dX7_check_173 : decode cX7_check 173 = .ok (.iload 6, 2) := by decide +kernel
theorem dX7_check_175 : decode cX7_check 175 = .ok (.invokevirtual 273, 3) := by decide +kernel
theorem dX7_check_178 : decode cX7_check 178 = .ok (.ifCond .eq 7, 3) := by decide +kernel
theorem dX7_check_181 : decode cX7_check 181 = .ok (.iconst 1, 1) := by decide +kernel
theorem dX7_check_182 : decode cX7_check 182 = .ok (.goto 4, 3) := by decide +kernel
theorem dX7_check_185 : decode cX7_check 185 = .ok (.iconst 0, 1) := by decide +kernel
theorem dX7_check_186 : decode cX7_check 186 = .ok (.istore_n 2, 1) := by decide +kernel
theorem dX7_check_187 : decode cX7_check 187 = .ok (.iload_n 3, 1) := by decide +kernel
theorem dX7_check_188 : decode cX7_check 188 = .ok (.ifCond .eq 16, 3) := by decide +kernel
theorem dX7_check_191 : decode cX7_check 191 = .ok (.aload_n 0, 1) := by decide +kernel
theorem dX7_check_192 : decode cX7_check 192 = .ok (.iload 6, 2) := by decide +kernel
theorem dX7_check_194 : decode cX7_check 194 = .ok (.invokevirtual 276, 3) := by decide +kernel
theorem dX7_check_197 : decode cX7_check 197 = .ok (.ifCond .eq 7, 3) := by decide +kernel
theorem dX7_check_200 : decode cX7_check 200 = .ok (.iconst 1, 1) := by decide +kernel
theorem dX7_check_201 : decode cX7_check 201 = .ok (.goto 4, 3) := by decide +kernel
theorem dX7_check_204 : decode cX7_check 204 = .ok (.iconst 0, 1) := by decide +kernel
theorem dX7_check_205 : decode cX7_check 205 = .ok (.istore_n 3, 1) := by decide +kernel
theorem dX7_check_206 : decode cX7_check 206 = .ok (.lload 4, 2) := by decide +kernel
theorem dX7_check_208 : decode cX7_check 208 = .ok (.aload_n 0, 1) := by decide +kernel
theorem dX7_check_209 : decode cX7_check 209 = .ok (.getfield 23, 3) := by decide +kernel
theorem dX7_check_212 : decode cX7_check 212 = .ok (.iload 6, 2) := by decide +kernel
theorem dX7_check_214 : decode cX7_check 214 = .ok (.baload, 1) := by decide +kernel
theorem dX7_check_215 : decode cX7_check 215 = .ok (.ifCond .eq 7, 3) := by decide +kernel
theorem dX7_check_218 : decode cX7_check 218 = .ok (.lconst 0, 1) := by decide +kernel
theorem dX7_check_219 : decode cX7_check 219 = .ok (.goto 18, 3) := by decide +kernel
theorem dX7_check_222 : decode cX7_check 222 = .ok (.aload_n 0, 1) := by decide +kernel
theorem dX7_check_223 : decode cX7_check 223 = .ok (.getfield 20, 3) := by decide +kernel
theorem dX7_check_226 : decode cX7_check 226 = .ok (.iload 6, 2) := by decide +kernel
theorem dX7_check_228 : decode cX7_check 228 = .ok (.iaload, 1) := by decide +kernel
theorem dX7_check_229 : decode cX7_check 229 = .ok (.i2l, 1) := by decide +kernel
theorem dX7_check_230 : decode cX7_check 230 = .ok (.aload_n 0, 1) := by decide +kernel
theorem dX7_check_231 : decode cX7_check 231 = .ok (.iload 6, 2) := by decide +kernel
theorem dX7_check_233 : decode cX7_check 233 = .ok (.invokevirtual 270, 3) := by decide +kernel
theorem dX7_check_236 : decode cX7_check 236 = .ok (.lmul, 1) := by decide +kernel
theorem dX7_check_237 : decode cX7_check 237 = .ok (.lsub, 1) := by decide +kernel
theorem dX7_check_238 : decode cX7_check 238 = .ok (.lstore 4, 2) := by decide +kernel
theorem dX7_check_240 : decode cX7_check 240 = .ok (.iinc 6 1, 3) := by decide +kernel
theorem dX7_check_243 : decode cX7_check 243 = .ok (.goto (-84), 3) := by decide +kernel
theorem dX7_check_246 : decode cX7_check 246 = .ok (.iload_n 1, 1) := by decide +kernel
theorem dX7_check_247 : decode cX7_check 247 = .ok (.ifCond .ne 7, 3) := by decide +kernel
theorem dX7_check_250 : decode cX7_check 250 = .ok (.iconst 1, 1) := by decide +kernel
theorem dX7_check_251 : decode cX7_check 251 = .ok (.goto 31, 3) := by decide +kernel
theorem dX7_check_254 : decode cX7_check 254 = .ok (.iload_n 2, 1) := by decide +kernel
theorem dX7_check_255 : decode cX7_check 255 = .ok (.ifCond .ne 7, 3) := by decide +kernel
theorem dX7_check_258 : decode cX7_check 258 = .ok (.iconst 2, 1) := by decide +kernel
theorem dX7_check_259 : decode cX7_check 259 = .ok (.goto 23, 3) := by decide +kernel
theorem dX7_check_262 : decode cX7_check 262 = .ok (.iload_n 3, 1) := by decide +kernel
theorem dX7_check_263 : decode cX7_check 263 = .ok (.ifCond .ne 7, 3) := by decide +kernel
theorem dX7_check_266 : decode cX7_check 266 = .ok (.iconst 3, 1) := by decide +kernel
theorem dX7_check_267 : decode cX7_check 267 = .ok (.goto 15, 3) := by decide +kernel
theorem dX7_check_270 : decode cX7_check 270 = .ok (.lload 4, 2) := by decide +kernel
theorem dX7_check_272 : decode cX7_check 272 = .ok (.lconst 0, 1) := by decide +kernel
theorem dX7_check_273 : decode cX7_check 273 = .ok (.lcmp, 1) := by decide +kernel
theorem dX7_check_274 : decode cX7_check 274 = .ok (.ifCond .eq 7, 3) := by decide +kernel
theorem dX7_check_277 : decode cX7_check 277 = .ok (.iconst 4, 1) := by decide +kernel
theorem dX7_check_278 : decode cX7_check 278 = .ok (.goto 4, 3) := by decide +kernel
theorem dX7_check_281 : decode cX7_check 281 = .ok (.iconst 0, 1) := by decide +kernel
theorem dX7_check_282 : decode cX7_check 282 = .ok (.ireturn, 1) := by decide +kernel
theorem dX7_reach_0 : decode cX7_reach 0 = .ok (.aload_n 0, 1) := by decide +kernel
theorem dX7_reach_1 : decode cX7_reach 1 = .ok (.iload_n 1, 1) := by decide +kernel
theorem dX7_reach_2 : decode cX7_reach 2 = .ok (.invokevirtual 194, 3) := by decide +kernel
theorem dX7_reach_5 : decode cX7_reach 5 = .ok (.ifCond .ne 5, 3) := by decide +kernel
theorem dX7_reach_8 : decode cX7_reach 8 = .ok (.iconst (-1), 1) := by decide +kernel
theorem dX7_reach_9 : decode cX7_reach 9 = .ok (.ireturn, 1) := by decide +kernel
theorem dX7_reach_10 : decode cX7_reach 10 = .ok (.aload_n 0, 1) := by decide +kernel
theorem dX7_reach_11 : decode cX7_reach 11 = .ok (.getfield 36, 3) := by decide +kernel
theorem dX7_reach_14 : decode cX7_reach 14 = .ok (.iload_n 1, 1) := by decide +kernel
theorem dX7_reach_15 : decode cX7_reach 15 = .ok (.baload, 1) := by decide +kernel
theorem dX7_reach_16 : decode cX7_reach 16 = .ok (.ifCond .ne 11, 3) := by decide +kernel
theorem dX7_reach_19 : decode cX7_reach 19 = .ok (.aload_n 0, 1) := by decide +kernel
theorem dX7_reach_20 : decode cX7_reach 20 = .ok (.iconst 0, 1) := by decide +kernel
theorem dX7_reach_21 : decode cX7_reach 21 = .ok (.invokevirtual 242, 3) := by decide +kernel
theorem dX7_reach_24 : decode cX7_reach 24 = .ok (.ifCond .ne 6, 3) := by decide +kernel
theorem dX7_reach_27 : decode cX7_reach 27 = .ok (.bipush (-9), 2) := by decide +kernel
theorem dX7_reach_29 : decode cX7_reach 29 = .ok (.ireturn, 1) := by decide +kernel
theorem dX7_reach_30 : decode cX7_reach 30 = .ok (.aload_n 0, 1) := by decide +kernel
theorem dX7_reach_31 : decode cX7_reach 31 = .ok (.getfield 214, 3) := by decide +kernel
theorem dX7_reach_34 : decode cX7_reach 34 = .ok (.lstore_n 2, 1) := by decide +kernel
theorem dX7_reach_35 : decode cX7_reach 35 = .ok (.aload_n 0, 1) := by decide +kernel
theorem dX7_reach_36 : decode cX7_reach 36 = .ok (.getfield 211, 3) := by decide +kernel
theorem dX7_reach_39 : decode cX7_reach 39 = .ok (.lstore 4, 2) := by decide +kernel
theorem dX7_reach_41 : decode cX7_reach 41 = .ok (.aload_n 0, 1) := by decide +kernel
theorem dX7_reach_42 : decode cX7_reach 42 = .ok (.getfield 76, 3) := by decide +kernel
theorem dX7_reach_45 : decode cX7_reach 45 = .ok (.iload_n 1, 1) := by decide +kernel
theorem dX7_reach_46 : decode cX7_reach 46 = .ok (.laload, 1) := by decide +kernel
theorem dX7_reach_47 : decode cX7_reach 47 = .ok (.lstore 6, 2) := by decide +kernel
theorem dX7_reach_49 : decode cX7_reach 49 = .ok (.aload_n 0, 1) := by decide +kernel
theorem dX7_reach_50 : decode cX7_reach 50 = .ok (.getfield 27, 3) := by decide +kernel
theorem dX7_reach_53 : decode cX7_reach 53 = .ok (.iload_n 1, 1) := by decide +kernel
theorem dX7_reach_54 : decode cX7_reach 54 = .ok (.iaload, 1) := by decide +kernel
theorem dX7_reach_55 : decode cX7_reach 55 = .ok (.istore 8, 2) := by decide +kernel
theorem dX7_reach_57 : decode cX7_reach 57 = .ok (.bipush (-9), 2) := by decide +kernel
theorem dX7_reach_59 : decode cX7_reach 59 = .ok (.istore 9, 2) := by decide +kernel
theorem dX7_reach_61 : decode cX7_reach 61 = .ok (.iconst 1, 1) := by decide +kernel
theorem dX7_reach_62 : decode cX7_reach 62 = .ok (.istore 10, 2) := by decide +kernel
theorem dX7_reach_64 : decode cX7_reach 64 = .ok (.iload 10, 2) := by decide +kernel
theorem dX7_reach_66 : decode cX7_reach 66 = .ok (.bipush 100, 2) := by decide +kernel
theorem dX7_reach_68 : decode cX7_reach 68 = .ok (.if_icmp .ge 66, 3) := by decide +kernel
theorem dX7_reach_71 : decode cX7_reach 71 = .ok (.iload 9, 2) := by decide +kernel
theorem dX7_reach_73 : decode cX7_reach 73 = .ok (.bipush (-9), 2) := by decide +kernel
theorem dX7_reach_75 : decode cX7_reach 75 = .ok (.if_icmp .ne 59, 3) := by decide +kernel
theorem dX7_reach_78 : decode cX7_reach 78 = .ok (.aload_n 0, 1) := by decide +kernel
theorem dX7_reach_79 : decode cX7_reach 79 = .ok (.getfield 27, 3) := by decide +kernel
theorem dX7_reach_82 : decode cX7_reach 82 = .ok (.iload_n 1, 1) := by decide +kernel
theorem dX7_reach_83 : decode cX7_reach 83 = .ok (.iload 8, 2) := by decide +kernel
theorem dX7_reach_85 : decode cX7_reach 85 = .ok (.iload 10, 2) := by decide +kernel
theorem dX7_reach_87 : decode cX7_reach 87 = .ok (.iadd, 1) := by decide +kernel
theorem dX7_reach_88 : decode cX7_reach 88 = .ok (.iastore, 1) := by decide +kernel
theorem dX7_reach_89 : decode cX7_reach 89 = .ok (.aload_n 0, 1) := by decide +kernel
theorem dX7_reach_90 : decode cX7_reach 90 = .ok (.iconst 0, 1) := by decide +kernel
theorem dX7_reach_91 : decode cX7_reach 91 = .ok (.invokevirtual 242, 3) := by decide +kernel
theorem dX7_reach_94 : decode cX7_reach 94 = .ok (.pop, 1) := by decide +kernel
theorem dX7_reach_95 : decode cX7_reach 95 = .ok (.aload_n 0, 1) := by decide +kernel
theorem dX7_reach_96 : decode cX7_reach 96 = .ok (.getfield 214, 3) := by decide +kernel
theorem dX7_reach_99 : decode cX7_reach 99 = .ok (.lload 4, 2) := by decide +kernel
theorem dX7_reach_101 : decode cX7_reach 101 = .ok (.lmul, 1) := by decide +kernel
theorem dX7_reach_102 : decode cX7_reach 102 = .ok (.lload_n 2, 1) := by decide +kernel
theorem dX7_reach_103 : decode cX7_reach 103 = .ok (.iload 10, 2) := by decide +kernel
theorem dX7_reach_105 : decode cX7_reach 105 = .ok (.i2l, 1) := by decide +kernel
theorem dX7_reach_106 : decode cX7_reach 106 = .ok (.lload 6, 2) := by decide +kernel
theorem dX7_reach_108 : decode cX7_reach 108 = .ok (.lmul, 1) := by decide +kernel
theorem dX7_reach_109 : decode cX7_reach 109 = .ok (.ladd, 1) := by decide +kernel
theorem dX7_reach_110 : decode cX7_reach 110 = .ok (.aload_n 0, 1) := by decide +kernel
theorem dX7_reach_111 : decode cX7_reach 111 = .ok (.getfield 211, 3) := by decide +kernel
theorem dX7_reach_114 : decode cX7_reach 114 = .ok (.lmul, 1) := by decide +kernel
theorem dX7_reach_115 : decode cX7_reach 115 = .ok (.lcmp, 1) := by decide +kernel
theorem dX7_reach_116 : decode cX7_reach 116 = .ok (.ifCond .le 8, 3) := by decide +kernel
theorem dX7_reach_119 : decode cX7_reach 119 = .ok (.iload 10, 2) := by decide +kernel
theorem dX7_reach_121 : decode cX7_reach 121 = .ok (.goto 5, 3) := by decide +kernel
theorem dX7_reach_124 : decode cX7_reach 124 = .ok (.bipush (-9), 2) := by decide +kernel
theorem dX7_reach_126 : decode cX7_reach 126 = .ok (.istore 9, 2) := by decide +kernel
theorem dX7_reach_128 : decode cX7_reach 128 = .ok (.iinc 10 1, 3) := by decide +kernel
theorem dX7_reach_131 : decode cX7_reach 131 = .ok (.goto (-67), 3) := by decide +kernel
theorem dX7_reach_134 : decode cX7_reach 134 = .ok (.aload_n 0, 1) := by decide +kernel
theorem dX7_reach_135 : decode cX7_reach 135 = .ok (.getfield 27, 3) := by decide +kernel
theorem dX7_reach_138 : decode cX7_reach 138 = .ok (.iload_n 1, 1) := by decide +kernel
theorem dX7_reach_139 : decode cX7_reach 139 = .ok (.iload 8, 2) := by decide +kernel
theorem dX7_reach_141 : decode cX7_reach 141 = .ok (.iastore, 1) := by decide +kernel
theorem dX7_reach_142 : decode cX7_reach 142 = .ok (.iload 9, 2) := by decide +kernel
theorem dX7_reach_144 : decode cX7_reach 144 = .ok (.ireturn, 1) := by decide +kernel
theorem dX7_fair_0 : decode cX7_fair 0 = .ok (.aload_n 0, 1) := by decide +kernel
theorem dX7_fair_1 : decode cX7_fair 1 = .ok (.iload_n 1, 1) := by decide +kernel
theorem dX7_fair_2 : decode cX7_fair 2 = .ok (.invokevirtual 194, 3) := by decide +kernel
theorem dX7_fair_5 : decode cX7_fair 5 = .ok (.ifCond .eq 13, 3) := by decide +kernel
theorem dX7_fair_8 : decode cX7_fair 8 = .ok (.iload_n 2, 1) := by decide +kernel
theorem dX7_fair_9 : decode cX7_fair 9 = .ok (.i2l, 1) := by decide +kernel
theorem dX7_fair_10 : decode cX7_fair 10 = .ok (.lconst 0, 1) := by decide +kernel
theorem dX7_fair_11 : decode cX7_fair 11 = .ok (.lconst 1, 1) := by decide +kernel
theorem dX7_fair_12 : decode cX7_fair 12 = .ok (.invokestatic 102, 3) := by decide +kernel
theorem dX7_fair_15 : decode cX7_fair 15 = .ok (.ifCond .ne 7, 3) := by decide +kernel
theorem dX7_fair_18 : decode cX7_fair 18 = .ok (.ldc2_w 246, 3) := by decide +kernel
theorem dX7_fair_21 : decode cX7_fair 21 = .ok (.lreturn, 1) := by decide +kernel
theorem dX7_fair_22 : decode cX7_fair 22 = .ok (.aload_n 0, 1) := by decide +kernel
theorem dX7_fair_23 : decode cX7_fair 23 = .ok (.iconst 0, 1) := by decide +kernel
theorem dX7_fair_24 : decode cX7_fair 24 = .ok (.invokevirtual 242, 3) := by decide +kernel
theorem dX7_fair_27 : decode cX7_fair 27 = .ok (.ifCond .ne 7, 3) := by decide +kernel
theorem dX7_fair_30 : decode cX7_fair 30 = .ok (.ldc2_w 246, 3) := by decide +kernel
theorem dX7_fair_33 : decode cX7_fair 33 = .ok (.lreturn, 1) := by decide +kernel
theorem dX7_fair_34 : decode cX7_fair 34 = .ok (.aload_n 0, 1) := by decide +kernel
theorem dX7_fair_35 : decode cX7_fair 35 = .ok (.getfield 36, 3) := by decide +kernel
theorem dX7_fair_38 : decode cX7_fair 38 = .ok (.iload_n 1, 1) := by decide +kernel
theorem dX7_fair_39 : decode cX7_fair 39 = .ok (.baload, 1) := by decide +kernel
theorem dX7_fair_40 : decode cX7_fair 40 = .ok (.ifCond .eq 6, 3) := by decide +kernel
theorem dX7_fair_43 : decode cX7_fair 43 = .ok (.iload_n 2, 1) := by decide +kernel
theorem dX7_fair_44 : decode cX7_fair 44 = .ok (.i2l, 1) := by decide +kernel
theorem dX7_fair_45 : decode cX7_fair 45 = .ok (.lreturn, 1) := by decide +kernel
theorem dX7_fair_46 : decode cX7_fair 46 = .ok (.aload_n 0, 1) := by decide +kernel
theorem dX7_fair_47 : decode cX7_fair 47 = .ok (.getfield 214, 3) := by decide +kernel
theorem dX7_fair_50 : decode cX7_fair 50 = .ok (.aload_n 0, 1) := by decide +kernel
theorem dX7_fair_51 : decode cX7_fair 51 = .ok (.getfield 27, 3) := by decide +kernel
theorem dX7_fair_54 : decode cX7_fair 54 = .ok (.iload_n 1, 1) := by decide +kernel
theorem dX7_fair_55 : decode cX7_fair 55 = .ok (.iaload, 1) := by decide +kernel
theorem dX7_fair_56 : decode cX7_fair 56 = .ok (.i2l, 1) := by decide +kernel
theorem dX7_fair_57 : decode cX7_fair 57 = .ok (.aload_n 0, 1) := by decide +kernel
theorem dX7_fair_58 : decode cX7_fair 58 = .ok (.getfield 76, 3) := by decide +kernel
theorem dX7_fair_61 : decode cX7_fair 61 = .ok (.iload_n 1, 1) := by decide +kernel
theorem dX7_fair_62 : decode cX7_fair 62 = .ok (.laload, 1) := by decide +kernel
theorem dX7_fair_63 : decode cX7_fair 63 = .ok (.lmul, 1) := by decide +kernel
theorem dX7_fair_64 : decode cX7_fair 64 = .ok (.lsub, 1) := by decide +kernel
theorem dX7_fair_65 : decode cX7_fair 65 = .ok (.lstore_n 3, 1) := by decide +kernel
theorem dX7_fair_66 : decode cX7_fair 66 = .ok (.aload_n 0, 1) := by decide +kernel
theorem dX7_fair_67 : decode cX7_fair 67 = .ok (.getfield 211, 3) := by decide +kernel
theorem dX7_fair_70 : decode cX7_fair 70 = .ok (.lstore 5, 2) := by decide +kernel
theorem dX7_fair_72 : decode cX7_fair 72 = .ok (.aload_n 0, 1) := by decide +kernel
theorem dX7_fair_73 : decode cX7_fair 73 = .ok (.getfield 36, 3) := by decide +kernel
theorem dX7_fair_76 : decode cX7_fair 76 = .ok (.iload_n 1, 1) := by decide +kernel
theorem dX7_fair_77 : decode cX7_fair 77 = .ok (.iconst 1, 1) := by decide +kernel
theorem dX7_fair_78 : decode cX7_fair 78 = .ok (.bastore, 1) := by decide +kernel
theorem dX7_fair_79 : decode cX7_fair 79 = .ok (.aload_n 0, 1) := by decide +kernel
theorem dX7_fair_80 : decode cX7_fair 80 = .ok (.iconst 0, 1) := by decide +kernel
theorem dX7_fair_81 : decode cX7_fair 81 = .ok (.invokevirtual 242, 3) := by decide +kernel
theorem dX7_fair_84 : decode cX7_fair 84 = .ok (.istore 7, 2) := by decide +kernel
theorem dX7_fair_86 : decode cX7_fair 86 = .ok (.aload_n 0, 1) := by decide +kernel
theorem dX7_fair_87 : decode cX7_fair 87 = .ok (.getfield 36, 3) := by decide +kernel
theorem dX7_fair_90 : decode cX7_fair 90 = .ok (.iload_n 1, 1) := by decide +kernel
theorem dX7_fair_91 : decode cX7_fair 91 = .ok (.iconst 0, 1) := by decide +kernel
theorem dX7_fair_92 : decode cX7_fair 92 = .ok (.bastore, 1) := by decide +kernel
theorem dX7_fair_93 : decode cX7_fair 93 = .ok (.iload 7, 2) := by decide +kernel
theorem dX7_fair_95 : decode cX7_fair 95 = .ok (.ifCond .eq 31, 3) := by decide +kernel
theorem dX7_fair_98 : decode cX7_fair 98 = .ok (.aload_n 0, 1) := by decide +kernel
theorem dX7_fair_99 : decode cX7_fair 99 = .ok (.getfield 214, 3) := by decide +kernel
theorem dX7_fair_102 : decode cX7_fair 102 = .ok (.lload 5, 2) := by decide +kernel
theorem dX7_fair_104 : decode cX7_fair 104 = .ok (.lmul, 1) := by decide +kernel
theorem dX7_fair_105 : decode cX7_fair 105 = .ok (.lload_n 3, 1) := by decide +kernel
theorem dX7_fair_106 : decode cX7_fair 106 = .ok (.aload_n 0, 1) := by decide +kernel
theorem dX7_fair_107 : decode cX7_fair 107 = .ok (.getfield 211, 3) := by decide +kernel
theorem dX7_fair_110 : decode cX7_fair 110 = .ok (.lmul, 1) := by decide +kernel
theorem dX7_fair_111 : decode cX7_fair 111 = .ok (.lsub, 1) := by decide +kernel
theorem dX7_fair_112 : decode cX7_fair 112 = .ok (.aload_n 0, 1) := by decide +kernel
theorem dX7_fair_113 : decode cX7_fair 113 = .ok (.getfield 211, 3) := by decide +kernel
theorem dX7_fair_116 : decode cX7_fair 116 = .ok (.lload 5, 2) := by decide +kernel
theorem dX7_fair_118 : decode cX7_fair 118 = .ok (.lmul, 1) := by decide +kernel
theorem dX7_fair_119 : decode cX7_fair 119 = .ok (.iload_n 2, 1) := by decide +kernel
theorem dX7_fair_120 : decode cX7_fair 120 = .ok (.invokestatic 248, 3) := by decide +kernel
theorem dX7_fair_123 : decode cX7_fair 123 = .ok (.goto 6, 3) := by decide +kernel
theorem dX7_fair_126 : decode cX7_fair 126 = .ok (.ldc2_w 246, 3) := by decide +kernel
theorem dX7_fair_129 : decode cX7_fair 129 = .ok (.lreturn, 1) := by decide +kernel
theorem dX7_lie_0 : decode cX7_lie 0 = .ok (.aload_n 0, 1) := by decide +kernel
theorem dX7_lie_1 : decode cX7_lie 1 = .ok (.iload_n 1, 1) := by decide +kernel
theorem dX7_lie_2 : decode cX7_lie 2 = .ok (.invokevirtual 194, 3) := by decide +kernel
theorem dX7_lie_5 : decode cX7_lie 5 = .ok (.ifCond .ne 5, 3) := by decide +kernel
theorem dX7_lie_8 : decode cX7_lie 8 = .ok (.iconst (-1), 1) := by decide +kernel
theorem dX7_lie_9 : decode cX7_lie 9 = .ok (.ireturn, 1) := by decide +kernel
theorem dX7_lie_10 : decode cX7_lie 10 = .ok (.aload_n 0, 1) := by decide +kernel
theorem dX7_lie_11 : decode cX7_lie 11 = .ok (.getfield 36, 3) := by decide +kernel
theorem dX7_lie_14 : decode cX7_lie 14 = .ok (.iload_n 1, 1) := by decide +kernel
theorem dX7_lie_15 : decode cX7_lie 15 = .ok (.baload, 1) := by decide +kernel
theorem dX7_lie_16 : decode cX7_lie 16 = .ok (.ifCond .ne 11, 3) := by decide +kernel
theorem dX7_lie_19 : decode cX7_lie 19 = .ok (.aload_n 0, 1) := by decide +kernel
theorem dX7_lie_20 : decode cX7_lie 20 = .ok (.iconst 0, 1) := by decide +kernel
theorem dX7_lie_21 : decode cX7_lie 21 = .ok (.invokevirtual 242, 3) := by decide +kernel
theorem dX7_lie_24 : decode cX7_lie 24 = .ok (.ifCond .ne 6, 3) := by decide +kernel
theorem dX7_lie_27 : decode cX7_lie 27 = .ok (.bipush (-9), 2) := by decide +kernel
theorem dX7_lie_29 : decode cX7_lie 29 = .ok (.ireturn, 1) := by decide +kernel
theorem dX7_lie_30 : decode cX7_lie 30 = .ok (.aload_n 0, 1) := by decide +kernel
theorem dX7_lie_31 : decode cX7_lie 31 = .ok (.getfield 27, 3) := by decide +kernel
theorem dX7_lie_34 : decode cX7_lie 34 = .ok (.iload_n 1, 1) := by decide +kernel
theorem dX7_lie_35 : decode cX7_lie 35 = .ok (.iaload, 1) := by decide +kernel
theorem dX7_lie_36 : decode cX7_lie 36 = .ok (.istore_n 2, 1) := by decide +kernel
theorem dX7_lie_37 : decode cX7_lie 37 = .ok (.bipush (-9), 2) := by decide +kernel
theorem dX7_lie_39 : decode cX7_lie 39 = .ok (.istore_n 3, 1) := by decide +kernel
theorem dX7_lie_40 : decode cX7_lie 40 = .ok (.lconst 0, 1) := by decide +kernel
theorem dX7_lie_41 : decode cX7_lie 41 = .ok (.lstore 4, 2) := by decide +kernel
theorem dX7_lie_43 : decode cX7_lie 43 = .ok (.lconst 1, 1) := by decide +kernel
theorem dX7_lie_44 : decode cX7_lie 44 = .ok (.lstore 6, 2) := by decide +kernel
theorem dX7_lie_46 : decode cX7_lie 46 = .ok (.iconst 0, 1) := by decide +kernel
theorem dX7_lie_47 : decode cX7_lie 47 = .ok (.istore 8, 2) := by decide +kernel
theorem dX7_lie_49 : decode cX7_lie 49 = .ok (.iload 8, 2) := by decide +kernel
theorem dX7_lie_51 : decode cX7_lie 51 = .ok (.iload_n 2, 1) := by decide +kernel
theorem dX7_lie_52 : decode cX7_lie 52 = .ok (.if_icmp .gt 72, 3) := by decide +kernel
theorem dX7_lie_55 : decode cX7_lie 55 = .ok (.aload_n 0, 1) := by decide +kernel
theorem dX7_lie_56 : decode cX7_lie 56 = .ok (.getfield 27, 3) := by decide +kernel
theorem dX7_lie_59 : decode cX7_lie 59 = .ok (.iload_n 1, 1) := by decide +kernel
theorem dX7_lie_60 : decode cX7_lie 60 = .ok (.iload 8, 2) := by decide +kernel
theorem dX7_lie_62 : decode cX7_lie 62 = .ok (.iastore, 1) := by decide +kernel
theorem dX7_lie_63 : decode cX7_lie 63 = .ok (.aload_n 0, 1) := by decide +kernel
theorem dX7_lie_64 : decode cX7_lie 64 = .ok (.iconst 0, 1) := by decide +kernel
theorem dX7_lie_65 : decode cX7_lie 65 = .ok (.invokevirtual 242, 3) := by decide +kernel
theorem dX7_lie_68 : decode cX7_lie 68 = .ok (.pop, 1) := by decide +kernel
theorem dX7_lie_69 : decode cX7_lie 69 = .ok (.iload_n 2, 1) := by decide +kernel
theorem dX7_lie_70 : decode cX7_lie 70 = .ok (.iload 8, 2) := by decide +kernel
theorem dX7_lie_72 : decode cX7_lie 72 = .ok (.isub, 1) := by decide +kernel
theorem dX7_lie_73 : decode cX7_lie 73 = .ok (.i2l, 1) := by decide +kernel
theorem dX7_lie_74 : decode cX7_lie 74 = .ok (.aload_n 0, 1) := by decide +kernel
theorem dX7_lie_75 : decode cX7_lie 75 = .ok (.getfield 76, 3) := by decide +kernel
theorem dX7_lie_78 : decode cX7_lie 78 = .ok (.iload_n 1, 1) := by decide +kernel
theorem dX7_lie_79 : decode cX7_lie 79 = .ok (.laload, 1) := by decide +kernel
theorem dX7_lie_80 : decode cX7_lie 80 = .ok (.lmul, 1) := by decide +kernel
theorem dX7_lie_81 : decode cX7_lie 81 = .ok (.lstore 9, 2) := by decide +kernel
theorem dX7_lie_83 : decode cX7_lie 83 = .ok (.iload_n 3, 1) := by decide +kernel
theorem dX7_lie_84 : decode cX7_lie 84 = .ok (.bipush (-9), 2) := by decide +kernel
theorem dX7_lie_86 : decode cX7_lie 86 = .ok (.if_icmp .eq 19, 3) := by decide +kernel
theorem dX7_lie_89 : decode cX7_lie 89 = .ok (.lload 9, 2) := by decide +kernel
theorem dX7_lie_91 : decode cX7_lie 91 = .ok (.lload 6, 2) := by decide +kernel
theorem dX7_lie_93 : decode cX7_lie 93 = .ok (.lmul, 1) := by decide +kernel
theorem dX7_lie_94 : decode cX7_lie 94 = .ok (.lload 4, 2) := by decide +kernel
theorem dX7_lie_96 : decode cX7_lie 96 = .ok (.aload_n 0, 1) := by decide +kernel
theorem dX7_lie_97 : decode cX7_lie 97 = .ok (.getfield 211, 3) := by decide +kernel
theorem dX7_lie_100 : decode cX7_lie 100 = .ok (.lmul, 1) := by decide +kernel
theorem dX7_lie_101 : decode cX7_lie 101 = .ok (.lcmp, 1) := by decide +kernel
theorem dX7_lie_102 : decode cX7_lie 102 = .ok (.ifCond .le 16, 3) := by decide +kernel
theorem dX7_lie_105 : decode cX7_lie 105 = .ok (.iload 8, 2) := by decide +kernel
theorem dX7_lie_107 : decode cX7_lie 107 = .ok (.istore_n 3, 1) := by decide +kernel
theorem dX7_lie_108 : decode cX7_lie 108 = .ok (.lload 9, 2) := by decide +kernel
theorem dX7_lie_110 : decode cX7_lie 110 = .ok (.lstore 4, 2) := by decide +kernel
theorem dX7_lie_112 : decode cX7_lie 112 = .ok (.aload_n 0, 1) := by decide +kernel
theorem dX7_lie_113 : decode cX7_lie 113 = .ok (.getfield 211, 3) := by decide +kernel
theorem dX7_lie_116 : decode cX7_lie 116 = .ok (.lstore 6, 2) := by decide +kernel
theorem dX7_lie_118 : decode cX7_lie 118 = .ok (.iinc 8 1, 3) := by decide +kernel
theorem dX7_lie_121 : decode cX7_lie 121 = .ok (.goto (-72), 3) := by decide +kernel
theorem dX7_lie_124 : decode cX7_lie 124 = .ok (.aload_n 0, 1) := by decide +kernel
theorem dX7_lie_125 : decode cX7_lie 125 = .ok (.getfield 27, 3) := by decide +kernel
theorem dX7_lie_128 : decode cX7_lie 128 = .ok (.iload_n 1, 1) := by decide +kernel
theorem dX7_lie_129 : decode cX7_lie 129 = .ok (.iload_n 2, 1) := by decide +kernel
theorem dX7_lie_130 : decode cX7_lie 130 = .ok (.iastore, 1) := by decide +kernel
theorem dX7_lie_131 : decode cX7_lie 131 = .ok (.iload_n 3, 1) := by decide +kernel
theorem dX7_lie_132 : decode cX7_lie 132 = .ok (.ireturn, 1) := by decide +kernel
theorem dX7_core_0 : decode cX7_core 0 = .ok (.aload_n 0, 1) := by decide +kernel
theorem dX7_core_1 : decode cX7_core 1 = .ok (.iconst 0, 1) := by decide +kernel
theorem dX7_core_2 : decode cX7_core 2 = .ok (.invokevirtual 242, 3) := by decide +kernel
theorem dX7_core_5 : decode cX7_core 5 = .ok (.ifCond .ne 6, 3) := by decide +kernel
theorem dX7_core_8 : decode cX7_core 8 = .ok (.bipush (-9), 2) := by decide +kernel
theorem dX7_core_10 : decode cX7_core 10 = .ok (.ireturn, 1) := by decide +kernel
theorem dX7_core_11 : decode cX7_core 11 = .ok (.aload_n 0, 1) := by decide +kernel
theorem dX7_core_12 : decode cX7_core 12 = .ok (.getfield 214, 3) := by decide +kernel
theorem dX7_core_15 : decode cX7_core 15 = .ok (.lstore_n 1, 1) := by decide +kernel
theorem dX7_core_16 : decode cX7_core 16 = .ok (.aload_n 0, 1) := by decide +kernel
theorem dX7_core_17 : decode cX7_core 17 = .ok (.getfield 211, 3) := by decide +kernel
theorem dX7_core_20 : decode cX7_core 20 = .ok (.lstore_n 3, 1) := by decide +kernel
theorem dX7_core_21 : decode cX7_core 21 = .ok (.iconst 0, 1) := by decide +kernel
theorem dX7_core_22 : decode cX7_core 22 = .ok (.istore 5, 2) := by decide +kernel
theorem dX7_core_24 : decode cX7_core 24 = .ok (.iconst 0, 1) := by decide +kernel
theorem dX7_core_25 : decode cX7_core 25 = .ok (.istore 6, 2) := by decide +kernel
theorem dX7_core_27 : decode cX7_core 27 = .ok (.iload 6, 2) := by decide +kernel
theorem dX7_core_29 : decode cX7_core 29 = .ok (.aload_n 0, 1) := by decide +kernel
theorem dX7_core_30 : decode cX7_core 30 = .ok (.getfield 185, 3) := by decide +kernel
theorem dX7_core_33 : decode cX7_core 33 = .ok (.if_icmp .ge 76, 3) := by decide +kernel
theorem dX7_core_36 : decode cX7_core 36 = .ok (.aload_n 0, 1) := by decide +kernel
theorem dX7_core_37 : decode cX7_core 37 = .ok (.getfield 36, 3) := by decide +kernel
theorem dX7_core_40 : decode cX7_core 40 = .ok (.iload 6, 2) := by decide +kernel
theorem dX7_core_42 : decode cX7_core 42 = .ok (.baload, 1) := by decide +kernel
theorem dX7_core_43 : decode cX7_core 43 = .ok (.ifCond .ne 60, 3) := by decide +kernel
theorem dX7_core_46 : decode cX7_core 46 = .ok (.aload_n 0, 1) := by decide +kernel
theorem dX7_core_47 : decode cX7_core 47 = .ok (.getfield 36, 3) := by decide +kernel
theorem dX7_core_50 : decode cX7_core 50 = .ok (.iload 6, 2) := by decide +kernel
theorem dX7_core_52 : decode cX7_core 52 = .ok (.iconst 1, 1) := by decide +kernel
theorem dX7_core_53 : decode cX7_core 53 = .ok (.bastore, 1) := by decide +kernel
theorem dX7_core_54 : decode cX7_core 54 = .ok (.aload_n 0, 1) := by decide +kernel
theorem dX7_core_55 : decode cX7_core 55 = .ok (.iconst 0, 1) := by decide +kernel
theorem dX7_core_56 : decode cX7_core 56 = .ok (.invokevirtual 242, 3) := by decide +kernel
theorem dX7_core_59 : decode cX7_core 59 = .ok (.istore 7, 2) := by decide +kernel
theorem dX7_core_61 : decode cX7_core 61 = .ok (.aload_n 0, 1) := by decide +kernel
theorem dX7_core_62 : decode cX7_core 62 = .ok (.getfield 36, 3) := by decide +kernel
theorem dX7_core_65 : decode cX7_core 65 = .ok (.iload 6, 2) := by decide +kernel
theorem dX7_core_67 : decode cX7_core 67 = .ok (.iconst 0, 1) := by decide +kernel
theorem dX7_core_68 : decode cX7_core 68 = .ok (.bastore, 1) := by decide +kernel
theorem dX7_core_69 : decode cX7_core 69 = .ok (.iload 5, 2) := by decide +kernel
theorem dX7_core_71 : decode cX7_core 71 = .ok (.iload 7, 2) := by decide +kernel
theorem dX7_core_73 : decode cX7_core 73 = .ok (.ifCond .eq 19, 3) := by decide +kernel
theorem dX7_core_76 : decode cX7_core 76 = .ok (.aload_n 0, 1) := by decide +kernel
theorem dX7_core_77 : decode cX7_core 77 = .ok (.getfield 214, 3) := by decide +kernel
theorem dX7_core_80 : decode cX7_core 80 = .ok (.lload_n 3, 1) := by decide +kernel
theorem dX7_core_81 : decode cX7_core 81 = .ok (.lmul, 1) := by decide +kernel
theorem dX7_core_82 : decode cX7_core 82 = .ok (.lload_n 1, 1) := by decide +kernel
theorem dX7_core_83 : decode cX7_core 83 = .ok (.aload_n 0, 1) := by decide +kernel
theorem dX7_core_84 : decode cX7_core 84 = .ok (.getfield 211, 3) := by decide +kernel
theorem dX7_core_87 : decode cX7_core 87 = .ok (.lmul, 1) := by decide +kernel
theorem dX7_core_88 : decode cX7_core 88 = .ok (.lcmp, 1) := by decide +kernel
theorem dX7_core_89 : decode cX7_core 89 = .ok (.ifCond .ge 10, 3) := by decide +kernel
theorem dX7_core_92 : decode cX7_core 92 = .ok (.iconst 1, 1) := by decide +kernel
theorem dX7_core_93 : decode cX7_core 93 = .ok (.iload 6, 2) := by decide +kernel
theorem dX7_core_95 : decode cX7_core 95 = .ok (.ishl, 1) := by decide +kernel
theorem dX7_core_96 : decode cX7_core 96 = .ok (.goto 4, 3) := by decide +kernel
theorem dX7_core_99 : decode cX7_core 99 = .ok (.iconst 0, 1) := by decide +kernel
theorem dX7_core_100 : decode cX7_core 100 = .ok (.ior, 1) := by decide +kernel
theorem dX7_core_101 : decode cX7_core 101 = .ok (.istore 5, 2) := by decide +kernel
theorem dX7_core_103 : decode cX7_core 103 = .ok (.iinc 6 1, 3) := by decide +kernel
theorem dX7_core_106 : decode cX7_core 106 = .ok (.goto (-79), 3) := by decide +kernel
theorem dX7_core_109 : decode cX7_core 109 = .ok (.iload 5, 2) := by decide +kernel
theorem dX7_core_111 : decode cX7_core 111 = .ok (.ireturn, 1) := by decide +kernel
theorem dX7_offs_0 : decode cX7_offs 0 = .ok (.iconst 0, 1) := by decide +kernel
theorem dX7_offs_1 : decode cX7_offs 1 = .ok (.istore_n 1, 1) := by decide +kernel
theorem dX7_offs_2 : decode cX7_offs 2 = .ok (.iconst 0, 1) := by decide +kernel
theorem dX7_offs_3 : decode cX7_offs 3 = .ok (.istore_n 2, 1) := by decide +kernel
theorem dX7_offs_4 : decode cX7_offs 4 = .ok (.iload_n 2, 1) := by decide +kernel
theorem dX7_offs_5 : decode cX7_offs 5 = .ok (.aload_n 0, 1) := by decide +kernel
theorem dX7_offs_6 : decode cX7_offs 6 = .ok (.getfield 182, 3) := by decide +kernel
theorem dX7_offs_9 : decode cX7_offs 9 = .ok (.if_icmp .ge 26, 3) := by decide +kernel
theorem dX7_offs_12 : decode cX7_offs 12 = .ok (.iload_n 1, 1) := by decide +kernel
theorem dX7_offs_13 : decode cX7_offs 13 = .ok (.aload_n 0, 1) := by decide +kernel
theorem dX7_offs_14 : decode cX7_offs 14 = .ok (.getfield 23, 3) := by decide +kernel
theorem dX7_offs_17 : decode cX7_offs 17 = .ok (.iload_n 2, 1) := by decide +kernel
theorem dX7_offs_18 : decode cX7_offs 18 = .ok (.baload, 1) := by decide +kernel
theorem dX7_offs_19 : decode cX7_offs 19 = .ok (.ifCond .eq 7, 3) := by decide +kernel
theorem dX7_offs_22 : decode cX7_offs 22 = .ok (.iconst 1, 1) := by decide +kernel
theorem dX7_offs_23 : decode cX7_offs 23 = .ok (.goto 4, 3) := by decide +kernel
theorem dX7_offs_26 : decode cX7_offs 26 = .ok (.iconst 0, 1) := by decide +kernel
theorem dX7_offs_27 : decode cX7_offs 27 = .ok (.iadd, 1) := by decide +kernel
theorem dX7_offs_28 : decode cX7_offs 28 = .ok (.istore_n 1, 1) := by decide +kernel
theorem dX7_offs_29 : decode cX7_offs 29 = .ok (.iinc 2 1, 3) := by decide +kernel
theorem dX7_offs_32 : decode cX7_offs 32 = .ok (.goto (-28), 3) := by decide +kernel
theorem dX7_offs_35 : decode cX7_offs 35 = .ok (.iload_n 1, 1) := by decide +kernel
theorem dX7_offs_36 : decode cX7_offs 36 = .ok (.ireturn, 1) := by decide +kernel
theorem dX7_wishOffs_0 : decode cX7_wishOffs 0 = .ok (.iconst 0, 1) := by decide +kernel
theorem dX7_wishOffs_1 : decode cX7_wishOffs 1 = .ok (.istore_n 1, 1) := by decide +kernel
theorem dX7_wishOffs_2 : decode cX7_wishOffs 2 = .ok (.iconst 0, 1) := by decide +kernel
theorem dX7_wishOffs_3 : decode cX7_wishOffs 3 = .ok (.istore_n 2, 1) := by decide +kernel
theorem dX7_wishOffs_4 : decode cX7_wishOffs 4 = .ok (.iload_n 2, 1) := by decide +kernel
theorem dX7_wishOffs_5 : decode cX7_wishOffs 5 = .ok (.aload_n 0, 1) := by decide +kernel
theorem dX7_wishOffs_6 : decode cX7_wishOffs 6 = .ok (.getfield 185, 3) := by decide +kernel
theorem dX7_wishOffs_9 : decode cX7_wishOffs 9 = .ok (.if_icmp .ge 26, 3) := by decide +kernel
theorem dX7_wishOffs_12 : decode cX7_wishOffs 12 = .ok (.iload_n 1, 1) := by decide +kernel
theorem dX7_wishOffs_13 : decode cX7_wishOffs 13 = .ok (.aload_n 0, 1) := by decide +kernel
theorem dX7_wishOffs_14 : decode cX7_wishOffs 14 = .ok (.getfield 36, 3) := by decide +kernel
theorem dX7_wishOffs_17 : decode cX7_wishOffs 17 = .ok (.iload_n 2, 1) := by decide +kernel
theorem dX7_wishOffs_18 : decode cX7_wishOffs 18 = .ok (.baload, 1) := by decide +kernel
theorem dX7_wishOffs_19 : decode cX7_wishOffs 19 = .ok (.ifCond .eq 7, 3) := by decide +kernel
theorem dX7_wishOffs_22 : decode cX7_wishOffs 22 = .ok (.iconst 1, 1) := by decide +kernel
theorem dX7_wishOffs_23 : decode cX7_wishOffs 23 = .ok (.goto 4, 3) := by decide +kernel
theorem dX7_wishOffs_26 : decode cX7_wishOffs 26 = .ok (.iconst 0, 1) := by decide +kernel
theorem dX7_wishOffs_27 : decode cX7_wishOffs 27 = .ok (.iadd, 1) := by decide +kernel
theorem dX7_wishOffs_28 : decode cX7_wishOffs 28 = .ok (.istore_n 1, 1) := by decide +kernel
theorem dX7_wishOffs_29 : decode cX7_wishOffs 29 = .ok (.iinc 2 1, 3) := by decide +kernel
theorem dX7_wishOffs_32 : decode cX7_wishOffs 32 = .ok (.goto (-28), 3) := by decide +kernel
theorem dX7_wishOffs_35 : decode cX7_wishOffs 35 = .ok (.iload_n 1, 1) := by decide +kernel
theorem dX7_wishOffs_36 : decode cX7_wishOffs 36 = .ok (.ireturn, 1) := by decide +kernel
theorem dX7_labour_0 : decode cX7_labour 0 = .ok (.iload_n 1, 1) := by decide +kernel
theorem dX7_labour_1 : decode cX7_labour 1 = .ok (.i2l, 1) := by decide +kernel
theorem dX7_labour_2 : decode cX7_labour 2 = .ok (.lconst 0, 1) := by decide +kernel
theorem dX7_labour_3 : decode cX7_labour 3 = .ok (.ldc2_w 279, 3) := by decide +kernel
theorem dX7_labour_6 : decode cX7_labour 6 = .ok (.invokestatic 102, 3) := by decide +kernel
theorem dX7_labour_9 : decode cX7_labour 9 = .ok (.ifCond .ne 5, 3) := by decide +kernel
theorem dX7_labour_12 : decode cX7_labour 12 = .ok (.iconst (-1), 1) := by decide +kernel
theorem dX7_labour_13 : decode cX7_labour 13 = .ok (.ireturn, 1) := by decide +kernel
theorem dX7_labour_14 : decode cX7_labour 14 = .ok (.aload_n 0, 1) := by decide +kernel
theorem dX7_labour_15 : decode cX7_labour 15 = .ok (.getfield 182, 3) := by decide +kernel
theorem dX7_labour_18 : decode cX7_labour 18 = .ok (.aload_n 0, 1) := by decide +kernel
theorem dX7_labour_19 : decode cX7_labour 19 = .ok (.getfield 185, 3) := by decide +kernel
theorem dX7_labour_22 : decode cX7_labour 22 = .ok (.iadd, 1) := by decide +kernel
theorem dX7_labour_23 : decode cX7_labour 23 = .ok (.iconst 1, 1) := by decide +kernel
theorem dX7_labour_24 : decode cX7_labour 24 = .ok (.iadd, 1) := by decide +kernel
theorem dX7_labour_25 : decode cX7_labour 25 = .ok (.istore_n 2, 1) := by decide +kernel
theorem dX7_labour_26 : decode cX7_labour 26 = .ok (.iconst 0, 1) := by decide +kernel
theorem dX7_labour_27 : decode cX7_labour 27 = .ok (.istore_n 3, 1) := by decide +kernel
theorem dX7_labour_28 : decode cX7_labour 28 = .ok (.iconst 0, 1) := by decide +kernel
theorem dX7_labour_29 : decode cX7_labour 29 = .ok (.istore 4, 2) := by decide +kernel
theorem dX7_labour_31 : decode cX7_labour 31 = .ok (.iconst 0, 1) := by decide +kernel
theorem dX7_labour_32 : decode cX7_labour 32 = .ok (.istore 5, 2) := by decide +kernel
theorem dX7_labour_34 : decode cX7_labour 34 = .ok (.iload 5, 2) := by decide +kernel
theorem dX7_labour_36 : decode cX7_labour 36 = .ok (.aload_n 0, 1) := by decide +kernel
theorem dX7_labour_37 : decode cX7_labour 37 = .ok (.getfield 185, 3) := by decide +kernel
theorem dX7_labour_40 : decode cX7_labour 40 = .ok (.if_icmp .ge 89, 3) := by decide +kernel
theorem dX7_labour_43 : decode cX7_labour 43 = .ok (.iconst 0, 1) := by decide +kernel
theorem dX7_labour_44 : decode cX7_labour 44 = .ok (.istore 6, 2) := by decide +kernel
theorem dX7_labour_46 : decode cX7_labour 46 = .ok (.iconst 0, 1) := by decide +kernel
theorem dX7_labour_47 : decode cX7_labour 47 = .ok (.istore 7, 2) := by decide +kernel
theorem dX7_labour_49 : decode cX7_labour 49 = .ok (.iload 7, 2) := by decide +kernel
theorem dX7_labour_51 : decode cX7_labour 51 = .ok (.aload_n 0, 1) := by decide +kernel
theorem dX7_labour_52 : decode cX7_labour 52 = .ok (.getfield 182, 3) := by decide +kernel
theorem dX7_labour_55 : decode cX7_labour 55 = .ok (.if_icmp .ge 34, 3) := by decide +kernel
theorem dX7_labour_58 : decode cX7_labour 58 = .ok (.iload 6, 2) := by decide +kernel
theorem dX7_labour_60 : decode cX7_labour 60 = .ok (.aload_n 0, 1) := by decide +kernel
theorem dX7_labour_61 : decode cX7_labour 61 = .ok (.getfield 39, 3) := by decide +kernel
theorem dX7_labour_64 : decode cX7_labour 64 = .ok (.iconst 5, 1) := by decide +kernel
theorem dX7_labour_65 : decode cX7_labour 65 = .ok (.iload 5, 2) := by decide +kernel
theorem dX7_labour_67 : decode cX7_labour 67 = .ok (.imul, 1) := by decide +kernel
theorem dX7_labour_68 : decode cX7_labour 68 = .ok (.iload 7, 2) := by decide +kernel
theorem dX7_labour_70 : decode cX7_labour 70 = .ok (.iadd, 1) := by decide +kernel
theorem dX7_labour_71 : decode cX7_labour 71 = .ok (.iaload, 1) := by decide +kernel
theorem dX7_labour_72 : decode cX7_labour 72 = .ok (.ifCond .le 7, 3) := by decide +kernel
theorem dX7_labour_75 : decode cX7_labour 75 = .ok (.iconst 1, 1) := by decide +kernel
theorem dX7_labour_76 : decode cX7_labour 76 = .ok (.goto 4, 3) := by decide +kernel
theorem dX7_labour_79 : decode cX7_labour 79 = .ok (.iconst 0, 1) := by decide +kernel
theorem dX7_labour_80 : decode cX7_labour 80 = .ok (.iadd, 1) := by decide +kernel
theorem dX7_labour_81 : decode cX7_labour 81 = .ok (.istore 6, 2) := by decide +kernel
theorem dX7_labour_83 : decode cX7_labour 83 = .ok (.iinc 7 1, 3) := by decide +kernel
theorem dX7_labour_86 : decode cX7_labour 86 = .ok (.goto (-37), 3) := by decide +kernel
theorem dX7_labour_89 : decode cX7_labour 89 = .ok (.iload_n 3, 1) := by decide +kernel
theorem dX7_labour_90 : decode cX7_labour 90 = .ok (.iload 6, 2) := by decide +kernel
theorem dX7_labour_92 : decode cX7_labour 92 = .ok (.iconst 2, 1) := by decide +kernel
theorem dX7_labour_93 : decode cX7_labour 93 = .ok (.if_icmp .ge 7, 3) := by decide +kernel
theorem dX7_labour_96 : decode cX7_labour 96 = .ok (.iconst 1, 1) := by decide +kernel
theorem dX7_labour_97 : decode cX7_labour 97 = .ok (.goto 4, 3) := by decide +kernel
theorem dX7_labour_100 : decode cX7_labour 100 = .ok (.iconst 0, 1) := by decide +kernel
theorem dX7_labour_101 : decode cX7_labour 101 = .ok (.iadd, 1) := by decide +kernel
theorem dX7_labour_102 : decode cX7_labour 102 = .ok (.istore_n 3, 1) := by decide +kernel
theorem dX7_labour_103 : decode cX7_labour 103 = .ok (.iload 4, 2) := by decide +kernel
theorem dX7_labour_105 : decode cX7_labour 105 = .ok (.aload_n 0, 1) := by decide +kernel
theorem dX7_labour_106 : decode cX7_labour 106 = .ok (.getfield 30, 3) := by decide +kernel
theorem dX7_labour_109 : decode cX7_labour 109 = .ok (.iload 5, 2) := by decide +kernel
theorem dX7_labour_111 : decode cX7_labour 111 = .ok (.iaload, 1) := by decide +kernel
theorem dX7_labour_112 : decode cX7_labour 112 = .ok (.ifCond .ne 7, 3) := by decide +kernel
theorem dX7_labour_115 : decode cX7_labour 115 = .ok (.iconst 0, 1) := by decide +kernel
theorem dX7_labour_116 : decode cX7_labour 116 = .ok (.goto 4, 3) := by decide +kernel
theorem dX7_labour_119 : decode cX7_labour 119 = .ok (.iconst 1, 1) := by decide +kernel
theorem dX7_labour_120 : decode cX7_labour 120 = .ok (.iadd, 1) := by decide +kernel
theorem dX7_labour_121 : decode cX7_labour 121 = .ok (.istore 4, 2) := by decide +kernel
theorem dX7_labour_123 : decode cX7_labour 123 = .ok (.iinc 5 1, 3) := by decide +kernel
theorem dX7_labour_126 : decode cX7_labour 126 = .ok (.goto (-92), 3) := by decide +kernel
theorem dX7_labour_129 : decode cX7_labour 129 = .ok (.iload_n 2, 1) := by decide +kernel
theorem dX7_labour_130 : decode cX7_labour 130 = .ok (.iconst 2, 1) := by decide +kernel
theorem dX7_labour_131 : decode cX7_labour 131 = .ok (.iload 4, 2) := by decide +kernel
theorem dX7_labour_133 : decode cX7_labour 133 = .ok (.imul, 1) := by decide +kernel
theorem dX7_labour_134 : decode cX7_labour 134 = .ok (.iadd, 1) := by decide +kernel
theorem dX7_labour_135 : decode cX7_labour 135 = .ok (.istore 5, 2) := by decide +kernel
theorem dX7_labour_137 : decode cX7_labour 137 = .ok (.aload_n 0, 1) := by decide +kernel
theorem dX7_labour_138 : decode cX7_labour 138 = .ok (.dup, 1) := by decide +kernel
theorem dX7_labour_139 : decode cX7_labour 139 = .ok (.getfield 281, 3) := by decide +kernel
theorem dX7_labour_142 : decode cX7_labour 142 = .ok (.iload_n 1, 1) := by decide +kernel
theorem dX7_labour_143 : decode cX7_labour 143 = .ok (.ifCond .ne 7, 3) := by decide +kernel
theorem dX7_labour_146 : decode cX7_labour 146 = .ok (.lconst 1, 1) := by decide +kernel
theorem dX7_labour_147 : decode cX7_labour 147 = .ok (.goto 39, 3) := by decide +kernel
theorem dX7_labour_150 : decode cX7_labour 150 = .ok (.iload_n 1, 1) := by decide +kernel
theorem dX7_labour_151 : decode cX7_labour 151 = .ok (.iconst 1, 1) := by decide +kernel
theorem dX7_labour_152 : decode cX7_labour 152 = .ok (.if_icmp .ne 9, 3) := by decide +kernel
theorem dX7_labour_155 : decode cX7_labour 155 = .ok (.ldc2_w 284, 3) := by decide +kernel
theorem dX7_labour_158 : decode cX7_labour 158 = .ok (.goto 28, 3) := by decide +kernel
theorem dX7_labour_161 : decode cX7_labour 161 = .ok (.iload_n 1, 1) := by decide +kernel
theorem dX7_labour_162 : decode cX7_labour 162 = .ok (.iconst 2, 1) := by decide +kernel
theorem dX7_labour_163 : decode cX7_labour 163 = .ok (.if_icmp .ne 9, 3) := by decide +kernel
theorem dX7_labour_166 : decode cX7_labour 166 = .ok (.ldc2_w 286, 3) := by decide +kernel
theorem dX7_labour_169 : decode cX7_labour 169 = .ok (.goto 17, 3) := by decide +kernel
theorem dX7_labour_172 : decode cX7_labour 172 = .ok (.iload_n 1, 1) := by decide +kernel
theorem dX7_labour_173 : decode cX7_labour 173 = .ok (.iconst 3, 1) := by decide +kernel
theorem dX7_labour_174 : decode cX7_labour 174 = .ok (.if_icmp .ne 9, 3) := by decide +kernel
theorem dX7_labour_177 : decode cX7_labour 177 = .ok (.ldc2_w 288, 3) := by decide +kernel
theorem dX7_labour_180 : decode cX7_labour 180 = .ok (.goto 6, 3) := by decide +kernel
theorem dX7_labour_183 : decode cX7_labour 183 = .ok (.ldc2_w 290, 3) := by decide +kernel
theorem dX7_labour_186 : decode cX7_labour 186 = .ok (.ladd, 1) := by decide +kernel
theorem dX7_labour_187 : decode cX7_labour 187 = .ok (.putfield 281, 3) := by decide +kernel
theorem dX7_labour_190 : decode cX7_labour 190 = .ok (.iload_n 1, 1) := by decide +kernel
theorem dX7_labour_191 : decode cX7_labour 191 = .ok (.ifCond .ne 7, 3) := by decide +kernel
theorem dX7_labour_194 : decode cX7_labour 194 = .ok (.iload_n 2, 1) := by decide +kernel
theorem dX7_labour_195 : decode cX7_labour 195 = .ok (.goto 51, 3) := by decide +kernel
theorem dX7_labour_198 : decode cX7_labour 198 = .ok (.iload_n 1, 1) := by decide +kernel
theorem dX7_labour_199 : decode cX7_labour 199 = .ok (.iconst 1, 1) := by decide +kernel
theorem dX7_labour_200 : decode cX7_labour 200 = .ok (.if_icmp .ne 9, 3) := by decide +kernel
theorem dX7_labour_203 : decode cX7_labour 203 = .ok (.iload_n 2, 1) := by decide +kernel
theorem dX7_labour_204 : decode cX7_labour 204 = .ok (.iload_n 3, 1) := by decide +kernel
theorem dX7_labour_205 : decode cX7_labour 205 = .ok (.isub, 1) := by decide +kernel
theorem dX7_labour_206 : decode cX7_labour 206 = .ok (.goto 40, 3) := by decide +kernel
theorem dX7_labour_209 : decode cX7_labour 209 = .ok (.iload_n 1, 1) := by decide +kernel
theorem dX7_labour_210 : decode cX7_labour 210 = .ok (.iconst 2, 1) := by decide +kernel
theorem dX7_labour_211 : decode cX7_labour 211 = .ok (.if_icmp .ne 8, 3) := by decide +kernel
theorem dX7_labour_214 : decode cX7_labour 214 = .ok (.iload 5, 2) := by decide +kernel
theorem dX7_labour_216 : decode cX7_labour 216 = .ok (.goto 30, 3) := by decide +kernel
theorem dX7_labour_219 : decode cX7_labour 219 = .ok (.iload_n 1, 1) := by decide +kernel
theorem dX7_labour_220 : decode cX7_labour 220 = .ok (.iconst 3, 1) := by decide +kernel
theorem dX7_labour_221 : decode cX7_labour 221 = .ok (.if_icmp .ne 14, 3) := by decide +kernel
theorem dX7_labour_224 : decode cX7_labour 224 = .ok (.iload 5, 2) := by decide +kernel
theorem dX7_labour_226 : decode cX7_labour 226 = .ok (.iload 5, 2) := by decide +kernel
theorem dX7_labour_228 : decode cX7_labour 228 = .ok (.imul, 1) := by decide +kernel
theorem dX7_labour_229 : decode cX7_labour 229 = .ok (.bipush 97, 2) := by decide +kernel
theorem dX7_labour_231 : decode cX7_labour 231 = .ok (.irem, 1) := by decide +kernel
theorem dX7_labour_232 : decode cX7_labour 232 = .ok (.goto 14, 3) := by decide +kernel
theorem dX7_labour_235 : decode cX7_labour 235 = .ok (.iload_n 2, 1) := by decide +kernel
theorem dX7_labour_236 : decode cX7_labour 236 = .ok (.aload_n 0, 1) := by decide +kernel
theorem dX7_labour_237 : decode cX7_labour 237 = .ok (.invokevirtual 292, 3) := by decide +kernel
theorem dX7_labour_240 : decode cX7_labour 240 = .ok (.iadd, 1) := by decide +kernel
theorem dX7_labour_241 : decode cX7_labour 241 = .ok (.aload_n 0, 1) := by decide +kernel
theorem dX7_labour_242 : decode cX7_labour 242 = .ok (.invokevirtual 295, 3) := by decide +kernel
theorem dX7_labour_245 : decode cX7_labour 245 = .ok (.iadd, 1) := by decide +kernel
theorem dX7_labour_246 : decode cX7_labour 246 = .ok (.ireturn, 1) := by decide +kernel
theorem dX7_count_0 : decode cX7_count 0 = .ok (.iload_n 1, 1) := by decide +kernel
theorem dX7_count_1 : decode cX7_count 1 = .ok (.tableswitch 60 0 4 #[35, 40, 45, 50, 55], 35) := by decide +kernel
theorem dX7_count_36 : decode cX7_count 36 = .ok (.aload_n 0, 1) := by decide +kernel
theorem dX7_count_37 : decode cX7_count 37 = .ok (.getfield 182, 3) := by decide +kernel
theorem dX7_count_40 : decode cX7_count 40 = .ok (.ireturn, 1) := by decide +kernel
theorem dX7_count_41 : decode cX7_count 41 = .ok (.aload_n 0, 1) := by decide +kernel
theorem dX7_count_42 : decode cX7_count 42 = .ok (.getfield 185, 3) := by decide +kernel
theorem dX7_count_45 : decode cX7_count 45 = .ok (.ireturn, 1) := by decide +kernel
theorem dX7_count_46 : decode cX7_count 46 = .ok (.aload_n 0, 1) := by decide +kernel
theorem dX7_count_47 : decode cX7_count 47 = .ok (.invokevirtual 292, 3) := by decide +kernel
theorem dX7_count_50 : decode cX7_count 50 = .ok (.ireturn, 1) := by decide +kernel
theorem dX7_count_51 : decode cX7_count 51 = .ok (.aload_n 0, 1) := by decide +kernel
theorem dX7_count_52 : decode cX7_count 52 = .ok (.invokevirtual 295, 3) := by decide +kernel
theorem dX7_count_55 : decode cX7_count 55 = .ok (.ireturn, 1) := by decide +kernel
theorem dX7_count_56 : decode cX7_count 56 = .ok (.aload_n 0, 1) := by decide +kernel
theorem dX7_count_57 : decode cX7_count 57 = .ok (.getfield 106, 3) := by decide +kernel
theorem dX7_count_60 : decode cX7_count 60 = .ok (.ireturn, 1) := by decide +kernel
theorem dX7_count_61 : decode cX7_count 61 = .ok (.iconst (-1), 1) := by decide +kernel
theorem dX7_count_62 : decode cX7_count 62 = .ok (.ireturn, 1) := by decide +kernel
theorem dX7_trace_0 : decode cX7_trace 0 = .ok (.aload_n 0, 1) := by decide +kernel
theorem dX7_trace_1 : decode cX7_trace 1 = .ok (.getfield 281, 3) := by decide +kernel
theorem dX7_trace_4 : decode cX7_trace 4 = .ok (.lreturn, 1) := by decide +kernel
theorem dJ6_bitCount_0f7a4_0 : decode cJ6_bitCount_0f7a4 0 = .ok (.iload_n 0, 1) := by decide +kernel
theorem dJ6_bitCount_0f7a4_1 : decode cJ6_bitCount_0f7a4 1 = .ok (.iload_n 0, 1) := by decide +kernel
theorem dJ6_bitCount_0f7a4_2 : decode cJ6_bitCount_0f7a4 2 = .ok (.iconst 1, 1) := by decide +kernel
theorem dJ6_bitCount_0f7a4_3 : decode cJ6_bitCount_0f7a4 3 = .ok (.iushr, 1) := by decide +kernel
theorem dJ6_bitCount_0f7a4_4 : decode cJ6_bitCount_0f7a4 4 = .ok (.ldc_w 265, 3) := by decide +kernel
theorem dJ6_bitCount_0f7a4_7 : decode cJ6_bitCount_0f7a4 7 = .ok (.iand, 1) := by decide +kernel
theorem dJ6_bitCount_0f7a4_8 : decode cJ6_bitCount_0f7a4 8 = .ok (.isub, 1) := by decide +kernel
theorem dJ6_bitCount_0f7a4_9 : decode cJ6_bitCount_0f7a4 9 = .ok (.istore_n 0, 1) := by decide +kernel
theorem dJ6_bitCount_0f7a4_10 : decode cJ6_bitCount_0f7a4 10 = .ok (.iload_n 0, 1) := by decide +kernel
theorem dJ6_bitCount_0f7a4_11 : decode cJ6_bitCount_0f7a4 11 = .ok (.ldc_w 266, 3) := by decide +kernel
theorem dJ6_bitCount_0f7a4_14 : decode cJ6_bitCount_0f7a4 14 = .ok (.iand, 1) := by decide +kernel
theorem dJ6_bitCount_0f7a4_15 : decode cJ6_bitCount_0f7a4 15 = .ok (.iload_n 0, 1) := by decide +kernel
theorem dJ6_bitCount_0f7a4_16 : decode cJ6_bitCount_0f7a4 16 = .ok (.iconst 2, 1) := by decide +kernel
theorem dJ6_bitCount_0f7a4_17 : decode cJ6_bitCount_0f7a4 17 = .ok (.iushr, 1) := by decide +kernel
theorem dJ6_bitCount_0f7a4_18 : decode cJ6_bitCount_0f7a4 18 = .ok (.ldc_w 266, 3) := by decide +kernel
theorem dJ6_bitCount_0f7a4_21 : decode cJ6_bitCount_0f7a4 21 = .ok (.iand, 1) := by decide +kernel
theorem dJ6_bitCount_0f7a4_22 : decode cJ6_bitCount_0f7a4 22 = .ok (.iadd, 1) := by decide +kernel
theorem dJ6_bitCount_0f7a4_23 : decode cJ6_bitCount_0f7a4 23 = .ok (.istore_n 0, 1) := by decide +kernel
theorem dJ6_bitCount_0f7a4_24 : decode cJ6_bitCount_0f7a4 24 = .ok (.iload_n 0, 1) := by decide +kernel
theorem dJ6_bitCount_0f7a4_25 : decode cJ6_bitCount_0f7a4 25 = .ok (.iload_n 0, 1) := by decide +kernel
theorem dJ6_bitCount_0f7a4_26 : decode cJ6_bitCount_0f7a4 26 = .ok (.iconst 4, 1) := by decide +kernel
theorem dJ6_bitCount_0f7a4_27 : decode cJ6_bitCount_0f7a4 27 = .ok (.iushr, 1) := by decide +kernel
theorem dJ6_bitCount_0f7a4_28 : decode cJ6_bitCount_0f7a4 28 = .ok (.iadd, 1) := by decide +kernel
theorem dJ6_bitCount_0f7a4_29 : decode cJ6_bitCount_0f7a4 29 = .ok (.ldc_w 267, 3) := by decide +kernel
theorem dJ6_bitCount_0f7a4_32 : decode cJ6_bitCount_0f7a4 32 = .ok (.iand, 1) := by decide +kernel
theorem dJ6_bitCount_0f7a4_33 : decode cJ6_bitCount_0f7a4 33 = .ok (.istore_n 0, 1) := by decide +kernel
theorem dJ6_bitCount_0f7a4_34 : decode cJ6_bitCount_0f7a4 34 = .ok (.iload_n 0, 1) := by decide +kernel
theorem dJ6_bitCount_0f7a4_35 : decode cJ6_bitCount_0f7a4 35 = .ok (.iload_n 0, 1) := by decide +kernel
theorem dJ6_bitCount_0f7a4_36 : decode cJ6_bitCount_0f7a4 36 = .ok (.bipush 8, 2) := by decide +kernel
theorem dJ6_bitCount_0f7a4_38 : decode cJ6_bitCount_0f7a4 38 = .ok (.iushr, 1) := by decide +kernel
theorem dJ6_bitCount_0f7a4_39 : decode cJ6_bitCount_0f7a4 39 = .ok (.iadd, 1) := by decide +kernel
theorem dJ6_bitCount_0f7a4_40 : decode cJ6_bitCount_0f7a4 40 = .ok (.istore_n 0, 1) := by decide +kernel
theorem dJ6_bitCount_0f7a4_41 : decode cJ6_bitCount_0f7a4 41 = .ok (.iload_n 0, 1) := by decide +kernel
theorem dJ6_bitCount_0f7a4_42 : decode cJ6_bitCount_0f7a4 42 = .ok (.iload_n 0, 1) := by decide +kernel
theorem dJ6_bitCount_0f7a4_43 : decode cJ6_bitCount_0f7a4 43 = .ok (.bipush 16, 2) := by decide +kernel
theorem dJ6_bitCount_0f7a4_45 : decode cJ6_bitCount_0f7a4 45 = .ok (.iushr, 1) := by decide +kernel
theorem dJ6_bitCount_0f7a4_46 : decode cJ6_bitCount_0f7a4 46 = .ok (.iadd, 1) := by decide +kernel
theorem dJ6_bitCount_0f7a4_47 : decode cJ6_bitCount_0f7a4 47 = .ok (.istore_n 0, 1) := by decide +kernel
theorem dJ6_bitCount_0f7a4_48 : decode cJ6_bitCount_0f7a4 48 = .ok (.iload_n 0, 1) := by decide +kernel
theorem dJ6_bitCount_0f7a4_49 : decode cJ6_bitCount_0f7a4 49 = .ok (.bipush 63, 2) := by decide +kernel
theorem dJ6_bitCount_0f7a4_51 : decode cJ6_bitCount_0f7a4 51 = .ok (.iand, 1) := by decide +kernel
theorem dJ6_bitCount_0f7a4_52 : decode cJ6_bitCount_0f7a4 52 = .ok (.ireturn, 1) := by decide +kernel
theorem dJ13_compare_74951_0 : decode cJ13_compare_74951 0 = .ok (.lload_n 0, 1) := by decide +kernel
theorem dJ13_compare_74951_1 : decode cJ13_compare_74951 1 = .ok (.lload_n 2, 1) := by decide +kernel
theorem dJ13_compare_74951_2 : decode cJ13_compare_74951 2 = .ok (.lcmp, 1) := by decide +kernel
theorem dJ13_compare_74951_3 : decode cJ13_compare_74951 3 = .ok (.ifCond .ge 7, 3) := by decide +kernel
theorem dJ13_compare_74951_6 : decode cJ13_compare_74951 6 = .ok (.iconst (-1), 1) := by decide +kernel
theorem dJ13_compare_74951_7 : decode cJ13_compare_74951 7 = .ok (.goto 14, 3) := by decide +kernel
theorem dJ13_compare_74951_10 : decode cJ13_compare_74951 10 = .ok (.lload_n 0, 1) := by decide +kernel
theorem dJ13_compare_74951_11 : decode cJ13_compare_74951 11 = .ok (.lload_n 2, 1) := by decide +kernel
theorem dJ13_compare_74951_12 : decode cJ13_compare_74951 12 = .ok (.lcmp, 1) := by decide +kernel
theorem dJ13_compare_74951_13 : decode cJ13_compare_74951 13 = .ok (.ifCond .ne 7, 3) := by decide +kernel
theorem dJ13_compare_74951_16 : decode cJ13_compare_74951 16 = .ok (.iconst 0, 1) := by decide +kernel
theorem dJ13_compare_74951_17 : decode cJ13_compare_74951 17 = .ok (.goto 4, 3) := by decide +kernel
theorem dJ13_compare_74951_20 : decode cJ13_compare_74951 20 = .ok (.iconst 1, 1) := by decide +kernel
theorem dJ13_compare_74951_21 : decode cJ13_compare_74951 21 = .ok (.ireturn, 1) := by decide +kernel
theorem dJ9_floorDiv_f86c9_0 : decode cJ9_floorDiv_f86c9 0 = .ok (.lload_n 0, 1) := by decide +kernel
theorem dJ9_floorDiv_f86c9_1 : decode cJ9_floorDiv_f86c9 1 = .ok (.lload_n 2, 1) := by decide +kernel
theorem dJ9_floorDiv_f86c9_2 : decode cJ9_floorDiv_f86c9 2 = .ok (.ldiv, 1) := by decide +kernel
theorem dJ9_floorDiv_f86c9_3 : decode cJ9_floorDiv_f86c9 3 = .ok (.lstore 4, 2) := by decide +kernel
theorem dJ9_floorDiv_f86c9_5 : decode cJ9_floorDiv_f86c9 5 = .ok (.lload_n 0, 1) := by decide +kernel
theorem dJ9_floorDiv_f86c9_6 : decode cJ9_floorDiv_f86c9 6 = .ok (.lload_n 2, 1) := by decide +kernel
theorem dJ9_floorDiv_f86c9_7 : decode cJ9_floorDiv_f86c9 7 = .ok (.lxor, 1) := by decide +kernel
theorem dJ9_floorDiv_f86c9_8 : decode cJ9_floorDiv_f86c9 8 = .ok (.lconst 0, 1) := by decide +kernel
theorem dJ9_floorDiv_f86c9_9 : decode cJ9_floorDiv_f86c9 9 = .ok (.lcmp, 1) := by decide +kernel
theorem dJ9_floorDiv_f86c9_10 : decode cJ9_floorDiv_f86c9 10 = .ok (.ifCond .ge 17, 3) := by decide +kernel
theorem dJ9_floorDiv_f86c9_13 : decode cJ9_floorDiv_f86c9 13 = .ok (.lload 4, 2) := by decide +kernel
theorem dJ9_floorDiv_f86c9_15 : decode cJ9_floorDiv_f86c9 15 = .ok (.lload_n 2, 1) := by decide +kernel
theorem dJ9_floorDiv_f86c9_16 : decode cJ9_floorDiv_f86c9 16 = .ok (.lmul, 1) := by decide +kernel
theorem dJ9_floorDiv_f86c9_17 : decode cJ9_floorDiv_f86c9 17 = .ok (.lload_n 0, 1) := by decide +kernel
theorem dJ9_floorDiv_f86c9_18 : decode cJ9_floorDiv_f86c9 18 = .ok (.lcmp, 1) := by decide +kernel
theorem dJ9_floorDiv_f86c9_19 : decode cJ9_floorDiv_f86c9 19 = .ok (.ifCond .eq 8, 3) := by decide +kernel
theorem dJ9_floorDiv_f86c9_22 : decode cJ9_floorDiv_f86c9 22 = .ok (.lload 4, 2) := by decide +kernel
theorem dJ9_floorDiv_f86c9_24 : decode cJ9_floorDiv_f86c9 24 = .ok (.lconst 1, 1) := by decide +kernel
theorem dJ9_floorDiv_f86c9_25 : decode cJ9_floorDiv_f86c9 25 = .ok (.lsub, 1) := by decide +kernel
theorem dJ9_floorDiv_f86c9_26 : decode cJ9_floorDiv_f86c9 26 = .ok (.lreturn, 1) := by decide +kernel
theorem dJ9_floorDiv_f86c9_27 : decode cJ9_floorDiv_f86c9 27 = .ok (.lload 4, 2) := by decide +kernel
theorem dJ9_floorDiv_f86c9_29 : decode cJ9_floorDiv_f86c9 29 = .ok (.lreturn, 1) := by decide +kernel
theorem dJ9_abs_067f4_0 : decode cJ9_abs_067f4 0 = .ok (.lload_n 0, 1) := by decide +kernel
theorem dJ9_abs_067f4_1 : decode cJ9_abs_067f4 1 = .ok (.lconst 0, 1) := by decide +kernel
theorem dJ9_abs_067f4_2 : decode cJ9_abs_067f4 2 = .ok (.lcmp, 1) := by decide +kernel
theorem dJ9_abs_067f4_3 : decode cJ9_abs_067f4 3 = .ok (.ifCond .ge 8, 3) := by decide +kernel
theorem dJ9_abs_067f4_6 : decode cJ9_abs_067f4 6 = .ok (.lload_n 0, 1) := by decide +kernel
theorem dJ9_abs_067f4_7 : decode cJ9_abs_067f4 7 = .ok (.lneg, 1) := by decide +kernel
theorem dJ9_abs_067f4_8 : decode cJ9_abs_067f4 8 = .ok (.goto 4, 3) := by decide +kernel
theorem dJ9_abs_067f4_11 : decode cJ9_abs_067f4 11 = .ok (.lload_n 0, 1) := by decide +kernel
theorem dJ9_abs_067f4_12 : decode cJ9_abs_067f4 12 = .ok (.lreturn, 1) := by decide +kernel
theorem dJ9_max_7cf53_0 : decode cJ9_max_7cf53 0 = .ok (.iload_n 0, 1) := by decide +kernel
theorem dJ9_max_7cf53_1 : decode cJ9_max_7cf53 1 = .ok (.iload_n 1, 1) := by decide +kernel
theorem dJ9_max_7cf53_2 : decode cJ9_max_7cf53 2 = .ok (.if_icmp .lt 7, 3) := by decide +kernel
theorem dJ9_max_7cf53_5 : decode cJ9_max_7cf53 5 = .ok (.iload_n 0, 1) := by decide +kernel
theorem dJ9_max_7cf53_6 : decode cJ9_max_7cf53 6 = .ok (.goto 4, 3) := by decide +kernel
theorem dJ9_max_7cf53_9 : decode cJ9_max_7cf53 9 = .ok (.iload_n 1, 1) := by decide +kernel
theorem dJ9_max_7cf53_10 : decode cJ9_max_7cf53 10 = .ok (.ireturn, 1) := by decide +kernel
theorem dJ9_max_f86c9_0 : decode cJ9_max_f86c9 0 = .ok (.lload_n 0, 1) := by decide +kernel
theorem dJ9_max_f86c9_1 : decode cJ9_max_f86c9 1 = .ok (.lload_n 2, 1) := by decide +kernel
theorem dJ9_max_f86c9_2 : decode cJ9_max_f86c9 2 = .ok (.lcmp, 1) := by decide +kernel
theorem dJ9_max_f86c9_3 : decode cJ9_max_f86c9 3 = .ok (.ifCond .lt 7, 3) := by decide +kernel
theorem dJ9_max_f86c9_6 : decode cJ9_max_f86c9 6 = .ok (.lload_n 0, 1) := by decide +kernel
theorem dJ9_max_f86c9_7 : decode cJ9_max_f86c9 7 = .ok (.goto 4, 3) := by decide +kernel
theorem dJ9_max_f86c9_10 : decode cJ9_max_f86c9 10 = .ok (.lload_n 2, 1) := by decide +kernel
theorem dJ9_max_f86c9_11 : decode cJ9_max_f86c9 11 = .ok (.lreturn, 1) := by decide +kernel
theorem dJ0_length_8abf5_0 : decode cJ0_length_8abf5 0 = .ok (.aload_n 0, 1) := by decide +kernel
theorem dJ0_length_8abf5_1 : decode cJ0_length_8abf5 1 = .ok (.getfield 9, 3) := by decide +kernel
theorem dJ0_length_8abf5_4 : decode cJ0_length_8abf5 4 = .ok (.arraylength, 1) := by decide +kernel
theorem dJ0_length_8abf5_5 : decode cJ0_length_8abf5 5 = .ok (.aload_n 0, 1) := by decide +kernel
theorem dJ0_length_8abf5_6 : decode cJ0_length_8abf5 6 = .ok (.invokevirtual 335, 3) := by decide +kernel
theorem dJ0_length_8abf5_9 : decode cJ0_length_8abf5 9 = .ok (.ishr, 1) := by decide +kernel
theorem dJ0_length_8abf5_10 : decode cJ0_length_8abf5 10 = .ok (.ireturn, 1) := by decide +kernel
theorem dJ0_charAt_5068e_0 : decode cJ0_charAt_5068e 0 = .ok (.aload_n 0, 1) := by decide +kernel
theorem dJ0_charAt_5068e_1 : decode cJ0_charAt_5068e 1 = .ok (.invokevirtual 492, 3) := by decide +kernel
theorem dJ0_charAt_5068e_4 : decode cJ0_charAt_5068e 4 = .ok (.ifCond .eq 12, 3) := by decide +kernel
theorem dJ0_charAt_5068e_7 : decode cJ0_charAt_5068e 7 = .ok (.aload_n 0, 1) := by decide +kernel
theorem dJ0_charAt_5068e_8 : decode cJ0_charAt_5068e 8 = .ok (.getfield 9, 3) := by decide +kernel
theorem dJ0_charAt_5068e_11 : decode cJ0_charAt_5068e 11 = .ok (.iload_n 1, 1) := by decide +kernel
theorem dJ0_charAt_5068e_12 : decode cJ0_charAt_5068e 12 = .ok (.invokestatic 495, 3) := by decide +kernel
theorem dJ0_charAt_5068e_15 : decode cJ0_charAt_5068e 15 = .ok (.ireturn, 1) := by decide +kernel
theorem dJ0_charAt_5068e_16 : decode cJ0_charAt_5068e 16 = .ok (.aload_n 0, 1) := by decide +kernel
theorem dJ0_charAt_5068e_17 : decode cJ0_charAt_5068e 17 = .ok (.getfield 9, 3) := by decide +kernel
theorem dJ0_charAt_5068e_20 : decode cJ0_charAt_5068e 20 = .ok (.iload_n 1, 1) := by decide +kernel
theorem dJ0_charAt_5068e_21 : decode cJ0_charAt_5068e 21 = .ok (.invokestatic 498, 3) := by decide +kernel
theorem dJ0_charAt_5068e_24 : decode cJ0_charAt_5068e 24 = .ok (.ireturn, 1) := by decide +kernel
theorem dJ0_coder_7d493_0 : decode cJ0_coder_7d493 0 = .ok (.getstatic 38, 3) := by decide +kernel
theorem dJ0_coder_7d493_3 : decode cJ0_coder_7d493 3 = .ok (.ifCond .eq 10, 3) := by decide +kernel
theorem dJ0_coder_7d493_6 : decode cJ0_coder_7d493 6 = .ok (.aload_n 0, 1) := by decide +kernel
theorem dJ0_coder_7d493_7 : decode cJ0_coder_7d493 7 = .ok (.getfield 15, 3) := by decide +kernel
theorem dJ0_coder_7d493_10 : decode cJ0_coder_7d493 10 = .ok (.goto 4, 3) := by decide +kernel
theorem dJ0_coder_7d493_13 : decode cJ0_coder_7d493 13 = .ok (.iconst 1, 1) := by decide +kernel
theorem dJ0_coder_7d493_14 : decode cJ0_coder_7d493 14 = .ok (.ireturn, 1) := by decide +kernel
theorem dJ0_isLatin1_aae02_0 : decode cJ0_isLatin1_aae02 0 = .ok (.getstatic 38, 3) := by decide +kernel
theorem dJ0_isLatin1_aae02_3 : decode cJ0_isLatin1_aae02 3 = .ok (.ifCond .eq 14, 3) := by decide +kernel
theorem dJ0_isLatin1_aae02_6 : decode cJ0_isLatin1_aae02 6 = .ok (.aload_n 0, 1) := by decide +kernel
theorem dJ0_isLatin1_aae02_7 : decode cJ0_isLatin1_aae02 7 = .ok (.getfield 15, 3) := by decide +kernel
theorem dJ0_isLatin1_aae02_10 : decode cJ0_isLatin1_aae02 10 = .ok (.ifCond .ne 7, 3) := by decide +kernel
theorem dJ0_isLatin1_aae02_13 : decode cJ0_isLatin1_aae02 13 = .ok (.iconst 1, 1) := by decide +kernel
theorem dJ0_isLatin1_aae02_14 : decode cJ0_isLatin1_aae02 14 = .ok (.goto 4, 3) := by decide +kernel
theorem dJ0_isLatin1_aae02_17 : decode cJ0_isLatin1_aae02 17 = .ok (.iconst 0, 1) := by decide +kernel
theorem dJ0_isLatin1_aae02_18 : decode cJ0_isLatin1_aae02 18 = .ok (.ireturn, 1) := by decide +kernel
theorem dJ0_checkIndex_df160_0 : decode cJ0_checkIndex_df160 0 = .ok (.iload_n 0, 1) := by decide +kernel
theorem dJ0_checkIndex_df160_1 : decode cJ0_checkIndex_df160 1 = .ok (.iload_n 1, 1) := by decide +kernel
theorem dJ0_checkIndex_df160_2 : decode cJ0_checkIndex_df160 2 = .ok (.getstatic 1053, 3) := by decide +kernel
theorem dJ0_checkIndex_df160_5 : decode cJ0_checkIndex_df160 5 = .ok (.invokestatic 1059, 3) := by decide +kernel
theorem dJ0_checkIndex_df160_8 : decode cJ0_checkIndex_df160 8 = .ok (.pop, 1) := by decide +kernel
theorem dJ0_checkIndex_df160_9 : decode cJ0_checkIndex_df160 9 = .ok (.return_, 1) := by decide +kernel
theorem dJ1_charAt_3b067_0 : decode cJ1_charAt_3b067 0 = .ok (.iload_n 1, 1) := by decide +kernel
theorem dJ1_charAt_3b067_1 : decode cJ1_charAt_3b067 1 = .ok (.aload_n 0, 1) := by decide +kernel
theorem dJ1_charAt_3b067_2 : decode cJ1_charAt_3b067 2 = .ok (.arraylength, 1) := by decide +kernel
theorem dJ1_charAt_3b067_3 : decode cJ1_charAt_3b067 3 = .ok (.invokestatic 9, 3) := by decide +kernel
theorem dJ1_charAt_3b067_6 : decode cJ1_charAt_3b067 6 = .ok (.aload_n 0, 1) := by decide +kernel
theorem dJ1_charAt_3b067_7 : decode cJ1_charAt_3b067 7 = .ok (.iload_n 1, 1) := by decide +kernel
theorem dJ1_charAt_3b067_8 : decode cJ1_charAt_3b067 8 = .ok (.baload, 1) := by decide +kernel
theorem dJ1_charAt_3b067_9 : decode cJ1_charAt_3b067 9 = .ok (.sipush 255, 3) := by decide +kernel
theorem dJ1_charAt_3b067_12 : decode cJ1_charAt_3b067 12 = .ok (.iand, 1) := by decide +kernel
theorem dJ1_charAt_3b067_13 : decode cJ1_charAt_3b067 13 = .ok (.i2c, 1) := by decide +kernel
theorem dJ1_charAt_3b067_14 : decode cJ1_charAt_3b067 14 = .ok (.ireturn, 1) := by decide +kernel
theorem dJ2_getChar_3b067_0 : decode cJ2_getChar_3b067 0 = .ok (.getstatic 44, 3) := by decide +kernel
theorem dJ2_getChar_3b067_3 : decode cJ2_getChar_3b067 3 = .ok (.ifCond .ne 25, 3) := by decide +kernel
theorem dJ2_getChar_3b067_6 : decode cJ2_getChar_3b067 6 = .ok (.iload_n 1, 1) := by decide +kernel
theorem dJ2_getChar_3b067_7 : decode cJ2_getChar_3b067 7 = .ok (.ifCond .lt 11, 3) := by decide +kernel
theorem dJ2_getChar_3b067_10 : decode cJ2_getChar_3b067 10 = .ok (.iload_n 1, 1) := by decide +kernel
theorem dJ2_getChar_3b067_11 : decode cJ2_getChar_3b067 11 = .ok (.aload_n 0, 1) := by decide +kernel
theorem dJ2_getChar_3b067_12 : decode cJ2_getChar_3b067 12 = .ok (.invokestatic 48, 3) := by decide +kernel
theorem dJ2_getChar_3b067_15 : decode cJ2_getChar_3b067 15 = .ok (.if_icmp .lt 13, 3) := by decide +kernel
theorem dJ2_getChar_3b067_18 : decode cJ2_getChar_3b067 18 = .ok (.new 52, 3) := by decide +kernel
theorem dJ2_getChar_3b067_21 : decode cJ2_getChar_3b067 21 = .ok (.dup, 1) := by decide +kernel
theorem dJ2_getChar_3b067_22 : decode cJ2_getChar_3b067 22 = .ok (.ldc 54, 2) := by decide +kernel
theorem dJ2_getChar_3b067_24 : decode cJ2_getChar_3b067 24 = .ok (.invokespecial 56, 3) := by decide +kernel
theorem dJ2_getChar_3b067_27 : decode cJ2_getChar_3b067 27 = .ok (.athrow, 1) := by decide +kernel
theorem dJ2_getChar_3b067_28 : decode cJ2_getChar_3b067 28 = .ok (.iload_n 1, 1) := by decide +kernel
theorem dJ2_getChar_3b067_29 : decode cJ2_getChar_3b067 29 = .ok (.iconst 1, 1) := by decide +kernel
theorem dJ2_getChar_3b067_30 : decode cJ2_getChar_3b067 30 = .ok (.ishl, 1) := by decide +kernel
theorem dJ2_getChar_3b067_31 : decode cJ2_getChar_3b067 31 = .ok (.istore_n 1, 1) := by decide +kernel
theorem dJ2_getChar_3b067_32 : decode cJ2_getChar_3b067 32 = .ok (.aload_n 0, 1) := by decide +kernel
theorem dJ2_getChar_3b067_33 : decode cJ2_getChar_3b067 33 = .ok (.iload_n 1, 1) := by decide +kernel
theorem dJ2_getChar_3b067_34 : decode cJ2_getChar_3b067 34 = .ok (.iinc 1 1, 3) := by decide +kernel
theorem dJ2_getChar_3b067_37 : decode cJ2_getChar_3b067 37 = .ok (.baload, 1) := by decide +kernel
theorem dJ2_getChar_3b067_38 : decode cJ2_getChar_3b067 38 = .ok (.sipush 255, 3) := by decide +kernel
theorem dJ2_getChar_3b067_41 : decode cJ2_getChar_3b067 41 = .ok (.iand, 1) := by decide +kernel
theorem dJ2_getChar_3b067_42 : decode cJ2_getChar_3b067 42 = .ok (.getstatic 59, 3) := by decide +kernel
theorem dJ2_getChar_3b067_45 : decode cJ2_getChar_3b067 45 = .ok (.ishl, 1) := by decide +kernel
theorem dJ2_getChar_3b067_46 : decode cJ2_getChar_3b067 46 = .ok (.aload_n 0, 1) := by decide +kernel
theorem dJ2_getChar_3b067_47 : decode cJ2_getChar_3b067 47 = .ok (.iload_n 1, 1) := by decide +kernel
theorem dJ2_getChar_3b067_48 : decode cJ2_getChar_3b067 48 = .ok (.baload, 1) := by decide +kernel
theorem dJ2_getChar_3b067_49 : decode cJ2_getChar_3b067 49 = .ok (.sipush 255, 3) := by decide +kernel
theorem dJ2_getChar_3b067_52 : decode cJ2_getChar_3b067 52 = .ok (.iand, 1) := by decide +kernel
theorem dJ2_getChar_3b067_53 : decode cJ2_getChar_3b067 53 = .ok (.getstatic 63, 3) := by decide +kernel
theorem dJ2_getChar_3b067_56 : decode cJ2_getChar_3b067 56 = .ok (.ishl, 1) := by decide +kernel
theorem dJ2_getChar_3b067_57 : decode cJ2_getChar_3b067 57 = .ok (.ior, 1) := by decide +kernel
theorem dJ2_getChar_3b067_58 : decode cJ2_getChar_3b067 58 = .ok (.i2c, 1) := by decide +kernel
theorem dJ2_getChar_3b067_59 : decode cJ2_getChar_3b067 59 = .ok (.ireturn, 1) := by decide +kernel
theorem dJ2_length_9d52b_0 : decode cJ2_length_9d52b 0 = .ok (.aload_n 0, 1) := by decide +kernel
theorem dJ2_length_9d52b_1 : decode cJ2_length_9d52b 1 = .ok (.arraylength, 1) := by decide +kernel
theorem dJ2_length_9d52b_2 : decode cJ2_length_9d52b 2 = .ok (.iconst 1, 1) := by decide +kernel
theorem dJ2_length_9d52b_3 : decode cJ2_length_9d52b 3 = .ok (.ishr, 1) := by decide +kernel
theorem dJ2_length_9d52b_4 : decode cJ2_length_9d52b 4 = .ok (.ireturn, 1) := by decide +kernel
theorem dJ2_charAt_3b067_0 : decode cJ2_charAt_3b067 0 = .ok (.iload_n 1, 1) := by decide +kernel
theorem dJ2_charAt_3b067_1 : decode cJ2_charAt_3b067 1 = .ok (.aload_n 0, 1) := by decide +kernel
theorem dJ2_charAt_3b067_2 : decode cJ2_charAt_3b067 2 = .ok (.invokestatic 67, 3) := by decide +kernel
theorem dJ2_charAt_3b067_5 : decode cJ2_charAt_3b067 5 = .ok (.aload_n 0, 1) := by decide +kernel
theorem dJ2_charAt_3b067_6 : decode cJ2_charAt_3b067 6 = .ok (.iload_n 1, 1) := by decide +kernel
theorem dJ2_charAt_3b067_7 : decode cJ2_charAt_3b067 7 = .ok (.invokestatic 71, 3) := by decide +kernel
theorem dJ2_charAt_3b067_10 : decode cJ2_charAt_3b067 10 = .ok (.ireturn, 1) := by decide +kernel
theorem dJ2_checkIndex_2214a_0 : decode cJ2_checkIndex_2214a 0 = .ok (.iload_n 0, 1) := by decide +kernel
theorem dJ2_checkIndex_2214a_1 : decode cJ2_checkIndex_2214a 1 = .ok (.aload_n 1, 1) := by decide +kernel
theorem dJ2_checkIndex_2214a_2 : decode cJ2_checkIndex_2214a 2 = .ok (.invokestatic 48, 3) := by decide +kernel
theorem dJ2_checkIndex_2214a_5 : decode cJ2_checkIndex_2214a 5 = .ok (.invokestatic 414, 3) := by decide +kernel
theorem dJ2_checkIndex_2214a_8 : decode cJ2_checkIndex_2214a 8 = .ok (.return_, 1) := by decide +kernel
theorem dJ7_fill_d0a16_0 : decode cJ7_fill_d0a16 0 = .ok (.iconst 0, 1) := by decide +kernel
theorem dJ7_fill_d0a16_1 : decode cJ7_fill_d0a16 1 = .ok (.istore_n 3, 1) := by decide +kernel
theorem dJ7_fill_d0a16_2 : decode cJ7_fill_d0a16 2 = .ok (.aload_n 0, 1) := by decide +kernel
theorem dJ7_fill_d0a16_3 : decode cJ7_fill_d0a16 3 = .ok (.arraylength, 1) := by decide +kernel
theorem dJ7_fill_d0a16_4 : decode cJ7_fill_d0a16 4 = .ok (.istore 4, 2) := by decide +kernel
theorem dJ7_fill_d0a16_6 : decode cJ7_fill_d0a16 6 = .ok (.iload_n 3, 1) := by decide +kernel
theorem dJ7_fill_d0a16_7 : decode cJ7_fill_d0a16 7 = .ok (.iload 4, 2) := by decide +kernel
theorem dJ7_fill_d0a16_9 : decode cJ7_fill_d0a16 9 = .ok (.if_icmp .ge 13, 3) := by decide +kernel
theorem dJ7_fill_d0a16_12 : decode cJ7_fill_d0a16 12 = .ok (.aload_n 0, 1) := by decide +kernel
theorem dJ7_fill_d0a16_13 : decode cJ7_fill_d0a16 13 = .ok (.iload_n 3, 1) := by decide +kernel
theorem dJ7_fill_d0a16_14 : decode cJ7_fill_d0a16 14 = .ok (.lload_n 1, 1) := by decide +kernel
theorem dJ7_fill_d0a16_15 : decode cJ7_fill_d0a16 15 = .ok (.lastore, 1) := by decide +kernel
theorem dJ7_fill_d0a16_16 : decode cJ7_fill_d0a16 16 = .ok (.iinc 3 1, 3) := by decide +kernel
theorem dJ7_fill_d0a16_19 : decode cJ7_fill_d0a16 19 = .ok (.goto (-13), 3) := by decide +kernel
theorem dJ7_fill_d0a16_22 : decode cJ7_fill_d0a16 22 = .ok (.return_, 1) := by decide +kernel
theorem dJ7_fill_53178_0 : decode cJ7_fill_53178 0 = .ok (.iconst 0, 1) := by decide +kernel
theorem dJ7_fill_53178_1 : decode cJ7_fill_53178 1 = .ok (.istore_n 2, 1) := by decide +kernel
theorem dJ7_fill_53178_2 : decode cJ7_fill_53178 2 = .ok (.aload_n 0, 1) := by decide +kernel
theorem dJ7_fill_53178_3 : decode cJ7_fill_53178 3 = .ok (.arraylength, 1) := by decide +kernel
theorem dJ7_fill_53178_4 : decode cJ7_fill_53178 4 = .ok (.istore_n 3, 1) := by decide +kernel
theorem dJ7_fill_53178_5 : decode cJ7_fill_53178 5 = .ok (.iload_n 2, 1) := by decide +kernel
theorem dJ7_fill_53178_6 : decode cJ7_fill_53178 6 = .ok (.iload_n 3, 1) := by decide +kernel
theorem dJ7_fill_53178_7 : decode cJ7_fill_53178 7 = .ok (.if_icmp .ge 13, 3) := by decide +kernel
theorem dJ7_fill_53178_10 : decode cJ7_fill_53178 10 = .ok (.aload_n 0, 1) := by decide +kernel
theorem dJ7_fill_53178_11 : decode cJ7_fill_53178 11 = .ok (.iload_n 2, 1) := by decide +kernel
theorem dJ7_fill_53178_12 : decode cJ7_fill_53178 12 = .ok (.iload_n 1, 1) := by decide +kernel
theorem dJ7_fill_53178_13 : decode cJ7_fill_53178 13 = .ok (.iastore, 1) := by decide +kernel
theorem dJ7_fill_53178_14 : decode cJ7_fill_53178 14 = .ok (.iinc 2 1, 3) := by decide +kernel
theorem dJ7_fill_53178_17 : decode cJ7_fill_53178 17 = .ok (.goto (-12), 3) := by decide +kernel
theorem dJ7_fill_53178_20 : decode cJ7_fill_53178 20 = .ok (.return_, 1) := by decide +kernel
theorem dJ3_checkIndex_8e157_0 : decode cJ3_checkIndex_8e157 0 = .ok (.iload_n 0, 1) := by decide +kernel
theorem dJ3_checkIndex_8e157_1 : decode cJ3_checkIndex_8e157 1 = .ok (.ifCond .lt 8, 3) := by decide +kernel
theorem dJ3_checkIndex_8e157_4 : decode cJ3_checkIndex_8e157 4 = .ok (.iload_n 0, 1) := by decide +kernel
theorem dJ3_checkIndex_8e157_5 : decode cJ3_checkIndex_8e157 5 = .ok (.iload_n 1, 1) := by decide +kernel
theorem dJ3_checkIndex_8e157_6 : decode cJ3_checkIndex_8e157 6 = .ok (.if_icmp .lt 10, 3) := by decide +kernel
theorem dJ3_checkIndex_8e157_9 : decode cJ3_checkIndex_8e157 9 = .ok (.aload_n 2, 1) := by decide +kernel
theorem dJ3_checkIndex_8e157_10 : decode cJ3_checkIndex_8e157 10 = .ok (.iload_n 0, 1) := by decide +kernel
theorem dJ3_checkIndex_8e157_11 : decode cJ3_checkIndex_8e157 11 = .ok (.iload_n 1, 1) := by decide +kernel
theorem dJ3_checkIndex_8e157_12 : decode cJ3_checkIndex_8e157 12 = .ok (.invokestatic 95, 3) := by decide +kernel
theorem dJ3_checkIndex_8e157_15 : decode cJ3_checkIndex_8e157 15 = .ok (.athrow, 1) := by decide +kernel
theorem dJ3_checkIndex_8e157_16 : decode cJ3_checkIndex_8e157 16 = .ok (.iload_n 0, 1) := by decide +kernel
theorem dJ3_checkIndex_8e157_17 : decode cJ3_checkIndex_8e157 17 = .ok (.ireturn, 1) := by decide +kernel
