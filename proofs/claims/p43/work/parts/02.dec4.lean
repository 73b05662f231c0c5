theorem dL_tests_10 : decode cL_tests 10 = .ok (.ishl, 1) := by decide +kernel
theorem dL_tests_11 : decode cL_tests 11 = .ok (.ishl, 1) := by decide +kernel
theorem dL_tests_12 : decode cL_tests 12 = .ok (.if_icmp .ge 114, 3) := by decide +kernel
theorem dL_tests_15 : decode cL_tests 15 = .ok (.iload_n 3, 1) := by decide +kernel
theorem dL_tests_16 : decode cL_tests 16 = .ok (.i2l, 1) := by decide +kernel
theorem dL_tests_17 : decode cL_tests 17 = .ok (.invokestatic 138, 3) := by decide +kernel
theorem dL_tests_20 : decode cL_tests 20 = .ok (.istore 4, 2) := by decide +kernel
theorem dL_tests_22 : decode cL_tests 22 = .ok (.iload 4, 2) := by decide +kernel
theorem dL_tests_24 : decode cL_tests 24 = .ok (.iconst 5, 1) := by decide +kernel
theorem dL_tests_25 : decode cL_tests 25 = .ok (.if_icmp .ge 17, 3) := by decide +kernel
theorem dL_tests_28 : decode cL_tests 28 = .ok (.iload_n 2, 1) := by decide +kernel
theorem dL_tests_29 : decode cL_tests 29 = .ok (.ifCond .lt 9, 3) := by decide +kernel
theorem dL_tests_32 : decode cL_tests 32 = .ok (.iload 4, 2) := by decide +kernel
theorem dL_tests_34 : decode cL_tests 34 = .ok (.iload_n 2, 1) := by decide +kernel
theorem dL_tests_35 : decode cL_tests 35 = .ok (.if_icmp .ge 7, 3) := by decide +kernel
theorem dL_tests_38 : decode cL_tests 38 = .ok (.iconst 1, 1) := by decide +kernel
theorem dL_tests_39 : decode cL_tests 39 = .ok (.goto 4, 3) := by decide +kernel
theorem dL_tests_42 : decode cL_tests 42 = .ok (.iconst 0, 1) := by decide +kernel
theorem dL_tests_43 : decode cL_tests 43 = .ok (.istore 5, 2) := by decide +kernel
theorem dL_tests_45 : decode cL_tests 45 = .ok (.iconst 0, 1) := by decide +kernel
theorem dL_tests_46 : decode cL_tests 46 = .ok (.istore 6, 2) := by decide +kernel
theorem dL_tests_48 : decode cL_tests 48 = .ok (.iload 6, 2) := by decide +kernel
theorem dL_tests_50 : decode cL_tests 50 = .ok (.iconst 3, 1) := by decide +kernel
theorem dL_tests_51 : decode cL_tests 51 = .ok (.aload_n 1, 1) := by decide +kernel
theorem dL_tests_52 : decode cL_tests 52 = .ok (.iconst 1, 1) := by decide +kernel
theorem dL_tests_53 : decode cL_tests 53 = .ok (.iaload, 1) := by decide +kernel
theorem dL_tests_54 : decode cL_tests 54 = .ok (.imul, 1) := by decide +kernel
theorem dL_tests_55 : decode cL_tests 55 = .ok (.if_icmp .ge 53, 3) := by decide +kernel
theorem dL_tests_58 : decode cL_tests 58 = .ok (.iload 5, 2) := by decide +kernel
theorem dL_tests_60 : decode cL_tests 60 = .ok (.ifCond .eq 48, 3) := by decide +kernel
theorem dL_tests_63 : decode cL_tests 63 = .ok (.iload 6, 2) := by decide +kernel
theorem dL_tests_65 : decode cL_tests 65 = .ok (.iconst 3, 1) := by decide +kernel
theorem dL_tests_66 : decode cL_tests 66 = .ok (.idiv, 1) := by decide +kernel
theorem dL_tests_67 : decode cL_tests 67 = .ok (.iload 6, 2) := by decide +kernel
theorem dL_tests_69 : decode cL_tests 69 = .ok (.iconst 3, 1) := by decide +kernel
theorem dL_tests_70 : decode cL_tests 70 = .ok (.irem, 1) := by decide +kernel
theorem dL_tests_71 : decode cL_tests 71 = .ok (.aload_n 0, 1) := by decide +kernel
theorem dL_tests_72 : decode cL_tests 72 = .ok (.aload_n 1, 1) := by decide +kernel
theorem dL_tests_73 : decode cL_tests 73 = .ok (.invokestatic 142, 3) := by decide +kernel
theorem dL_tests_76 : decode cL_tests 76 = .ok (.lstore 7, 2) := by decide +kernel
theorem dL_tests_78 : decode cL_tests 78 = .ok (.lload 7, 2) := by decide +kernel
theorem dL_tests_80 : decode cL_tests 80 = .ok (.lconst 0, 1) := by decide +kernel
theorem dL_tests_81 : decode cL_tests 81 = .ok (.lcmp, 1) := by decide +kernel
theorem dL_tests_82 : decode cL_tests 82 = .ok (.ifCond .eq 13, 3) := by decide +kernel
theorem dL_tests_85 : decode cL_tests 85 = .ok (.lload 7, 2) := by decide +kernel
theorem dL_tests_87 : decode cL_tests 87 = .ok (.iload_n 3, 1) := by decide +kernel
theorem dL_tests_88 : decode cL_tests 88 = .ok (.i2l, 1) := by decide +kernel
theorem dL_tests_89 : decode cL_tests 89 = .ok (.land, 1) := by decide +kernel
theorem dL_tests_90 : decode cL_tests 90 = .ok (.lconst 0, 1) := by decide +kernel
theorem dL_tests_91 : decode cL_tests 91 = .ok (.lcmp, 1) := by decide +kernel
theorem dL_tests_92 : decode cL_tests 92 = .ok (.ifCond .eq 7, 3) := by decide +kernel
theorem dL_tests_95 : decode cL_tests 95 = .ok (.iconst 1, 1) := by decide +kernel
theorem dL_tests_96 : decode cL_tests 96 = .ok (.goto 4, 3) := by decide +kernel
theorem dL_tests_99 : decode cL_tests 99 = .ok (.iconst 0, 1) := by decide +kernel
theorem dL_tests_100 : decode cL_tests 100 = .ok (.istore 5, 2) := by decide +kernel
theorem dL_tests_102 : decode cL_tests 102 = .ok (.iinc 6 1, 3) := by decide +kernel
theorem dL_tests_105 : decode cL_tests 105 = .ok (.goto (-57), 3) := by decide +kernel
theorem dL_tests_108 : decode cL_tests 108 = .ok (.iload 5, 2) := by decide +kernel
theorem dL_tests_110 : decode cL_tests 110 = .ok (.ifCond .eq 8, 3) := by decide +kernel
theorem dL_tests_113 : decode cL_tests 113 = .ok (.iload 4, 2) := by decide +kernel
theorem dL_tests_115 : decode cL_tests 115 = .ok (.goto 4, 3) := by decide +kernel
theorem dL_tests_118 : decode cL_tests 118 = .ok (.iload_n 2, 1) := by decide +kernel
theorem dL_tests_119 : decode cL_tests 119 = .ok (.istore_n 2, 1) := by decide +kernel
theorem dL_tests_120 : decode cL_tests 120 = .ok (.iinc 3 1, 3) := by decide +kernel
theorem dL_tests_123 : decode cL_tests 123 = .ok (.goto (-119), 3) := by decide +kernel
theorem dL_tests_126 : decode cL_tests 126 = .ok (.iload_n 2, 1) := by decide +kernel
theorem dL_tests_127 : decode cL_tests 127 = .ok (.ireturn, 1) := by decide +kernel
theorem dL_faults_0 : decode cL_faults 0 = .ok (.aload_n 3, 1) := by decide +kernel
theorem dL_faults_1 : decode cL_faults 1 = .ok (.iconst 0, 1) := by decide +kernel
theorem dL_faults_2 : decode cL_faults 2 = .ok (.iaload, 1) := by decide +kernel
theorem dL_faults_3 : decode cL_faults 3 = .ok (.istore 4, 2) := by decide +kernel
theorem dL_faults_5 : decode cL_faults 5 = .ok (.iload_n 1, 1) := by decide +kernel
theorem dL_faults_6 : decode cL_faults 6 = .ok (.i2l, 1) := by decide +kernel
theorem dL_faults_7 : decode cL_faults 7 = .ok (.ldc2_w 146, 3) := by decide +kernel
theorem dL_faults_10 : decode cL_faults 10 = .ok (.lmul, 1) := by decide +kernel
theorem dL_faults_11 : decode cL_faults 11 = .ok (.lstore 5, 2) := by decide +kernel
theorem dL_faults_13 : decode cL_faults 13 = .ok (.iconst 0, 1) := by decide +kernel
theorem dL_faults_14 : decode cL_faults 14 = .ok (.istore 7, 2) := by decide +kernel
theorem dL_faults_16 : decode cL_faults 16 = .ok (.iconst 1, 1) := by decide +kernel
theorem dL_faults_17 : decode cL_faults 17 = .ok (.istore 8, 2) := by decide +kernel
theorem dL_faults_19 : decode cL_faults 19 = .ok (.iconst 0, 1) := by decide +kernel
theorem dL_faults_20 : decode cL_faults 20 = .ok (.istore 9, 2) := by decide +kernel
theorem dL_faults_22 : decode cL_faults 22 = .ok (.iload 9, 2) := by decide +kernel
theorem dL_faults_24 : decode cL_faults 24 = .ok (.iconst 3, 1) := by decide +kernel
theorem dL_faults_25 : decode cL_faults 25 = .ok (.aload_n 3, 1) := by decide +kernel
theorem dL_faults_26 : decode cL_faults 26 = .ok (.iconst 1, 1) := by decide +kernel
theorem dL_faults_27 : decode cL_faults 27 = .ok (.iaload, 1) := by decide +kernel
theorem dL_faults_28 : decode cL_faults 28 = .ok (.imul, 1) := by decide +kernel
theorem dL_faults_29 : decode cL_faults 29 = .ok (.if_icmp .ge 40, 3) := by decide +kernel
theorem dL_faults_32 : decode cL_faults 32 = .ok (.iload 7, 2) := by decide +kernel
theorem dL_faults_34 : decode cL_faults 34 = .ok (.iload 9, 2) := by decide +kernel
theorem dL_faults_36 : decode cL_faults 36 = .ok (.iconst 3, 1) := by decide +kernel
theorem dL_faults_37 : decode cL_faults 37 = .ok (.idiv, 1) := by decide +kernel
theorem dL_faults_38 : decode cL_faults 38 = .ok (.iload 9, 2) := by decide +kernel
theorem dL_faults_40 : decode cL_faults 40 = .ok (.iconst 3, 1) := by decide +kernel
theorem dL_faults_41 : decode cL_faults 41 = .ok (.irem, 1) := by decide +kernel
theorem dL_faults_42 : decode cL_faults 42 = .ok (.aload_n 2, 1) := by decide +kernel
theorem dL_faults_43 : decode cL_faults 43 = .ok (.aload_n 3, 1) := by decide +kernel
theorem dL_faults_44 : decode cL_faults 44 = .ok (.invokestatic 142, 3) := by decide +kernel
theorem dL_faults_47 : decode cL_faults 47 = .ok (.lload 5, 2) := by decide +kernel
theorem dL_faults_49 : decode cL_faults 49 = .ok (.land, 1) := by decide +kernel
theorem dL_faults_50 : decode cL_faults 50 = .ok (.lconst 0, 1) := by decide +kernel
theorem dL_faults_51 : decode cL_faults 51 = .ok (.lcmp, 1) := by decide +kernel
theorem dL_faults_52 : decode cL_faults 52 = .ok (.ifCond .ne 7, 3) := by decide +kernel
theorem dL_faults_55 : decode cL_faults 55 = .ok (.iconst 1, 1) := by decide +kernel
theorem dL_faults_56 : decode cL_faults 56 = .ok (.goto 4, 3) := by decide +kernel
theorem dL_faults_59 : decode cL_faults 59 = .ok (.iconst 0, 1) := by decide +kernel
theorem dL_faults_60 : decode cL_faults 60 = .ok (.iadd, 1) := by decide +kernel
theorem dL_faults_61 : decode cL_faults 61 = .ok (.istore 7, 2) := by decide +kernel
theorem dL_faults_63 : decode cL_faults 63 = .ok (.iinc 9 1, 3) := by decide +kernel
theorem dL_faults_66 : decode cL_faults 66 = .ok (.goto (-44), 3) := by decide +kernel
theorem dL_faults_69 : decode cL_faults 69 = .ok (.iconst 0, 1) := by decide +kernel
theorem dL_faults_70 : decode cL_faults 70 = .ok (.istore 9, 2) := by decide +kernel
theorem dL_faults_72 : decode cL_faults 72 = .ok (.iload 9, 2) := by decide +kernel
theorem dL_faults_74 : decode cL_faults 74 = .ok (.iconst 1, 1) := by decide +kernel
theorem dL_faults_75 : decode cL_faults 75 = .ok (.iload 4, 2) := by decide +kernel
theorem dL_faults_77 : decode cL_faults 77 = .ok (.ishl, 1) := by decide +kernel
theorem dL_faults_78 : decode cL_faults 78 = .ok (.if_icmp .ge 59, 3) := by decide +kernel
theorem dL_faults_81 : decode cL_faults 81 = .ok (.iconst (-1), 1) := by decide +kernel
theorem dL_faults_82 : decode cL_faults 82 = .ok (.istore 10, 2) := by decide +kernel
theorem dL_faults_84 : decode cL_faults 84 = .ok (.iload 10, 2) := by decide +kernel
theorem dL_faults_86 : decode cL_faults 86 = .ok (.aload_n 3, 1) := by decide +kernel
theorem dL_faults_87 : decode cL_faults 87 = .ok (.iconst 1, 1) := by decide +kernel
theorem dL_faults_88 : decode cL_faults 88 = .ok (.iaload, 1) := by decide +kernel
theorem dL_faults_89 : decode cL_faults 89 = .ok (.if_icmp .ge 42, 3) := by decide +kernel
theorem dL_faults_92 : decode cL_faults 92 = .ok (.iload 8, 2) := by decide +kernel
theorem dL_faults_94 : decode cL_faults 94 = .ok (.ifCond .eq 28, 3) := by decide +kernel
theorem dL_faults_97 : decode cL_faults 97 = .ok (.iload 9, 2) := by decide +kernel
theorem dL_faults_99 : decode cL_faults 99 = .ok (.aload_n 3, 1) := by decide +kernel
theorem dL_faults_100 : decode cL_faults 100 = .ok (.iconst 1, 1) := by decide +kernel
theorem dL_faults_101 : decode cL_faults 101 = .ok (.iaload, 1) := by decide +kernel
theorem dL_faults_102 : decode cL_faults 102 = .ok (.iload 10, 2) := by decide +kernel
theorem dL_faults_104 : decode cL_faults 104 = .ok (.iconst 0, 1) := by decide +kernel
theorem dL_faults_105 : decode cL_faults 105 = .ok (.aload_n 2, 1) := by decide +kernel
theorem dL_faults_106 : decode cL_faults 106 = .ok (.invokestatic 41, 3) := by decide +kernel
theorem dL_faults_109 : decode cL_faults 109 = .ok (.iconst 0, 1) := by decide +kernel
theorem dL_faults_110 : decode cL_faults 110 = .ok (.iload 4, 2) := by decide +kernel
theorem dL_faults_112 : decode cL_faults 112 = .ok (.invokestatic 130, 3) := by decide +kernel
theorem dL_faults_115 : decode cL_faults 115 = .ok (.ifCond .eq 7, 3) := by decide +kernel
theorem dL_faults_118 : decode cL_faults 118 = .ok (.iconst 1, 1) := by decide +kernel
theorem dL_faults_119 : decode cL_faults 119 = .ok (.goto 4, 3) := by decide +kernel
theorem dL_faults_122 : decode cL_faults 122 = .ok (.iconst 0, 1) := by decide +kernel
theorem dL_faults_123 : decode cL_faults 123 = .ok (.istore 8, 2) := by decide +kernel
theorem dL_faults_125 : decode cL_faults 125 = .ok (.iinc 10 1, 3) := by decide +kernel
theorem dL_faults_128 : decode cL_faults 128 = .ok (.goto (-44), 3) := by decide +kernel
theorem dL_faults_131 : decode cL_faults 131 = .ok (.iinc 9 1, 3) := by decide +kernel
theorem dL_faults_134 : decode cL_faults 134 = .ok (.goto (-62), 3) := by decide +kernel
theorem dL_faults_137 : decode cL_faults 137 = .ok (.aload_n 0, 1) := by decide +kernel
theorem dL_faults_138 : decode cL_faults 138 = .ok (.lload 5, 2) := by decide +kernel
theorem dL_faults_140 : decode cL_faults 140 = .ok (.invokevirtual 148, 3) := by decide +kernel
theorem dL_faults_143 : decode cL_faults 143 = .ok (.iload 7, 2) := by decide +kernel
theorem dL_faults_145 : decode cL_faults 145 = .ok (.if_icmp .ne 42, 3) := by decide +kernel
theorem dL_faults_148 : decode cL_faults 148 = .ok (.aload_n 0, 1) := by decide +kernel
theorem dL_faults_149 : decode cL_faults 149 = .ok (.invokevirtual 151, 3) := by decide +kernel
theorem dL_faults_152 : decode cL_faults 152 = .ok (.iload 8, 2) := by decide +kernel
theorem dL_faults_154 : decode cL_faults 154 = .ok (.if_icmp .ne 33, 3) := by decide +kernel
theorem dL_faults_157 : decode cL_faults 157 = .ok (.iload 4, 2) := by decide +kernel
theorem dL_faults_159 : decode cL_faults 159 = .ok (.iconst 3, 1) := by decide +kernel
theorem dL_faults_160 : decode cL_faults 160 = .ok (.if_icmp .gt 23, 3) := by decide +kernel
theorem dL_faults_163 : decode cL_faults 163 = .ok (.aload_n 3, 1) := by decide +kernel
theorem dL_faults_164 : decode cL_faults 164 = .ok (.iconst 1, 1) := by decide +kernel
theorem dL_faults_165 : decode cL_faults 165 = .ok (.iaload, 1) := by decide +kernel
theorem dL_faults_166 : decode cL_faults 166 = .ok (.bipush 6, 2) := by decide +kernel
theorem dL_faults_168 : decode cL_faults 168 = .ok (.if_icmp .gt 15, 3) := by decide +kernel
theorem dL_faults_171 : decode cL_faults 171 = .ok (.aload_n 0, 1) := by decide +kernel
theorem dL_faults_172 : decode cL_faults 172 = .ok (.invokevirtual 155, 3) := by decide +kernel
theorem dL_faults_175 : decode cL_faults 175 = .ok (.aload_n 2, 1) := by decide +kernel
theorem dL_faults_176 : decode cL_faults 176 = .ok (.aload_n 3, 1) := by decide +kernel
theorem dL_faults_177 : decode cL_faults 177 = .ok (.invokestatic 158, 3) := by decide +kernel
theorem dL_faults_180 : decode cL_faults 180 = .ok (.if_icmp .ne 7, 3) := by decide +kernel
theorem dL_faults_183 : decode cL_faults 183 = .ok (.iconst 1, 1) := by decide +kernel
theorem dL_faults_184 : decode cL_faults 184 = .ok (.goto 4, 3) := by decide +kernel
theorem dL_faults_187 : decode cL_faults 187 = .ok (.iconst 0, 1) := by decide +kernel
theorem dL_faults_188 : decode cL_faults 188 = .ok (.istore 9, 2) := by decide +kernel
theorem dL_faults_190 : decode cL_faults 190 = .ok (.aload_n 3, 1) := by decide +kernel
theorem dL_faults_191 : decode cL_faults 191 = .ok (.iconst 1, 1) := by decide +kernel
theorem dL_faults_192 : decode cL_faults 192 = .ok (.iaload, 1) := by decide +kernel
theorem dL_faults_193 : decode cL_faults 193 = .ok (.ifCond .eq 8, 3) := by decide +kernel
theorem dL_faults_196 : decode cL_faults 196 = .ok (.iload 9, 2) := by decide +kernel
theorem dL_faults_198 : decode cL_faults 198 = .ok (.ifCond .ne 6, 3) := by decide +kernel
theorem dL_faults_201 : decode cL_faults 201 = .ok (.iload 9, 2) := by decide +kernel
theorem dL_faults_203 : decode cL_faults 203 = .ok (.ireturn, 1) := by decide +kernel
theorem dL_faults_204 : decode cL_faults 204 = .ok (.iload_n 1, 1) := by decide +kernel
theorem dL_faults_205 : decode cL_faults 205 = .ok (.aload_n 3, 1) := by decide +kernel
theorem dL_faults_206 : decode cL_faults 206 = .ok (.iconst 1, 1) := by decide +kernel
theorem dL_faults_207 : decode cL_faults 207 = .ok (.iaload, 1) := by decide +kernel
theorem dL_faults_208 : decode cL_faults 208 = .ok (.invokestatic 161, 3) := by decide +kernel
theorem dL_faults_211 : decode cL_faults 211 = .ok (.istore 10, 2) := by decide +kernel
theorem dL_faults_213 : decode cL_faults 213 = .ok (.iload_n 1, 1) := by decide +kernel
theorem dL_faults_214 : decode cL_faults 214 = .ok (.iconst 5, 1) := by decide +kernel
theorem dL_faults_215 : decode cL_faults 215 = .ok (.ishr, 1) := by decide +kernel
theorem dL_faults_216 : decode cL_faults 216 = .ok (.iconst 3, 1) := by decide +kernel
theorem dL_faults_217 : decode cL_faults 217 = .ok (.invokestatic 161, 3) := by decide +kernel
theorem dL_faults_220 : decode cL_faults 220 = .ok (.istore 11, 2) := by decide +kernel
theorem dL_faults_222 : decode cL_faults 222 = .ok (.iconst 0, 1) := by decide +kernel
theorem dL_faults_223 : decode cL_faults 223 = .ok (.istore 12, 2) := by decide +kernel
theorem dL_faults_225 : decode cL_faults 225 = .ok (.iconst 0, 1) := by decide +kernel
theorem dL_faults_226 : decode cL_faults 226 = .ok (.istore 13, 2) := by decide +kernel
theorem dL_faults_228 : decode cL_faults 228 = .ok (.iload 13, 2) := by decide +kernel
theorem dL_faults_230 : decode cL_faults 230 = .ok (.iconst 1, 1) := by decide +kernel
theorem dL_faults_231 : decode cL_faults 231 = .ok (.iload 4, 2) := by decide +kernel
theorem dL_faults_233 : decode cL_faults 233 = .ok (.ishl, 1) := by decide +kernel
theorem dL_faults_234 : decode cL_faults 234 = .ok (.if_icmp .ge 41, 3) := by decide +kernel
theorem dL_faults_237 : decode cL_faults 237 = .ok (.iload 12, 2) := by decide +kernel
theorem dL_faults_239 : decode cL_faults 239 = .ok (.iload 13, 2) := by decide +kernel
theorem dL_faults_241 : decode cL_faults 241 = .ok (.aload_n 3, 1) := by decide +kernel
theorem dL_faults_242 : decode cL_faults 242 = .ok (.iconst 1, 1) := by decide +kernel
theorem dL_faults_243 : decode cL_faults 243 = .ok (.iaload, 1) := by decide +kernel
theorem dL_faults_244 : decode cL_faults 244 = .ok (.iload 10, 2) := by decide +kernel
theorem dL_faults_246 : decode cL_faults 246 = .ok (.iload 11, 2) := by decide +kernel
theorem dL_faults_248 : decode cL_faults 248 = .ok (.aload_n 2, 1) := by decide +kernel
theorem dL_faults_249 : decode cL_faults 249 = .ok (.invokestatic 41, 3) := by decide +kernel
theorem dL_faults_252 : decode cL_faults 252 = .ok (.iconst 0, 1) := by decide +kernel
theorem dL_faults_253 : decode cL_faults 253 = .ok (.iload 4, 2) := by decide +kernel
theorem dL_faults_255 : decode cL_faults 255 = .ok (.invokestatic 130, 3) := by decide +kernel
theorem dL_faults_258 : decode cL_faults 258 = .ok (.ifCond .eq 7, 3) := by decide +kernel
theorem dL_faults_261 : decode cL_faults 261 = .ok (.iconst 0, 1) := by decide +kernel
theorem dL_faults_262 : decode cL_faults 262 = .ok (.goto 4, 3) := by decide +kernel
theorem dL_faults_265 : decode cL_faults 265 = .ok (.iconst 1, 1) := by decide +kernel
theorem dL_faults_266 : decode cL_faults 266 = .ok (.iadd, 1) := by decide +kernel
theorem dL_faults_267 : decode cL_faults 267 = .ok (.istore 12, 2) := by decide +kernel
theorem dL_faults_269 : decode cL_faults 269 = .ok (.iinc 13 1, 3) := by decide +kernel
theorem dL_faults_272 : decode cL_faults 272 = .ok (.goto (-44), 3) := by decide +kernel
theorem dL_faults_275 : decode cL_faults 275 = .ok (.aload_n 0, 1) := by decide +kernel
theorem dL_faults_276 : decode cL_faults 276 = .ok (.iload 10, 2) := by decide +kernel
theorem dL_faults_278 : decode cL_faults 278 = .ok (.iload 11, 2) := by decide +kernel
theorem dL_faults_280 : decode cL_faults 280 = .ok (.invokevirtual 164, 3) := by decide +kernel
theorem dL_faults_283 : decode cL_faults 283 = .ok (.iload 12, 2) := by decide +kernel
theorem dL_faults_285 : decode cL_faults 285 = .ok (.if_icmp .ne 28, 3) := by decide +kernel
theorem dL_faults_288 : decode cL_faults 288 = .ok (.aload_n 0, 1) := by decide +kernel
theorem dL_faults_289 : decode cL_faults 289 = .ok (.iload 10, 2) := by decide +kernel
theorem dL_faults_291 : decode cL_faults 291 = .ok (.iload 11, 2) := by decide +kernel
theorem dL_faults_293 : decode cL_faults 293 = .ok (.invokevirtual 167, 3) := by decide +kernel
theorem dL_faults_296 : decode cL_faults 296 = .ok (.iload 10, 2) := by decide +kernel
theorem dL_faults_298 : decode cL_faults 298 = .ok (.iload 11, 2) := by decide +kernel
theorem dL_faults_300 : decode cL_faults 300 = .ok (.aload_n 2, 1) := by decide +kernel
theorem dL_faults_301 : decode cL_faults 301 = .ok (.aload_n 3, 1) := by decide +kernel
theorem dL_faults_302 : decode cL_faults 302 = .ok (.invokestatic 142, 3) := by decide +kernel
theorem dL_faults_305 : decode cL_faults 305 = .ok (.lcmp, 1) := by decide +kernel
theorem dL_faults_306 : decode cL_faults 306 = .ok (.ifCond .ne 7, 3) := by decide +kernel
theorem dL_faults_309 : decode cL_faults 309 = .ok (.iconst 1, 1) := by decide +kernel
theorem dL_faults_310 : decode cL_faults 310 = .ok (.goto 4, 3) := by decide +kernel
theorem dL_faults_313 : decode cL_faults 313 = .ok (.iconst 0, 1) := by decide +kernel
theorem dL_faults_314 : decode cL_faults 314 = .ok (.ireturn, 1) := by decide +kernel
theorem dL_rows_0 : decode cL_rows 0 = .ok (.aload 4, 2) := by decide +kernel
theorem dL_rows_2 : decode cL_rows 2 = .ok (.iconst 0, 1) := by decide +kernel
theorem dL_rows_3 : decode cL_rows 3 = .ok (.iaload, 1) := by decide +kernel
theorem dL_rows_4 : decode cL_rows 4 = .ok (.istore 5, 2) := by decide +kernel
theorem dL_rows_6 : decode cL_rows 6 = .ok (.bipush 6, 2) := by decide +kernel
theorem dL_rows_8 : decode cL_rows 8 = .ok (.newarray .int, 2) := by decide +kernel
theorem dL_rows_10 : decode cL_rows 10 = .ok (.astore 6, 2) := by decide +kernel
theorem dL_rows_12 : decode cL_rows 12 = .ok (.bipush 6, 2) := by decide +kernel
theorem dL_rows_14 : decode cL_rows 14 = .ok (.newarray .int, 2) := by decide +kernel
theorem dL_rows_16 : decode cL_rows 16 = .ok (.astore 7, 2) := by decide +kernel
theorem dL_rows_18 : decode cL_rows 18 = .ok (.lconst 0, 1) := by decide +kernel
theorem dL_rows_19 : decode cL_rows 19 = .ok (.lstore 8, 2) := by decide +kernel
theorem dL_rows_21 : decode cL_rows 21 = .ok (.iconst 0, 1) := by decide +kernel
theorem dL_rows_22 : decode cL_rows 22 = .ok (.istore 10, 2) := by decide +kernel
theorem dL_rows_24 : decode cL_rows 24 = .ok (.iconst (-1), 1) := by decide +kernel
theorem dL_rows_25 : decode cL_rows 25 = .ok (.istore 11, 2) := by decide +kernel
theorem dL_rows_27 : decode cL_rows 27 = .ok (.iload_n 1, 1) := by decide +kernel
theorem dL_rows_28 : decode cL_rows 28 = .ok (.iconst 3, 1) := by decide +kernel
theorem dL_rows_29 : decode cL_rows 29 = .ok (.ishr, 1) := by decide +kernel
theorem dL_rows_30 : decode cL_rows 30 = .ok (.bipush 6, 2) := by decide +kernel
theorem dL_rows_32 : decode cL_rows 32 = .ok (.invokestatic 161, 3) := by decide +kernel
theorem dL_rows_35 : decode cL_rows 35 = .ok (.istore 12, 2) := by decide +kernel
theorem dL_rows_37 : decode cL_rows 37 = .ok (.iconst 1, 1) := by decide +kernel
theorem dL_rows_38 : decode cL_rows 38 = .ok (.iload_n 1, 1) := by decide +kernel
theorem dL_rows_39 : decode cL_rows 39 = .ok (.iconst 2, 1) := by decide +kernel
theorem dL_rows_40 : decode cL_rows 40 = .ok (.ishr, 1) := by decide +kernel
theorem dL_rows_41 : decode cL_rows 41 = .ok (.iload 5, 2) := by decide +kernel
theorem dL_rows_43 : decode cL_rows 43 = .ok (.iconst 1, 1) := by decide +kernel
theorem dL_rows_44 : decode cL_rows 44 = .ok (.isub, 1) := by decide +kernel
theorem dL_rows_45 : decode cL_rows 45 = .ok (.invokestatic 161, 3) := by decide +kernel
theorem dL_rows_48 : decode cL_rows 48 = .ok (.iadd, 1) := by decide +kernel
theorem dL_rows_49 : decode cL_rows 49 = .ok (.istore 13, 2) := by decide +kernel
theorem dL_rows_51 : decode cL_rows 51 = .ok (.iconst 1, 1) := by decide +kernel
theorem dL_rows_52 : decode cL_rows 52 = .ok (.istore 14, 2) := by decide +kernel
theorem dL_rows_54 : decode cL_rows 54 = .ok (.iconst 0, 1) := by decide +kernel
theorem dL_rows_55 : decode cL_rows 55 = .ok (.istore 15, 2) := by decide +kernel
theorem dL_rows_57 : decode cL_rows 57 = .ok (.iload 15, 2) := by decide +kernel
theorem dL_rows_59 : decode cL_rows 59 = .ok (.iconst 1, 1) := by decide +kernel
theorem dL_rows_60 : decode cL_rows 60 = .ok (.iload 5, 2) := by decide +kernel
theorem dL_rows_62 : decode cL_rows 62 = .ok (.ishl, 1) := by decide +kernel
theorem dL_rows_63 : decode cL_rows 63 = .ok (.if_icmp .ge 118, 3) := by decide +kernel
theorem dL_rows_66 : decode cL_rows 66 = .ok (.iload 15, 2) := by decide +kernel
theorem dL_rows_68 : decode cL_rows 68 = .ok (.aload 4, 2) := by decide +kernel
theorem dL_rows_70 : decode cL_rows 70 = .ok (.iconst 1, 1) := by decide +kernel
theorem dL_rows_71 : decode cL_rows 71 = .ok (.iaload, 1) := by decide +kernel
theorem dL_rows_72 : decode cL_rows 72 = .ok (.iconst (-1), 1) := by decide +kernel
theorem dL_rows_73 : decode cL_rows 73 = .ok (.iconst 0, 1) := by decide +kernel
theorem dL_rows_74 : decode cL_rows 74 = .ok (.aload_n 3, 1) := by decide +kernel
theorem dL_rows_75 : decode cL_rows 75 = .ok (.invokestatic 41, 3) := by decide +kernel
theorem dL_rows_78 : decode cL_rows 78 = .ok (.istore 16, 2) := by decide +kernel
theorem dL_rows_80 : decode cL_rows 80 = .ok (.lload 8, 2) := by decide +kernel
theorem dL_rows_82 : decode cL_rows 82 = .ok (.lconst 1, 1) := by decide +kernel
theorem dL_rows_83 : decode cL_rows 83 = .ok (.iload 16, 2) := by decide +kernel
theorem dL_rows_85 : decode cL_rows 85 = .ok (.lshl, 1) := by decide +kernel
theorem dL_rows_86 : decode cL_rows 86 = .ok (.lor, 1) := by decide +kernel
theorem dL_rows_87 : decode cL_rows 87 = .ok (.lstore 8, 2) := by decide +kernel
theorem dL_rows_89 : decode cL_rows 89 = .ok (.iload 16, 2) := by decide +kernel
theorem dL_rows_91 : decode cL_rows 91 = .ok (.iconst 0, 1) := by decide +kernel
theorem dL_rows_92 : decode cL_rows 92 = .ok (.iload 5, 2) := by decide +kernel
theorem dL_rows_94 : decode cL_rows 94 = .ok (.invokestatic 130, 3) := by decide +kernel
theorem dL_rows_97 : decode cL_rows 97 = .ok (.istore 17, 2) := by decide +kernel
theorem dL_rows_99 : decode cL_rows 99 = .ok (.iload 17, 2) := by decide +kernel
theorem dL_rows_101 : decode cL_rows 101 = .ok (.ifCond .ne 15, 3) := by decide +kernel
theorem dL_rows_104 : decode cL_rows 104 = .ok (.iload 10, 2) := by decide +kernel
theorem dL_rows_106 : decode cL_rows 106 = .ok (.iload 12, 2) := by decide +kernel
theorem dL_rows_108 : decode cL_rows 108 = .ok (.if_icmp .ne 8, 3) := by decide +kernel
theorem dL_rows_111 : decode cL_rows 111 = .ok (.iload 15, 2) := by decide +kernel
theorem dL_rows_113 : decode cL_rows 113 = .ok (.goto 5, 3) := by decide +kernel
theorem dL_rows_116 : decode cL_rows 116 = .ok (.iload 11, 2) := by decide +kernel
theorem dL_rows_118 : decode cL_rows 118 = .ok (.istore 11, 2) := by decide +kernel
theorem dL_rows_120 : decode cL_rows 120 = .ok (.iload 10, 2) := by decide +kernel
theorem dL_rows_122 : decode cL_rows 122 = .ok (.iload 17, 2) := by decide +kernel
theorem dL_rows_124 : decode cL_rows 124 = .ok (.ifCond .eq 7, 3) := by decide +kernel
theorem dL_rows_127 : decode cL_rows 127 = .ok (.iconst 0, 1) := by decide +kernel
theorem dL_rows_128 : decode cL_rows 128 = .ok (.goto 4, 3) := by decide +kernel
theorem dL_rows_131 : decode cL_rows 131 = .ok (.iconst 1, 1) := by decide +kernel
theorem dL_rows_132 : decode cL_rows 132 = .ok (.iadd, 1) := by decide +kernel
theorem dL_rows_133 : decode cL_rows 133 = .ok (.istore 10, 2) := by decide +kernel
theorem dL_rows_135 : decode cL_rows 135 = .ok (.iload 14, 2) := by decide +kernel
theorem dL_rows_137 : decode cL_rows 137 = .ok (.ifCond .eq 35, 3) := by decide +kernel
theorem dL_rows_140 : decode cL_rows 140 = .ok (.iload 17, 2) := by decide +kernel
theorem dL_rows_142 : decode cL_rows 142 = .ok (.ifCond .ne 26, 3) := by decide +kernel
theorem dL_rows_145 : decode cL_rows 145 = .ok (.iload 15, 2) := by decide +kernel
theorem dL_rows_147 : decode cL_rows 147 = .ok (.iconst 0, 1) := by decide +kernel
theorem dL_rows_148 : decode cL_rows 148 = .ok (.iload 13, 2) := by decide +kernel
theorem dL_rows_150 : decode cL_rows 150 = .ok (.invokestatic 130, 3) := by decide +kernel
theorem dL_rows_153 : decode cL_rows 153 = .ok (.ifCond .eq 15, 3) := by decide +kernel
theorem dL_rows_156 : decode cL_rows 156 = .ok (.iload 15, 2) := by decide +kernel
theorem dL_rows_158 : decode cL_rows 158 = .ok (.iload 13, 2) := by decide +kernel
theorem dL_rows_160 : decode cL_rows 160 = .ok (.iload 5, 2) := by decide +kernel
theorem dL_rows_162 : decode cL_rows 162 = .ok (.invokestatic 130, 3) := by decide +kernel
theorem dL_rows_165 : decode cL_rows 165 = .ok (.ifCond .ne 7, 3) := by decide +kernel
theorem dL_rows_168 : decode cL_rows 168 = .ok (.iconst 1, 1) := by decide +kernel
theorem dL_rows_169 : decode cL_rows 169 = .ok (.goto 4, 3) := by decide +kernel
theorem dL_rows_172 : decode cL_rows 172 = .ok (.iconst 0, 1) := by decide +kernel
theorem dL_rows_173 : decode cL_rows 173 = .ok (.istore 14, 2) := by decide +kernel
theorem dL_rows_175 : decode cL_rows 175 = .ok (.iinc 15 1, 3) := by decide +kernel
theorem dL_rows_178 : decode cL_rows 178 = .ok (.goto (-121), 3) := by decide +kernel
theorem dL_rows_181 : decode cL_rows 181 = .ok (.iconst 0, 1) := by decide +kernel
theorem dL_rows_182 : decode cL_rows 182 = .ok (.istore 15, 2) := by decide +kernel
theorem dL_rows_184 : decode cL_rows 184 = .ok (.iconst 0, 1) := by decide +kernel
theorem dL_rows_185 : decode cL_rows 185 = .ok (.istore 16, 2) := by decide +kernel
theorem dL_rows_187 : decode cL_rows 187 = .ok (.iconst 1, 1) := by decide +kernel
theorem dL_rows_188 : decode cL_rows 188 = .ok (.istore 17, 2) := by decide +kernel
theorem dL_rows_190 : decode cL_rows 190 = .ok (.iconst 0, 1) := by decide +kernel
theorem dL_rows_191 : decode cL_rows 191 = .ok (.istore 18, 2) := by decide +kernel
theorem dL_rows_193 : decode cL_rows 193 = .ok (.iload 18, 2) := by decide +kernel
theorem dL_rows_195 : decode cL_rows 195 = .ok (.iload 5, 2) := by decide +kernel
theorem dL_rows_197 : decode cL_rows 197 = .ok (.if_icmp .ge 16, 3) := by decide +kernel
theorem dL_rows_200 : decode cL_rows 200 = .ok (.aload 6, 2) := by decide +kernel
theorem dL_rows_202 : decode cL_rows 202 = .ok (.iload 18, 2) := by decide +kernel
theorem dL_rows_204 : decode cL_rows 204 = .ok (.iload 18, 2) := by decide +kernel
theorem dL_rows_206 : decode cL_rows 206 = .ok (.iastore, 1) := by decide +kernel
theorem dL_rows_207 : decode cL_rows 207 = .ok (.iinc 18 1, 3) := by decide +kernel
theorem dL_rows_210 : decode cL_rows 210 = .ok (.goto (-17), 3) := by decide +kernel
theorem dL_rows_213 : decode cL_rows 213 = .ok (.iconst 1, 1) := by decide +kernel
theorem dL_rows_214 : decode cL_rows 214 = .ok (.istore 18, 2) := by decide +kernel
theorem dL_rows_216 : decode cL_rows 216 = .ok (.iload 18, 2) := by decide +kernel
theorem dL_rows_218 : decode cL_rows 218 = .ok (.ifCond .eq 152, 3) := by decide +kernel
theorem dL_rows_221 : decode cL_rows 221 = .ok (.aload 6, 2) := by decide +kernel
theorem dL_rows_223 : decode cL_rows 223 = .ok (.aload 7, 2) := by decide +kernel
theorem dL_rows_225 : decode cL_rows 225 = .ok (.iload 5, 2) := by decide +kernel
theorem dL_rows_227 : decode cL_rows 227 = .ok (.aload_n 3, 1) := by decide +kernel
theorem dL_rows_228 : decode cL_rows 228 = .ok (.aload 4, 2) := by decide +kernel
theorem dL_rows_230 : decode cL_rows 230 = .ok (.invokestatic 171, 3) := by decide +kernel
theorem dL_rows_233 : decode cL_rows 233 = .ok (.iload 15, 2) := by decide +kernel
theorem dL_rows_235 : decode cL_rows 235 = .ok (.aload 7, 2) := by decide +kernel
theorem dL_rows_237 : decode cL_rows 237 = .ok (.iload 5, 2) := by decide +kernel
theorem dL_rows_239 : decode cL_rows 239 = .ok (.invokestatic 99, 3) := by decide +kernel
theorem dL_rows_242 : decode cL_rows 242 = .ok (.ifCond .ne 7, 3) := by decide +kernel
theorem dL_rows_245 : decode cL_rows 245 = .ok (.iconst 1, 1) := by decide +kernel
theorem dL_rows_246 : decode cL_rows 246 = .ok (.goto 4, 3) := by decide +kernel
theorem dL_rows_249 : decode cL_rows 249 = .ok (.iconst 0, 1) := by decide +kernel
theorem dL_rows_250 : decode cL_rows 250 = .ok (.iadd, 1) := by decide +kernel
theorem dL_rows_251 : decode cL_rows 251 = .ok (.istore 15, 2) := by decide +kernel
theorem dL_rows_253 : decode cL_rows 253 = .ok (.iconst 0, 1) := by decide +kernel
theorem dL_rows_254 : decode cL_rows 254 = .ok (.istore 19, 2) := by decide +kernel
theorem dL_rows_256 : decode cL_rows 256 = .ok (.iload 19, 2) := by decide +kernel
theorem dL_rows_258 : decode cL_rows 258 = .ok (.iload 5, 2) := by decide +kernel
theorem dL_rows_260 : decode cL_rows 260 = .ok (.if_icmp .ge 98, 3) := by decide +kernel
theorem dL_rows_263 : decode cL_rows 263 = .ok (.aload 7, 2) := by decide +kernel
theorem dL_rows_265 : decode cL_rows 265 = .ok (.iload 19, 2) := by decide +kernel
theorem dL_rows_267 : decode cL_rows 267 = .ok (.iaload, 1) := by decide +kernel
theorem dL_rows_268 : decode cL_rows 268 = .ok (.iload 19, 2) := by decide +kernel
theorem dL_rows_270 : decode cL_rows 270 = .ok (.if_icmp .le 14, 3) := by decide +kernel
theorem dL_rows_273 : decode cL_rows 273 = .ok (.aload 7, 2) := by decide +kernel
theorem dL_rows_275 : decode cL_rows 275 = .ok (.iload 19, 2) := by decide +kernel
theorem dL_rows_277 : decode cL_rows 277 = .ok (.iaload, 1) := by decide +kernel
theorem dL_rows_278 : decode cL_rows 278 = .ok (.iload 19, 2) := by decide +kernel
theorem dL_rows_280 : decode cL_rows 280 = .ok (.isub, 1) := by decide +kernel
theorem dL_rows_281 : decode cL_rows 281 = .ok (.goto 11, 3) := by decide +kernel
theorem dL_rows_284 : decode cL_rows 284 = .ok (.iload 19, 2) := by decide +kernel
theorem dL_rows_286 : decode cL_rows 286 = .ok (.aload 7, 2) := by decide +kernel
theorem dL_rows_288 : decode cL_rows 288 = .ok (.iload 19, 2) := by decide +kernel
theorem dL_rows_290 : decode cL_rows 290 = .ok (.iaload, 1) := by decide +kernel
theorem dL_rows_291 : decode cL_rows 291 = .ok (.isub, 1) := by decide +kernel
theorem dL_rows_292 : decode cL_rows 292 = .ok (.istore 20, 2) := by decide +kernel
theorem dL_rows_294 : decode cL_rows 294 = .ok (.iload 20, 2) := by decide +kernel
theorem dL_rows_296 : decode cL_rows 296 = .ok (.iload 16, 2) := by decide +kernel
theorem dL_rows_298 : decode cL_rows 298 = .ok (.if_icmp .le 8, 3) := by decide +kernel
theorem dL_rows_301 : decode cL_rows 301 = .ok (.iload 20, 2) := by decide +kernel
theorem dL_rows_303 : decode cL_rows 303 = .ok (.goto 5, 3) := by decide +kernel
theorem dL_rows_306 : decode cL_rows 306 = .ok (.iload 16, 2) := by decide +kernel
theorem dL_rows_308 : decode cL_rows 308 = .ok (.istore 16, 2) := by decide +kernel
theorem dL_rows_310 : decode cL_rows 310 = .ok (.iload 17, 2) := by decide +kernel
theorem dL_rows_312 : decode cL_rows 312 = .ok (.ifCond .eq 37, 3) := by decide +kernel
theorem dL_rows_315 : decode cL_rows 315 = .ok (.aload 7, 2) := by decide +kernel
theorem dL_rows_317 : decode cL_rows 317 = .ok (.iload 19, 2) := by decide +kernel
theorem dL_rows_319 : decode cL_rows 319 = .ok (.iaload, 1) := by decide +kernel
theorem dL_rows_320 : decode cL_rows 320 = .ok (.iload 13, 2) := by decide +kernel
theorem dL_rows_322 : decode cL_rows 322 = .ok (.if_icmp .ge 7, 3) := by decide +kernel
theorem dL_rows_325 : decode cL_rows 325 = .ok (.iconst 1, 1) := by decide +kernel
theorem dL_rows_326 : decode cL_rows 326 = .ok (.goto 4, 3) := by decide +kernel
theorem dL_rows_329 : decode cL_rows 329 = .ok (.iconst 0, 1) := by decide +kernel
theorem dL_rows_330 : decode cL_rows 330 = .ok (.iload 19, 2) := by decide +kernel
theorem dL_rows_332 : decode cL_rows 332 = .ok (.iload 13, 2) := by decide +kernel
theorem dL_rows_334 : decode cL_rows 334 = .ok (.if_icmp .ge 7, 3) := by decide +kernel
theorem dL_rows_337 : decode cL_rows 337 = .ok (.iconst 1, 1) := by decide +kernel
theorem dL_rows_338 : decode cL_rows 338 = .ok (.goto 4, 3) := by decide +kernel
theorem dL_rows_341 : decode cL_rows 341 = .ok (.iconst 0, 1) := by decide +kernel
theorem dL_rows_342 : decode cL_rows 342 = .ok (.if_icmp .ne 7, 3) := by decide +kernel
theorem dL_rows_345 : decode cL_rows 345 = .ok (.iconst 1, 1) := by decide +kernel
theorem dL_rows_346 : decode cL_rows 346 = .ok (.goto 4, 3) := by decide +kernel
theorem dL_rows_349 : decode cL_rows 349 = .ok (.iconst 0, 1) := by decide +kernel
theorem dL_rows_350 : decode cL_rows 350 = .ok (.istore 17, 2) := by decide +kernel
theorem dL_rows_352 : decode cL_rows 352 = .ok (.iinc 19 1, 3) := by decide +kernel
theorem dL_rows_355 : decode cL_rows 355 = .ok (.goto (-99), 3) := by decide +kernel
theorem dL_rows_358 : decode cL_rows 358 = .ok (.aload 6, 2) := by decide +kernel
theorem dL_rows_360 : decode cL_rows 360 = .ok (.iload 5, 2) := by decide +kernel
theorem dL_rows_362 : decode cL_rows 362 = .ok (.invokestatic 72, 3) := by decide +kernel
theorem dL_rows_365 : decode cL_rows 365 = .ok (.istore 18, 2) := by decide +kernel
theorem dL_rows_367 : decode cL_rows 367 = .ok (.goto (-151), 3) := by decide +kernel
theorem dL_rows_370 : decode cL_rows 370 = .ok (.aload_n 2, 1) := by decide +kernel
theorem dL_rows_371 : decode cL_rows 371 = .ok (.aload 7, 2) := by decide +kernel
theorem dL_rows_373 : decode cL_rows 373 = .ok (.iload 5, 2) := by decide +kernel
theorem dL_rows_375 : decode cL_rows 375 = .ok (.aload_n 3, 1) := by decide +kernel
theorem dL_rows_376 : decode cL_rows 376 = .ok (.aload 4, 2) := by decide +kernel
theorem dL_rows_378 : decode cL_rows 378 = .ok (.invokestatic 171, 3) := by decide +kernel
theorem dL_rows_381 : decode cL_rows 381 = .ok (.aload_n 0, 1) := by decide +kernel
theorem dL_rows_382 : decode cL_rows 382 = .ok (.aload_n 2, 1) := by decide +kernel
theorem dL_rows_383 : decode cL_rows 383 = .ok (.iload 5, 2) := by decide +kernel
theorem dL_rows_385 : decode cL_rows 385 = .ok (.invokestatic 80, 3) := by decide +kernel
theorem dL_rows_388 : decode cL_rows 388 = .ok (.invokevirtual 34, 3) := by decide +kernel
theorem dL_rows_391 : decode cL_rows 391 = .ok (.aload 7, 2) := by decide +kernel
theorem dL_rows_393 : decode cL_rows 393 = .ok (.iload 5, 2) := by decide +kernel
theorem dL_rows_395 : decode cL_rows 395 = .ok (.invokestatic 80, 3) := by decide +kernel
theorem dL_rows_398 : decode cL_rows 398 = .ok (.if_icmp .ne 85, 3) := by decide +kernel
theorem dL_rows_401 : decode cL_rows 401 = .ok (.aload_n 0, 1) := by decide +kernel
theorem dL_rows_402 : decode cL_rows 402 = .ok (.invokevirtual 175, 3) := by decide +kernel
theorem dL_rows_405 : decode cL_rows 405 = .ok (.lload 8, 2) := by decide +kernel
theorem dL_rows_407 : decode cL_rows 407 = .ok (.lcmp, 1) := by decide +kernel
theorem dL_rows_408 : decode cL_rows 408 = .ok (.ifCond .ne 75, 3) := by decide +kernel
theorem dL_rows_411 : decode cL_rows 411 = .ok (.aload_n 0, 1) := by decide +kernel
theorem dL_rows_412 : decode cL_rows 412 = .ok (.invokevirtual 179, 3) := by decide +kernel
theorem dL_rows_415 : decode cL_rows 415 = .ok (.iload 10, 2) := by decide +kernel
theorem dL_rows_417 : decode cL_rows 417 = .ok (.ifCond .ne 7, 3) := by decide +kernel
theorem dL_rows_420 : decode cL_rows 420 = .ok (.iconst 1, 1) := by decide +kernel
theorem dL_rows_421 : decode cL_rows 421 = .ok (.goto 4, 3) := by decide +kernel
theorem dL_rows_424 : decode cL_rows 424 = .ok (.iconst 0, 1) := by decide +kernel
theorem dL_rows_425 : decode cL_rows 425 = .ok (.if_icmp .ne 58, 3) := by decide +kernel
theorem dL_rows_428 : decode cL_rows 428 = .ok (.aload_n 0, 1) := by decide +kernel
theorem dL_rows_429 : decode cL_rows 429 = .ok (.iload 12, 2) := by decide +kernel
theorem dL_rows_431 : decode cL_rows 431 = .ok (.invokevirtual 182, 3) := by decide +kernel
theorem dL_rows_434 : decode cL_rows 434 = .ok (.iload 11, 2) := by decide +kernel
theorem dL_rows_436 : decode cL_rows 436 = .ok (.if_icmp .ne 47, 3) := by decide +kernel
theorem dL_rows_439 : decode cL_rows 439 = .ok (.aload_n 0, 1) := by decide +kernel
theorem dL_rows_440 : decode cL_rows 440 = .ok (.iload 13, 2) := by decide +kernel
theorem dL_rows_442 : decode cL_rows 442 = .ok (.invokevirtual 185, 3) := by decide +kernel
theorem dL_rows_445 : decode cL_rows 445 = .ok (.iload 14, 2) := by decide +kernel
theorem dL_rows_447 : decode cL_rows 447 = .ok (.if_icmp .ne 36, 3) := by decide +kernel
theorem dL_rows_450 : decode cL_rows 450 = .ok (.aload_n 0, 1) := by decide +kernel
theorem dL_rows_451 : decode cL_rows 451 = .ok (.invokevirtual 189, 3) := by decide +kernel
theorem dL_rows_454 : decode cL_rows 454 = .ok (.iload 15, 2) := by decide +kernel
theorem dL_rows_456 : decode cL_rows 456 = .ok (.if_icmp .ne 27, 3) := by decide +kernel
theorem dL_rows_459 : decode cL_rows 459 = .ok (.aload_n 0, 1) := by decide +kernel
theorem dL_rows_460 : decode cL_rows 460 = .ok (.invokevirtual 192, 3) := by decide +kernel
theorem dL_rows_463 : decode cL_rows 463 = .ok (.iload 16, 2) := by decide +kernel
theorem dL_rows_465 : decode cL_rows 465 = .ok (.if_icmp .ne 18, 3) := by decide +kernel
theorem dL_rows_468 : decode cL_rows 468 = .ok (.aload_n 0, 1) := by decide +kernel
theorem dL_rows_469 : decode cL_rows 469 = .ok (.iload 13, 2) := by decide +kernel
theorem dL_rows_471 : decode cL_rows 471 = .ok (.invokevirtual 195, 3) := by decide +kernel
theorem dL_rows_474 : decode cL_rows 474 = .ok (.iload 17, 2) := by decide +kernel
theorem dL_rows_476 : decode cL_rows 476 = .ok (.if_icmp .ne 7, 3) := by decide +kernel
theorem dL_rows_479 : decode cL_rows 479 = .ok (.iconst 1, 1) := by decide +kernel
theorem dL_rows_480 : decode cL_rows 480 = .ok (.goto 4, 3) := by decide +kernel
theorem dL_rows_483 : decode cL_rows 483 = .ok (.iconst 0, 1) := by decide +kernel
theorem dL_rows_484 : decode cL_rows 484 = .ok (.ireturn, 1) := by decide +kernel
theorem dL_same_0 : decode cL_same 0 = .ok (.aload 6, 2) := by decide +kernel
theorem dL_same_2 : decode cL_same 2 = .ok (.iconst 0, 1) := by decide +kernel
theorem dL_same_3 : decode cL_same 3 = .ok (.iaload, 1) := by decide +kernel
theorem dL_same_4 : decode cL_same 4 = .ok (.istore 7, 2) := by decide +kernel
theorem dL_same_6 : decode cL_same 6 = .ok (.bipush 24, 2) := by decide +kernel
theorem dL_same_8 : decode cL_same 8 = .ok (.newarray .int, 2) := by decide +kernel
theorem dL_same_10 : decode cL_same 10 = .ok (.astore 8, 2) := by decide +kernel
theorem dL_same_12 : decode cL_same 12 = .ok (.bipush 6, 2) := by decide +kernel
theorem dL_same_14 : decode cL_same 14 = .ok (.newarray .int, 2) := by decide +kernel
theorem dL_same_16 : decode cL_same 16 = .ok (.astore 9, 2) := by decide +kernel
theorem dL_same_18 : decode cL_same 18 = .ok (.bipush 6, 2) := by decide +kernel
theorem dL_same_20 : decode cL_same 20 = .ok (.newarray .int, 2) := by decide +kernel
theorem dL_same_22 : decode cL_same 22 = .ok (.astore 10, 2) := by decide +kernel
theorem dL_same_24 : decode cL_same 24 = .ok (.aload 8, 2) := by decide +kernel
theorem dL_same_26 : decode cL_same 26 = .ok (.aload_n 2, 1) := by decide +kernel
theorem dL_same_27 : decode cL_same 27 = .ok (.aload 6, 2) := by decide +kernel
theorem dL_same_29 : decode cL_same 29 = .ok (.invokestatic 64, 3) := by decide +kernel
theorem dL_same_32 : decode cL_same 32 = .ok (.istore 11, 2) := by decide +kernel
theorem dL_same_34 : decode cL_same 34 = .ok (.iconst 0, 1) := by decide +kernel
theorem dL_same_35 : decode cL_same 35 = .ok (.istore 12, 2) := by decide +kernel
theorem dL_same_37 : decode cL_same 37 = .ok (.iconst 0, 1) := by decide +kernel
theorem dL_same_38 : decode cL_same 38 = .ok (.istore 13, 2) := by decide +kernel
theorem dL_same_40 : decode cL_same 40 = .ok (.iconst 0, 1) := by decide +kernel
theorem dL_same_41 : decode cL_same 41 = .ok (.istore 14, 2) := by decide +kernel
theorem dL_same_43 : decode cL_same 43 = .ok (.iload 14, 2) := by decide +kernel
theorem dL_same_45 : decode cL_same 45 = .ok (.aload 6, 2) := by decide +kernel
theorem dL_same_47 : decode cL_same 47 = .ok (.iconst 1, 1) := by decide +kernel
theorem dL_same_48 : decode cL_same 48 = .ok (.iaload, 1) := by decide +kernel
theorem dL_same_49 : decode cL_same 49 = .ok (.if_icmp .ge 57, 3) := by decide +kernel
theorem dL_same_52 : decode cL_same 52 = .ok (.iload 12, 2) := by decide +kernel
theorem dL_same_54 : decode cL_same 54 = .ok (.iload 14, 2) := by decide +kernel
theorem dL_same_56 : decode cL_same 56 = .ok (.aload_n 2, 1) := by decide +kernel
theorem dL_same_57 : decode cL_same 57 = .ok (.aload 6, 2) := by decide +kernel
theorem dL_same_59 : decode cL_same 59 = .ok (.invokestatic 198, 3) := by decide +kernel
theorem dL_same_62 : decode cL_same 62 = .ok (.ifCond .ne 7, 3) := by decide +kernel
theorem dL_same_65 : decode cL_same 65 = .ok (.iconst 1, 1) := by decide +kernel
theorem dL_same_66 : decode cL_same 66 = .ok (.goto 4, 3) := by decide +kernel
theorem dL_same_69 : decode cL_same 69 = .ok (.iconst 0, 1) := by decide +kernel
theorem dL_same_70 : decode cL_same 70 = .ok (.iadd, 1) := by decide +kernel
theorem dL_same_71 : decode cL_same 71 = .ok (.istore 12, 2) := by decide +kernel
theorem dL_same_73 : decode cL_same 73 = .ok (.iload 13, 2) := by decide +kernel
theorem dL_same_75 : decode cL_same 75 = .ok (.aload_n 2, 1) := by decide +kernel
theorem dL_same_76 : decode cL_same 76 = .ok (.iload 14, 2) := by decide +kernel
theorem dL_same_78 : decode cL_same 78 = .ok (.iaload, 1) := by decide +kernel
theorem dL_same_79 : decode cL_same 79 = .ok (.bipush 8, 2) := by decide +kernel
theorem dL_same_81 : decode cL_same 81 = .ok (.irem, 1) := by decide +kernel
theorem dL_same_82 : decode cL_same 82 = .ok (.aload_n 2, 1) := by decide +kernel
theorem dL_same_83 : decode cL_same 83 = .ok (.iload 14, 2) := by decide +kernel
theorem dL_same_85 : decode cL_same 85 = .ok (.iaload, 1) := by decide +kernel
theorem dL_same_86 : decode cL_same 86 = .ok (.bipush 8, 2) := by decide +kernel
theorem dL_same_88 : decode cL_same 88 = .ok (.idiv, 1) := by decide +kernel
theorem dL_same_89 : decode cL_same 89 = .ok (.if_icmp .le 7, 3) := by decide +kernel
theorem dL_same_92 : decode cL_same 92 = .ok (.iconst 1, 1) := by decide +kernel
theorem dL_same_93 : decode cL_same 93 = .ok (.goto 4, 3) := by decide +kernel
theorem dL_same_96 : decode cL_same 96 = .ok (.iconst 0, 1) := by decide +kernel
theorem dL_same_97 : decode cL_same 97 = .ok (.iadd, 1) := by decide +kernel
theorem dL_same_98 : decode cL_same 98 = .ok (.istore 13, 2) := by decide +kernel
theorem dL_same_100 : decode cL_same 100 = .ok (.iinc 14 1, 3) := by decide +kernel
theorem dL_same_103 : decode cL_same 103 = .ok (.goto (-60), 3) := by decide +kernel
theorem dL_same_106 : decode cL_same 106 = .ok (.iload_n 1, 1) := by decide +kernel
theorem dL_same_107 : decode cL_same 107 = .ok (.iconst 4, 1) := by decide +kernel
theorem dL_same_108 : decode cL_same 108 = .ok (.ishr, 1) := by decide +kernel
theorem dL_same_109 : decode cL_same 109 = .ok (.iconst 4, 1) := by decide +kernel
theorem dL_same_110 : decode cL_same 110 = .ok (.aload 6, 2) := by decide +kernel
theorem dL_same_112 : decode cL_same 112 = .ok (.iconst 1, 1) := by decide +kernel
theorem dL_same_113 : decode cL_same 113 = .ok (.iaload, 1) := by decide +kernel
theorem dL_same_114 : decode cL_same 114 = .ok (.imul, 1) := by decide +kernel
theorem dL_same_115 : decode cL_same 115 = .ok (.iconst 2, 1) := by decide +kernel
theorem dL_same_116 : decode cL_same 116 = .ok (.iadd, 1) := by decide +kernel
theorem dL_same_117 : decode cL_same 117 = .ok (.invokestatic 161, 3) := by decide +kernel
theorem dL_same_120 : decode cL_same 120 = .ok (.istore 14, 2) := by decide +kernel
theorem dL_same_122 : decode cL_same 122 = .ok (.aload_n 0, 1) := by decide +kernel
theorem dL_same_123 : decode cL_same 123 = .ok (.iconst 0, 1) := by decide +kernel
theorem dL_same_124 : decode cL_same 124 = .ok (.invokevirtual 202, 3) := by decide +kernel
theorem dL_same_127 : decode cL_same 127 = .ok (.iload 7, 2) := by decide +kernel
theorem dL_same_129 : decode cL_same 129 = .ok (.if_icmp .ne 106, 3) := by decide +kernel
theorem dL_same_132 : decode cL_same 132 = .ok (.aload_n 0, 1) := by decide +kernel
theorem dL_same_133 : decode cL_same 133 = .ok (.iconst 1, 1) := by decide +kernel
theorem dL_same_134 : decode cL_same 134 = .ok (.invokevirtual 202, 3) := by decide +kernel
theorem dL_same_137 : decode cL_same 137 = .ok (.aload 6, 2) := by decide +kernel
theorem dL_same_139 : decode cL_same 139 = .ok (.iconst 1, 1) := by decide +kernel
theorem dL_same_140 : decode cL_same 140 = .ok (.iaload, 1) := by decide +kernel
theorem dL_same_141 : decode cL_same 141 = .ok (.if_icmp .ne 94, 3) := by decide +kernel
theorem dL_same_144 : decode cL_same 144 = .ok (.aload_n 0, 1) := by decide +kernel
theorem dL_same_145 : decode cL_same 145 = .ok (.iconst 2, 1) := by decide +kernel
theorem dL_same_146 : decode cL_same 146 = .ok (.invokevirtual 202, 3) := by decide +kernel
theorem dL_same_149 : decode cL_same 149 = .ok (.iload 11, 2) := by decide +kernel
theorem dL_same_151 : decode cL_same 151 = .ok (.if_icmp .ne 84, 3) := by decide +kernel
theorem dL_same_154 : decode cL_same 154 = .ok (.aload_n 0, 1) := by decide +kernel
theorem dL_same_155 : decode cL_same 155 = .ok (.iconst 3, 1) := by decide +kernel
theorem dL_same_156 : decode cL_same 156 = .ok (.invokevirtual 202, 3) := by decide +kernel
theorem dL_same_159 : decode cL_same 159 = .ok (.iload 12, 2) := by decide +kernel
theorem dL_same_161 : decode cL_same 161 = .ok (.if_icmp .ne 74, 3) := by decide +kernel
theorem dL_same_164 : decode cL_same 164 = .ok (.aload_n 0, 1) := by decide +kernel
theorem dL_same_165 : decode cL_same 165 = .ok (.iconst 4, 1) := by decide +kernel
theorem dL_same_166 : decode cL_same 166 = .ok (.invokevirtual 202, 3) := by decide +kernel
theorem dL_same_169 : decode cL_same 169 = .ok (.iload 13, 2) := by decide +kernel
theorem dL_same_171 : decode cL_same 171 = .ok (.if_icmp .ne 64, 3) := by decide +kernel
theorem dL_same_174 : decode cL_same 174 = .ok (.aload_n 0, 1) := by decide +kernel
theorem dL_same_175 : decode cL_same 175 = .ok (.iconst 5, 1) := by decide +kernel
theorem dL_same_176 : decode cL_same 176 = .ok (.invokevirtual 202, 3) := by decide +kernel
theorem dL_same_179 : decode cL_same 179 = .ok (.aload 6, 2) := by decide +kernel
theorem dL_same_181 : decode cL_same 181 = .ok (.iconst 1, 1) := by decide +kernel
theorem dL_same_182 : decode cL_same 182 = .ok (.iaload, 1) := by decide +kernel
theorem dL_same_183 : decode cL_same 183 = .ok (.ifCond .ne 7, 3) := by decide +kernel
theorem dL_same_186 : decode cL_same 186 = .ok (.iconst 0, 1) := by decide +kernel
theorem dL_same_187 : decode cL_same 187 = .ok (.goto 11, 3) := by decide +kernel
theorem dL_same_190 : decode cL_same 190 = .ok (.iconst 4, 1) := by decide +kernel
theorem dL_same_191 : decode cL_same 191 = .ok (.aload 6, 2) := by decide +kernel
theorem dL_same_193 : decode cL_same 193 = .ok (.iconst 1, 1) := by decide +kernel
theorem dL_same_194 : decode cL_same 194 = .ok (.iaload, 1) := by decide +kernel
theorem dL_same_195 : decode cL_same 195 = .ok (.imul, 1) := by decide +kernel
theorem dL_same_196 : decode cL_same 196 = .ok (.iconst 1, 1) := by decide +kernel
theorem dL_same_197 : decode cL_same 197 = .ok (.isub, 1) := by decide +kernel
theorem dL_same_198 : decode cL_same 198 = .ok (.if_icmp .ne 37, 3) := by decide +kernel
theorem dL_same_201 : decode cL_same 201 = .ok (.aload_n 0, 1) := by decide +kernel
theorem dL_same_202 : decode cL_same 202 = .ok (.iload 14, 2) := by decide +kernel
theorem dL_same_204 : decode cL_same 204 = .ok (.invokevirtual 205, 3) := by decide +kernel
theorem dL_same_207 : decode cL_same 207 = .ok (.iload 14, 2) := by decide +kernel
theorem dL_same_209 : decode cL_same 209 = .ok (.aload_n 2, 1) := by decide +kernel
theorem dL_same_210 : decode cL_same 210 = .ok (.aload 6, 2) := by decide +kernel
theorem dL_same_212 : decode cL_same 212 = .ok (.invokestatic 209, 3) := by decide +kernel
theorem dL_same_215 : decode cL_same 215 = .ok (.if_icmp .ne 20, 3) := by decide +kernel
theorem dL_same_218 : decode cL_same 218 = .ok (.aload_n 0, 1) := by decide +kernel
theorem dL_same_219 : decode cL_same 219 = .ok (.invokevirtual 213, 3) := by decide +kernel
theorem dL_same_222 : decode cL_same 222 = .ok (.aload_n 3, 1) := by decide +kernel
theorem dL_same_223 : decode cL_same 223 = .ok (.aload 6, 2) := by decide +kernel
theorem dL_same_225 : decode cL_same 225 = .ok (.invokestatic 216, 3) := by decide +kernel
theorem dL_same_228 : decode cL_same 228 = .ok (.if_icmp .ne 7, 3) := by decide +kernel
theorem dL_same_231 : decode cL_same 231 = .ok (.iconst 1, 1) := by decide +kernel
theorem dL_same_232 : decode cL_same 232 = .ok (.goto 4, 3) := by decide +kernel
theorem dL_same_235 : decode cL_same 235 = .ok (.iconst 0, 1) := by decide +kernel
theorem dL_same_236 : decode cL_same 236 = .ok (.istore 15, 2) := by decide +kernel
theorem dL_same_238 : decode cL_same 238 = .ok (.aload 6, 2) := by decide +kernel
theorem dL_same_240 : decode cL_same 240 = .ok (.iconst 1, 1) := by decide +kernel
theorem dL_same_241 : decode cL_same 241 = .ok (.iaload, 1) := by decide +kernel
theorem dL_same_242 : decode cL_same 242 = .ok (.ifCond .le 92, 3) := by decide +kernel
theorem dL_same_245 : decode cL_same 245 = .ok (.iload 15, 2) := by decide +kernel
theorem dL_same_247 : decode cL_same 247 = .ok (.ifCond .eq 87, 3) := by decide +kernel
theorem dL_same_250 : decode cL_same 250 = .ok (.iload_n 1, 1) := by decide +kernel
theorem dL_same_251 : decode cL_same 251 = .ok (.aload 6, 2) := by decide +kernel
theorem dL_same_253 : decode cL_same 253 = .ok (.iconst 1, 1) := by decide +kernel
theorem dL_same_254 : decode cL_same 254 = .ok (.iaload, 1) := by decide +kernel
theorem dL_same_255 : decode cL_same 255 = .ok (.invokestatic 161, 3) := by decide +kernel
theorem dL_same_258 : decode cL_same 258 = .ok (.istore 16, 2) := by decide +kernel
theorem dL_same_260 : decode cL_same 260 = .ok (.aload_n 0, 1) := by decide +kernel
theorem dL_same_261 : decode cL_same 261 = .ok (.iload 16, 2) := by decide +kernel
theorem dL_same_263 : decode cL_same 263 = .ok (.iconst 0, 1) := by decide +kernel
theorem dL_same_264 : decode cL_same 264 = .ok (.invokevirtual 218, 3) := by decide +kernel
theorem dL_same_267 : decode cL_same 267 = .ok (.aload_n 2, 1) := by decide +kernel
theorem dL_same_268 : decode cL_same 268 = .ok (.iload 16, 2) := by decide +kernel
theorem dL_same_270 : decode cL_same 270 = .ok (.iaload, 1) := by decide +kernel
theorem dL_same_271 : decode cL_same 271 = .ok (.bipush 8, 2) := by decide +kernel
theorem dL_same_273 : decode cL_same 273 = .ok (.irem, 1) := by decide +kernel
theorem dL_same_274 : decode cL_same 274 = .ok (.if_icmp .ne 57, 3) := by decide +kernel
theorem dL_same_277 : decode cL_same 277 = .ok (.aload_n 0, 1) := by decide +kernel
theorem dL_same_278 : decode cL_same 278 = .ok (.iload 16, 2) := by decide +kernel
theorem dL_same_280 : decode cL_same 280 = .ok (.iconst 1, 1) := by decide +kernel
theorem dL_same_281 : decode cL_same 281 = .ok (.invokevirtual 218, 3) := by decide +kernel
theorem dL_same_284 : decode cL_same 284 = .ok (.aload_n 2, 1) := by decide +kernel
theorem dL_same_285 : decode cL_same 285 = .ok (.iload 16, 2) := by decide +kernel
theorem dL_same_287 : decode cL_same 287 = .ok (.iaload, 1) := by decide +kernel
theorem dL_same_288 : decode cL_same 288 = .ok (.bipush 8, 2) := by decide +kernel
theorem dL_same_290 : decode cL_same 290 = .ok (.idiv, 1) := by decide +kernel
theorem dL_same_291 : decode cL_same 291 = .ok (.if_icmp .ne 40, 3) := by decide +kernel
theorem dL_same_294 : decode cL_same 294 = .ok (.aload_n 0, 1) := by decide +kernel
theorem dL_same_295 : decode cL_same 295 = .ok (.iload 16, 2) := by decide +kernel
theorem dL_same_297 : decode cL_same 297 = .ok (.iconst 2, 1) := by decide +kernel
theorem dL_same_298 : decode cL_same 298 = .ok (.invokevirtual 218, 3) := by decide +kernel
theorem dL_same_301 : decode cL_same 301 = .ok (.aload 8, 2) := by decide +kernel
theorem dL_same_303 : decode cL_same 303 = .ok (.iload 16, 2) := by decide +kernel
theorem dL_same_305 : decode cL_same 305 = .ok (.iaload, 1) := by decide +kernel
theorem dL_same_306 : decode cL_same 306 = .ok (.if_icmp .ne 25, 3) := by decide +kernel
theorem dL_same_309 : decode cL_same 309 = .ok (.aload_n 0, 1) := by decide +kernel
theorem dL_same_310 : decode cL_same 310 = .ok (.iload 16, 2) := by decide +kernel
theorem dL_same_312 : decode cL_same 312 = .ok (.iconst 3, 1) := by decide +kernel
theorem dL_same_313 : decode cL_same 313 = .ok (.invokevirtual 218, 3) := by decide +kernel
theorem dL_same_316 : decode cL_same 316 = .ok (.iload 16, 2) := by decide +kernel
theorem dL_same_318 : decode cL_same 318 = .ok (.aload_n 2, 1) := by decide +kernel
theorem dL_same_319 : decode cL_same 319 = .ok (.aload 6, 2) := by decide +kernel
theorem dL_same_321 : decode cL_same 321 = .ok (.invokestatic 198, 3) := by decide +kernel
theorem dL_same_324 : decode cL_same 324 = .ok (.if_icmp .ne 7, 3) := by decide +kernel
theorem dL_same_327 : decode cL_same 327 = .ok (.iconst 1, 1) := by decide +kernel
theorem dL_same_328 : decode cL_same 328 = .ok (.goto 4, 3) := by decide +kernel
theorem dL_same_331 : decode cL_same 331 = .ok (.iconst 0, 1) := by decide +kernel
theorem dL_same_332 : decode cL_same 332 = .ok (.istore 15, 2) := by decide +kernel
theorem dL_same_334 : decode cL_same 334 = .ok (.aload 4, 2) := by decide +kernel
theorem dL_same_336 : decode cL_same 336 = .ok (.aload 10, 2) := by decide +kernel
theorem dL_same_338 : decode cL_same 338 = .ok (.aload_n 2, 1) := by decide +kernel
theorem dL_same_339 : decode cL_same 339 = .ok (.aload 6, 2) := by decide +kernel
theorem dL_same_341 : decode cL_same 341 = .ok (.invokestatic 221, 3) := by decide +kernel
theorem dL_same_344 : decode cL_same 344 = .ok (.iconst 1, 1) := by decide +kernel
theorem dL_same_345 : decode cL_same 345 = .ok (.istore 16, 2) := by decide +kernel
theorem dL_same_347 : decode cL_same 347 = .ok (.iconst 0, 1) := by decide +kernel
theorem dL_same_348 : decode cL_same 348 = .ok (.istore 17, 2) := by decide +kernel
theorem dL_same_350 : decode cL_same 350 = .ok (.iload 17, 2) := by decide +kernel
theorem dL_same_352 : decode cL_same 352 = .ok (.iload 7, 2) := by decide +kernel
theorem dL_same_354 : decode cL_same 354 = .ok (.if_icmp .ge 95, 3) := by decide +kernel
theorem dL_same_357 : decode cL_same 357 = .ok (.iload 15, 2) := by decide +kernel
theorem dL_same_359 : decode cL_same 359 = .ok (.ifCond .eq 90, 3) := by decide +kernel
theorem dL_same_362 : decode cL_same 362 = .ok (.aload_n 0, 1) := by decide +kernel
theorem dL_same_363 : decode cL_same 363 = .ok (.iload 17, 2) := by decide +kernel
theorem dL_same_365 : decode cL_same 365 = .ok (.invokevirtual 225, 3) := by decide +kernel
theorem dL_same_368 : decode cL_same 368 = .ok (.aload 10, 2) := by decide +kernel
theorem dL_same_370 : decode cL_same 370 = .ok (.iload 17, 2) := by decide +kernel
theorem dL_same_372 : decode cL_same 372 = .ok (.iaload, 1) := by decide +kernel
theorem dL_same_373 : decode cL_same 373 = .ok (.if_icmp .ne 21, 3) := by decide +kernel
theorem dL_same_376 : decode cL_same 376 = .ok (.aload_n 0, 1) := by decide +kernel
theorem dL_same_377 : decode cL_same 377 = .ok (.iload 17, 2) := by decide +kernel
theorem dL_same_379 : decode cL_same 379 = .ok (.invokevirtual 228, 3) := by decide +kernel
theorem dL_same_382 : decode cL_same 382 = .ok (.aload 10, 2) := by decide +kernel
theorem dL_same_384 : decode cL_same 384 = .ok (.iload 17, 2) := by decide +kernel
theorem dL_same_386 : decode cL_same 386 = .ok (.iaload, 1) := by decide +kernel
theorem dL_same_387 : decode cL_same 387 = .ok (.if_icmp .ne 7, 3) := by decide +kernel
theorem dL_same_390 : decode cL_same 390 = .ok (.iconst 1, 1) := by decide +kernel
theorem dL_same_391 : decode cL_same 391 = .ok (.goto 4, 3) := by decide +kernel
theorem dL_same_394 : decode cL_same 394 = .ok (.iconst 0, 1) := by decide +kernel
theorem dL_same_395 : decode cL_same 395 = .ok (.istore 15, 2) := by decide +kernel
theorem dL_same_397 : decode cL_same 397 = .ok (.iload 16, 2) := by decide +kernel
theorem dL_same_399 : decode cL_same 399 = .ok (.ifCond .eq 41, 3) := by decide +kernel
theorem dL_same_402 : decode cL_same 402 = .ok (.iload 17, 2) := by decide +kernel
theorem dL_same_404 : decode cL_same 404 = .ok (.ifCond .eq 18, 3) := by decide +kernel
theorem dL_same_407 : decode cL_same 407 = .ok (.aload 10, 2) := by decide +kernel
theorem dL_same_409 : decode cL_same 409 = .ok (.iload 17, 2) := by decide +kernel
theorem dL_same_411 : decode cL_same 411 = .ok (.iaload, 1) := by decide +kernel
theorem dL_same_412 : decode cL_same 412 = .ok (.aload 10, 2) := by decide +kernel
theorem dL_same_414 : decode cL_same 414 = .ok (.iload 17, 2) := by decide +kernel
theorem dL_same_416 : decode cL_same 416 = .ok (.iconst 1, 1) := by decide +kernel
theorem dL_same_417 : decode cL_same 417 = .ok (.isub, 1) := by decide +kernel
theorem dL_same_418 : decode cL_same 418 = .ok (.iaload, 1) := by decide +kernel
theorem dL_same_419 : decode cL_same 419 = .ok (.if_icmp .gt 21, 3) := by decide +kernel
theorem dL_same_422 : decode cL_same 422 = .ok (.aload 10, 2) := by decide +kernel
theorem dL_same_424 : decode cL_same 424 = .ok (.iconst 0, 1) := by decide +kernel
theorem dL_same_425 : decode cL_same 425 = .ok (.iaload, 1) := by decide +kernel
theorem dL_same_426 : decode cL_same 426 = .ok (.aload 10, 2) := by decide +kernel
theorem dL_same_428 : decode cL_same 428 = .ok (.iload 17, 2) := by decide +kernel
theorem dL_same_430 : decode cL_same 430 = .ok (.iaload, 1) := by decide +kernel
theorem dL_same_431 : decode cL_same 431 = .ok (.isub, 1) := by decide +kernel
theorem dL_same_432 : decode cL_same 432 = .ok (.iconst 2, 1) := by decide +kernel
theorem dL_same_433 : decode cL_same 433 = .ok (.if_icmp .ge 7, 3) := by decide +kernel
theorem dL_same_436 : decode cL_same 436 = .ok (.iconst 1, 1) := by decide +kernel
theorem dL_same_437 : decode cL_same 437 = .ok (.goto 4, 3) := by decide +kernel
theorem dL_same_440 : decode cL_same 440 = .ok (.iconst 0, 1) := by decide +kernel
theorem dL_same_441 : decode cL_same 441 = .ok (.istore 16, 2) := by decide +kernel
theorem dL_same_443 : decode cL_same 443 = .ok (.iinc 17 1, 3) := by decide +kernel
theorem dL_same_446 : decode cL_same 446 = .ok (.goto (-96), 3) := by decide +kernel
theorem dL_same_449 : decode cL_same 449 = .ok (.iconst 0, 1) := by decide +kernel
theorem dL_same_450 : decode cL_same 450 = .ok (.iconst 0, 1) := by decide +kernel
theorem dL_same_451 : decode cL_same 451 = .ok (.aload 5, 2) := by decide +kernel
theorem dL_same_453 : decode cL_same 453 = .ok (.aload 6, 2) := by decide +kernel
theorem dL_same_455 : decode cL_same 455 = .ok (.invokestatic 231, 3) := by decide +kernel
theorem dL_same_458 : decode cL_same 458 = .ok (.istore 17, 2) := by decide +kernel
theorem dL_same_460 : decode cL_same 460 = .ok (.aload_n 0, 1) := by decide +kernel
theorem dL_same_461 : decode cL_same 461 = .ok (.invokevirtual 234, 3) := by decide +kernel
theorem dL_same_464 : decode cL_same 464 = .ok (.istore 18, 2) := by decide +kernel
theorem dL_same_466 : decode cL_same 466 = .ok (.iload 15, 2) := by decide +kernel
theorem dL_same_468 : decode cL_same 468 = .ok (.ifCond .eq 101, 3) := by decide +kernel
theorem dL_same_471 : decode cL_same 471 = .ok (.aload_n 0, 1) := by decide +kernel
theorem dL_same_472 : decode cL_same 472 = .ok (.invokevirtual 237, 3) := by decide +kernel
theorem dL_same_475 : decode cL_same 475 = .ok (.iload 16, 2) := by decide +kernel
theorem dL_same_477 : decode cL_same 477 = .ok (.if_icmp .ne 92, 3) := by decide +kernel
theorem dL_same_480 : decode cL_same 480 = .ok (.aload_n 0, 1) := by decide +kernel
theorem dL_same_481 : decode cL_same 481 = .ok (.invokevirtual 240, 3) := by decide +kernel
theorem dL_same_484 : decode cL_same 484 = .ok (.iload 17, 2) := by decide +kernel
theorem dL_same_486 : decode cL_same 486 = .ok (.if_icmp .ne 83, 3) := by decide +kernel
theorem dL_same_489 : decode cL_same 489 = .ok (.iload 7, 2) := by decide +kernel
theorem dL_same_491 : decode cL_same 491 = .ok (.iconst 4, 1) := by decide +kernel
theorem dL_same_492 : decode cL_same 492 = .ok (.if_icmp .le 12, 3) := by decide +kernel
theorem dL_same_495 : decode cL_same 495 = .ok (.iload 18, 2) := by decide +kernel
theorem dL_same_497 : decode cL_same 497 = .ok (.iconst (-1), 1) := by decide +kernel
theorem dL_same_498 : decode cL_same 498 = .ok (.if_icmp .ne 71, 3) := by decide +kernel
theorem dL_same_501 : decode cL_same 501 = .ok (.goto 64, 3) := by decide +kernel
theorem dL_same_504 : decode cL_same 504 = .ok (.iload 7, 2) := by decide +kernel
theorem dL_same_506 : decode cL_same 506 = .ok (.iconst 4, 1) := by decide +kernel
theorem dL_same_507 : decode cL_same 507 = .ok (.if_icmp .ge 35, 3) := by decide +kernel
theorem dL_same_510 : decode cL_same 510 = .ok (.iload 18, 2) := by decide +kernel
theorem dL_same_512 : decode cL_same 512 = .ok (.iload 17, 2) := by decide +kernel
theorem dL_same_514 : decode cL_same 514 = .ok (.iconst 3, 1) := by decide +kernel
theorem dL_same_515 : decode cL_same 515 = .ok (.if_icmp .le 7, 3) := by decide +kernel
theorem dL_same_518 : decode cL_same 518 = .ok (.iconst 3, 1) := by decide +kernel
theorem dL_same_519 : decode cL_same 519 = .ok (.goto 17, 3) := by decide +kernel
theorem dL_same_522 : decode cL_same 522 = .ok (.iload 17, 2) := by decide +kernel
theorem dL_same_524 : decode cL_same 524 = .ok (.iconst 3, 1) := by decide +kernel
theorem dL_same_525 : decode cL_same 525 = .ok (.if_icmp .ne 7, 3) := by decide +kernel
theorem dL_same_528 : decode cL_same 528 = .ok (.iconst 2, 1) := by decide +kernel
theorem dL_same_529 : decode cL_same 529 = .ok (.goto 7, 3) := by decide +kernel
theorem dL_same_532 : decode cL_same 532 = .ok (.iload 17, 2) := by decide +kernel
theorem dL_same_534 : decode cL_same 534 = .ok (.iconst 1, 1) := by decide +kernel
theorem dL_same_535 : decode cL_same 535 = .ok (.isub, 1) := by decide +kernel
theorem dL_same_536 : decode cL_same 536 = .ok (.if_icmp .ne 33, 3) := by decide +kernel
theorem dL_same_539 : decode cL_same 539 = .ok (.goto 26, 3) := by decide +kernel
theorem dL_same_542 : decode cL_same 542 = .ok (.iload 18, 2) := by decide +kernel
theorem dL_same_544 : decode cL_same 544 = .ok (.bipush 6, 2) := by decide +kernel
theorem dL_same_546 : decode cL_same 546 = .ok (.if_icmp .ge 23, 3) := by decide +kernel
theorem dL_same_549 : decode cL_same 549 = .ok (.iconst 1, 1) := by decide +kernel
theorem dL_same_550 : decode cL_same 550 = .ok (.iload 18, 2) := by decide +kernel
theorem dL_same_552 : decode cL_same 552 = .ok (.ishl, 1) := by decide +kernel
theorem dL_same_553 : decode cL_same 553 = .ok (.iload 17, 2) := by decide +kernel
theorem dL_same_555 : decode cL_same 555 = .ok (.if_icmp .lt 14, 3) := by decide +kernel
theorem dL_same_558 : decode cL_same 558 = .ok (.iload 18, 2) := by decide +kernel
theorem dL_same_560 : decode cL_same 560 = .ok (.iload 17, 2) := by decide +kernel
theorem dL_same_562 : decode cL_same 562 = .ok (.if_icmp .ge 7, 3) := by decide +kernel
theorem dL_same_565 : decode cL_same 565 = .ok (.iconst 1, 1) := by decide +kernel
theorem dL_same_566 : decode cL_same 566 = .ok (.goto 4, 3) := by decide +kernel
theorem dL_same_569 : decode cL_same 569 = .ok (.iconst 0, 1) := by decide +kernel
theorem dL_same_570 : decode cL_same 570 = .ok (.istore 15, 2) := by decide +kernel
theorem dL_same_572 : decode cL_same 572 = .ok (.iconst 0, 1) := by decide +kernel
theorem dL_same_573 : decode cL_same 573 = .ok (.istore 19, 2) := by decide +kernel
theorem dL_same_575 : decode cL_same 575 = .ok (.iload 19, 2) := by decide +kernel
theorem dL_same_577 : decode cL_same 577 = .ok (.iload 7, 2) := by decide +kernel
theorem dL_same_579 : decode cL_same 579 = .ok (.if_icmp .ge 16, 3) := by decide +kernel
theorem dL_same_582 : decode cL_same 582 = .ok (.aload 9, 2) := by decide +kernel
theorem dL_same_584 : decode cL_same 584 = .ok (.iload 19, 2) := by decide +kernel
theorem dL_same_586 : decode cL_same 586 = .ok (.iload 19, 2) := by decide +kernel
theorem dL_same_588 : decode cL_same 588 = .ok (.iastore, 1) := by decide +kernel
theorem dL_same_589 : decode cL_same 589 = .ok (.iinc 19 1, 3) := by decide +kernel
theorem dL_same_592 : decode cL_same 592 = .ok (.goto (-17), 3) := by decide +kernel
theorem dL_same_595 : decode cL_same 595 = .ok (.iload_n 1, 1) := by decide +kernel
theorem dL_same_596 : decode cL_same 596 = .ok (.iconst 5, 1) := by decide +kernel
theorem dL_same_597 : decode cL_same 597 = .ok (.ishr, 1) := by decide +kernel
theorem dL_same_598 : decode cL_same 598 = .ok (.bipush 120, 2) := by decide +kernel
theorem dL_same_600 : decode cL_same 600 = .ok (.invokestatic 161, 3) := by decide +kernel
theorem dL_same_603 : decode cL_same 603 = .ok (.istore 19, 2) := by decide +kernel
theorem dL_same_605 : decode cL_same 605 = .ok (.iload 19, 2) := by decide +kernel
theorem dL_same_607 : decode cL_same 607 = .ok (.ifCond .le 17, 3) := by decide +kernel
theorem dL_same_610 : decode cL_same 610 = .ok (.aload 9, 2) := by decide +kernel
theorem dL_same_612 : decode cL_same 612 = .ok (.iload 7, 2) := by decide +kernel
theorem dL_same_614 : decode cL_same 614 = .ok (.invokestatic 72, 3) := by decide +kernel
theorem dL_same_617 : decode cL_same 617 = .ok (.pop, 1) := by decide +kernel
theorem dL_same_618 : decode cL_same 618 = .ok (.iinc 19 (-1), 3) := by decide +kernel
theorem dL_same_621 : decode cL_same 621 = .ok (.goto (-16), 3) := by decide +kernel
theorem dL_same_624 : decode cL_same 624 = .ok (.iload_n 1, 1) := by decide +kernel
theorem dL_same_625 : decode cL_same 625 = .ok (.iconst 3, 1) := by decide +kernel
theorem dL_same_626 : decode cL_same 626 = .ok (.ishr, 1) := by decide +kernel
theorem dL_same_627 : decode cL_same 627 = .ok (.iconst 5, 1) := by decide +kernel
theorem dL_same_628 : decode cL_same 628 = .ok (.invokestatic 161, 3) := by decide +kernel
theorem dL_same_631 : decode cL_same 631 = .ok (.istore 19, 2) := by decide +kernel
theorem dL_same_633 : decode cL_same 633 = .ok (.iload 15, 2) := by decide +kernel
theorem dL_same_635 : decode cL_same 635 = .ok (.ifCond .eq 141, 3) := by decide +kernel
theorem dL_same_638 : decode cL_same 638 = .ok (.iload 19, 2) := by decide +kernel
theorem dL_same_640 : decode cL_same 640 = .ok (.ifCond .ne 19, 3) := by decide +kernel
theorem dL_same_643 : decode cL_same 643 = .ok (.aload_n 0, 1) := by decide +kernel
theorem dL_same_644 : decode cL_same 644 = .ok (.iload_n 1, 1) := by decide +kernel
theorem dL_same_645 : decode cL_same 645 = .ok (.aload 9, 2) := by decide +kernel
theorem dL_same_647 : decode cL_same 647 = .ok (.aload_n 2, 1) := by decide +kernel
theorem dL_same_648 : decode cL_same 648 = .ok (.aload 6, 2) := by decide +kernel
theorem dL_same_650 : decode cL_same 650 = .ok (.invokestatic 243, 3) := by decide +kernel
theorem dL_same_653 : decode cL_same 653 = .ok (.ifCond .eq 123, 3) := by decide +kernel
theorem dL_same_656 : decode cL_same 656 = .ok (.goto 116, 3) := by decide +kernel
theorem dL_same_659 : decode cL_same 659 = .ok (.iload 19, 2) := by decide +kernel
theorem dL_same_661 : decode cL_same 661 = .ok (.iconst 1, 1) := by decide +kernel
theorem dL_same_662 : decode cL_same 662 = .ok (.if_icmp .ne 17, 3) := by decide +kernel
theorem dL_same_665 : decode cL_same 665 = .ok (.aload_n 0, 1) := by decide +kernel
theorem dL_same_666 : decode cL_same 666 = .ok (.iload_n 1, 1) := by decide +kernel
theorem dL_same_667 : decode cL_same 667 = .ok (.aload_n 2, 1) := by decide +kernel
theorem dL_same_668 : decode cL_same 668 = .ok (.aload 6, 2) := by decide +kernel
theorem dL_same_670 : decode cL_same 670 = .ok (.invokestatic 247, 3) := by decide +kernel
theorem dL_same_673 : decode cL_same 673 = .ok (.ifCond .eq 103, 3) := by decide +kernel
theorem dL_same_676 : decode cL_same 676 = .ok (.goto 96, 3) := by decide +kernel
theorem dL_same_679 : decode cL_same 679 = .ok (.iload 19, 2) := by decide +kernel
theorem dL_same_681 : decode cL_same 681 = .ok (.iconst 2, 1) := by decide +kernel
theorem dL_same_682 : decode cL_same 682 = .ok (.if_icmp .ne 25, 3) := by decide +kernel
theorem dL_same_685 : decode cL_same 685 = .ok (.aload_n 0, 1) := by decide +kernel
theorem dL_same_686 : decode cL_same 686 = .ok (.iload_n 1, 1) := by decide +kernel
theorem dL_same_687 : decode cL_same 687 = .ok (.bipush 6, 2) := by decide +kernel
theorem dL_same_689 : decode cL_same 689 = .ok (.ishr, 1) := by decide +kernel
theorem dL_same_690 : decode cL_same 690 = .ok (.iconst 4, 1) := by decide +kernel
theorem dL_same_691 : decode cL_same 691 = .ok (.invokestatic 161, 3) := by decide +kernel
theorem dL_same_694 : decode cL_same 694 = .ok (.aload 9, 2) := by decide +kernel
theorem dL_same_696 : decode cL_same 696 = .ok (.aload 6, 2) := by decide +kernel
theorem dL_same_698 : decode cL_same 698 = .ok (.invokestatic 251, 3) := by decide +kernel
theorem dL_same_701 : decode cL_same 701 = .ok (.ifCond .eq 75, 3) := by decide +kernel
theorem dL_same_704 : decode cL_same 704 = .ok (.goto 68, 3) := by decide +kernel
theorem dL_same_707 : decode cL_same 707 = .ok (.iload 19, 2) := by decide +kernel
theorem dL_same_709 : decode cL_same 709 = .ok (.iconst 3, 1) := by decide +kernel
theorem dL_same_710 : decode cL_same 710 = .ok (.if_icmp .ne 18, 3) := by decide +kernel
theorem dL_same_713 : decode cL_same 713 = .ok (.aload_n 0, 1) := by decide +kernel
theorem dL_same_714 : decode cL_same 714 = .ok (.aload 9, 2) := by decide +kernel
theorem dL_same_716 : decode cL_same 716 = .ok (.aload_n 2, 1) := by decide +kernel
theorem dL_same_717 : decode cL_same 717 = .ok (.aload 6, 2) := by decide +kernel
theorem dL_same_719 : decode cL_same 719 = .ok (.invokestatic 254, 3) := by decide +kernel
theorem dL_same_722 : decode cL_same 722 = .ok (.ifCond .eq 54, 3) := by decide +kernel
theorem dL_same_725 : decode cL_same 725 = .ok (.goto 47, 3) := by decide +kernel
theorem dL_same_728 : decode cL_same 728 = .ok (.iload 7, 2) := by decide +kernel
theorem dL_same_730 : decode cL_same 730 = .ok (.iconst 4, 1) := by decide +kernel
theorem dL_same_731 : decode cL_same 731 = .ok (.if_icmp .gt 41, 3) := by decide +kernel
theorem dL_same_734 : decode cL_same 734 = .ok (.aload 6, 2) := by decide +kernel
theorem dL_same_736 : decode cL_same 736 = .ok (.iconst 1, 1) := by decide +kernel
theorem dL_same_737 : decode cL_same 737 = .ok (.iaload, 1) := by decide +kernel
theorem dL_same_738 : decode cL_same 738 = .ok (.bipush 22, 2) := by decide +kernel
theorem dL_same_740 : decode cL_same 740 = .ok (.if_icmp .gt 32, 3) := by decide +kernel
theorem dL_same_743 : decode cL_same 743 = .ok (.aload_n 0, 1) := by decide +kernel
theorem dL_same_744 : decode cL_same 744 = .ok (.iconst 2, 1) := by decide +kernel
theorem dL_same_745 : decode cL_same 745 = .ok (.invokevirtual 258, 3) := by decide +kernel
theorem dL_same_748 : decode cL_same 748 = .ok (.iconst (-1), 1) := by decide +kernel
theorem dL_same_749 : decode cL_same 749 = .ok (.iconst (-1), 1) := by decide +kernel
theorem dL_same_750 : decode cL_same 750 = .ok (.aload_n 2, 1) := by decide +kernel
theorem dL_same_751 : decode cL_same 751 = .ok (.aload 6, 2) := by decide +kernel
theorem dL_same_753 : decode cL_same 753 = .ok (.invokestatic 134, 3) := by decide +kernel
theorem dL_same_756 : decode cL_same 756 = .ok (.ifCond .eq 7, 3) := by decide +kernel
theorem dL_same_759 : decode cL_same 759 = .ok (.iconst 0, 1) := by decide +kernel
theorem dL_same_760 : decode cL_same 760 = .ok (.goto 9, 3) := by decide +kernel
theorem dL_same_763 : decode cL_same 763 = .ok (.aload_n 2, 1) := by decide +kernel
theorem dL_same_764 : decode cL_same 764 = .ok (.aload 6, 2) := by decide +kernel
theorem dL_same_766 : decode cL_same 766 = .ok (.invokestatic 261, 3) := by decide +kernel
theorem dL_same_769 : decode cL_same 769 = .ok (.if_icmp .ne 7, 3) := by decide +kernel
theorem dL_same_772 : decode cL_same 772 = .ok (.iconst 1, 1) := by decide +kernel
theorem dL_same_773 : decode cL_same 773 = .ok (.goto 4, 3) := by decide +kernel
theorem dL_same_776 : decode cL_same 776 = .ok (.iconst 0, 1) := by decide +kernel
theorem dL_same_777 : decode cL_same 777 = .ok (.ireturn, 1) := by decide +kernel
theorem dL_counts_0 : decode cL_counts 0 = .ok (.iconst 0, 1) := by decide +kernel
theorem dL_counts_1 : decode cL_counts 1 = .ok (.istore 4, 2) := by decide +kernel
theorem dL_counts_3 : decode cL_counts 3 = .ok (.iload 4, 2) := by decide +kernel
theorem dL_counts_5 : decode cL_counts 5 = .ok (.bipush 6, 2) := by decide +kernel
theorem dL_counts_7 : decode cL_counts 7 = .ok (.if_icmp .ge 17, 3) := by decide +kernel
theorem dL_counts_10 : decode cL_counts 10 = .ok (.aload_n 1, 1) := by decide +kernel
theorem dL_counts_11 : decode cL_counts 11 = .ok (.iload 4, 2) := by decide +kernel
theorem dL_counts_13 : decode cL_counts 13 = .ok (.aload_n 0, 1) := by decide +kernel
theorem dL_counts_14 : decode cL_counts 14 = .ok (.iload 4, 2) := by decide +kernel
theorem dL_counts_16 : decode cL_counts 16 = .ok (.iaload, 1) := by decide +kernel
theorem dL_counts_17 : decode cL_counts 17 = .ok (.iastore, 1) := by decide +kernel
theorem dL_counts_18 : decode cL_counts 18 = .ok (.iinc 4 1, 3) := by decide +kernel
theorem dL_counts_21 : decode cL_counts 21 = .ok (.goto (-18), 3) := by decide +kernel
theorem dL_counts_24 : decode cL_counts 24 = .ok (.iconst 0, 1) := by decide +kernel
theorem dL_counts_25 : decode cL_counts 25 = .ok (.istore 4, 2) := by decide +kernel
theorem dL_counts_27 : decode cL_counts 27 = .ok (.iload 4, 2) := by decide +kernel
theorem dL_counts_29 : decode cL_counts 29 = .ok (.aload_n 3, 1) := by decide +kernel
theorem dL_counts_30 : decode cL_counts 30 = .ok (.iconst 1, 1) := by decide +kernel
theorem dL_counts_31 : decode cL_counts 31 = .ok (.iaload, 1) := by decide +kernel
theorem dL_counts_32 : decode cL_counts 32 = .ok (.if_icmp .ge 58, 3) := by decide +kernel
theorem dL_counts_35 : decode cL_counts 35 = .ok (.aload_n 1, 1) := by decide +kernel
theorem dL_counts_36 : decode cL_counts 36 = .ok (.aload_n 2, 1) := by decide +kernel
theorem dL_counts_37 : decode cL_counts 37 = .ok (.iload 4, 2) := by decide +kernel
theorem dL_counts_39 : decode cL_counts 39 = .ok (.iaload, 1) := by decide +kernel
theorem dL_counts_40 : decode cL_counts 40 = .ok (.bipush 8, 2) := by decide +kernel
theorem dL_counts_42 : decode cL_counts 42 = .ok (.irem, 1) := by decide +kernel
theorem dL_counts_43 : decode cL_counts 43 = .ok (.iaload, 1) := by decide +kernel
theorem dL_counts_44 : decode cL_counts 44 = .ok (.aload_n 1, 1) := by decide +kernel
theorem dL_counts_45 : decode cL_counts 45 = .ok (.aload_n 2, 1) := by decide +kernel
theorem dL_counts_46 : decode cL_counts 46 = .ok (.iload 4, 2) := by decide +kernel
theorem dL_counts_48 : decode cL_counts 48 = .ok (.iaload, 1) := by decide +kernel
theorem dL_counts_49 : decode cL_counts 49 = .ok (.bipush 8, 2) := by decide +kernel
theorem dL_counts_51 : decode cL_counts 51 = .ok (.idiv, 1) := by decide +kernel
theorem dL_counts_52 : decode cL_counts 52 = .ok (.iaload, 1) := by decide +kernel
theorem dL_counts_53 : decode cL_counts 53 = .ok (.iadd, 1) := by decide +kernel
theorem dL_counts_54 : decode cL_counts 54 = .ok (.istore 5, 2) := by decide +kernel
theorem dL_counts_56 : decode cL_counts 56 = .ok (.aload_n 1, 1) := by decide +kernel
theorem dL_counts_57 : decode cL_counts 57 = .ok (.aload_n 2, 1) := by decide +kernel
theorem dL_counts_58 : decode cL_counts 58 = .ok (.iload 4, 2) := by decide +kernel
theorem dL_counts_60 : decode cL_counts 60 = .ok (.iaload, 1) := by decide +kernel
theorem dL_counts_61 : decode cL_counts 61 = .ok (.bipush 8, 2) := by decide +kernel
theorem dL_counts_63 : decode cL_counts 63 = .ok (.irem, 1) := by decide +kernel
theorem dL_counts_64 : decode cL_counts 64 = .ok (.iload 5, 2) := by decide +kernel
theorem dL_counts_66 : decode cL_counts 66 = .ok (.iconst 1, 1) := by decide +kernel
theorem dL_counts_67 : decode cL_counts 67 = .ok (.iadd, 1) := by decide +kernel
theorem dL_counts_68 : decode cL_counts 68 = .ok (.iconst 2, 1) := by decide +kernel
theorem dL_counts_69 : decode cL_counts 69 = .ok (.idiv, 1) := by decide +kernel
theorem dL_counts_70 : decode cL_counts 70 = .ok (.iastore, 1) := by decide +kernel
theorem dL_counts_71 : decode cL_counts 71 = .ok (.aload_n 1, 1) := by decide +kernel
theorem dL_counts_72 : decode cL_counts 72 = .ok (.aload_n 2, 1) := by decide +kernel
theorem dL_counts_73 : decode cL_counts 73 = .ok (.iload 4, 2) := by decide +kernel
theorem dL_counts_75 : decode cL_counts 75 = .ok (.iaload, 1) := by decide +kernel
theorem dL_counts_76 : decode cL_counts 76 = .ok (.bipush 8, 2) := by decide +kernel
theorem dL_counts_78 : decode cL_counts 78 = .ok (.idiv, 1) := by decide +kernel
theorem dL_counts_79 : decode cL_counts 79 = .ok (.iload 5, 2) := by decide +kernel
theorem dL_counts_81 : decode cL_counts 81 = .ok (.iconst 2, 1) := by decide +kernel
theorem dL_counts_82 : decode cL_counts 82 = .ok (.idiv, 1) := by decide +kernel
theorem dL_counts_83 : decode cL_counts 83 = .ok (.iastore, 1) := by decide +kernel
theorem dL_counts_84 : decode cL_counts 84 = .ok (.iinc 4 1, 3) := by decide +kernel
theorem dL_counts_87 : decode cL_counts 87 = .ok (.goto (-60), 3) := by decide +kernel
theorem dL_counts_90 : decode cL_counts 90 = .ok (.return_, 1) := by decide +kernel
theorem dL_forgets_0 : decode cL_forgets 0 = .ok (.iconst 0, 1) := by decide +kernel
theorem dL_forgets_1 : decode cL_forgets 1 = .ok (.istore_n 1, 1) := by decide +kernel
theorem dL_forgets_2 : decode cL_forgets 2 = .ok (.iload_n 1, 1) := by decide +kernel
theorem dL_forgets_3 : decode cL_forgets 3 = .ok (.bipush 6, 2) := by decide +kernel
theorem dL_forgets_5 : decode cL_forgets 5 = .ok (.if_icmp .ge 13, 3) := by decide +kernel
theorem dL_forgets_8 : decode cL_forgets 8 = .ok (.aload_n 0, 1) := by decide +kernel
theorem dL_forgets_9 : decode cL_forgets 9 = .ok (.iload_n 1, 1) := by decide +kernel
theorem dL_forgets_10 : decode cL_forgets 10 = .ok (.iconst 0, 1) := by decide +kernel
theorem dL_forgets_11 : decode cL_forgets 11 = .ok (.iastore, 1) := by decide +kernel
theorem dL_forgets_12 : decode cL_forgets 12 = .ok (.iinc 1 1, 3) := by decide +kernel
theorem dL_forgets_15 : decode cL_forgets 15 = .ok (.goto (-13), 3) := by decide +kernel
theorem dL_forgets_18 : decode cL_forgets 18 = .ok (.return_, 1) := by decide +kernel
theorem dL_builds_0 : decode cL_builds 0 = .ok (.aload 7, 2) := by decide +kernel
theorem dL_builds_2 : decode cL_builds 2 = .ok (.iconst 0, 1) := by decide +kernel
theorem dL_builds_3 : decode cL_builds 3 = .ok (.iaload, 1) := by decide +kernel
theorem dL_builds_4 : decode cL_builds 4 = .ok (.istore 8, 2) := by decide +kernel
theorem dL_builds_6 : decode cL_builds 6 = .ok (.iload_n 1, 1) := by decide +kernel
theorem dL_builds_7 : decode cL_builds 7 = .ok (.ifCond .ne 103, 3) := by decide +kernel
theorem dL_builds_10 : decode cL_builds 10 = .ok (.iload_n 2, 1) := by decide +kernel
theorem dL_builds_11 : decode cL_builds 11 = .ok (.iload 8, 2) := by decide +kernel
theorem dL_builds_13 : decode cL_builds 13 = .ok (.invokestatic 161, 3) := by decide +kernel
theorem dL_builds_16 : decode cL_builds 16 = .ok (.istore 9, 2) := by decide +kernel
theorem dL_builds_18 : decode cL_builds 18 = .ok (.iload 9, 2) := by decide +kernel
theorem dL_builds_20 : decode cL_builds 20 = .ok (.iconst 1, 1) := by decide +kernel
theorem dL_builds_21 : decode cL_builds 21 = .ok (.iadd, 1) := by decide +kernel
theorem dL_builds_22 : decode cL_builds 22 = .ok (.iload_n 2, 1) := by decide +kernel
theorem dL_builds_23 : decode cL_builds 23 = .ok (.iconst 3, 1) := by decide +kernel
theorem dL_builds_24 : decode cL_builds 24 = .ok (.ishr, 1) := by decide +kernel
theorem dL_builds_25 : decode cL_builds 25 = .ok (.iload 8, 2) := by decide +kernel
theorem dL_builds_27 : decode cL_builds 27 = .ok (.iconst 1, 1) := by decide +kernel
theorem dL_builds_28 : decode cL_builds 28 = .ok (.isub, 1) := by decide +kernel
theorem dL_builds_29 : decode cL_builds 29 = .ok (.invokestatic 161, 3) := by decide +kernel
theorem dL_builds_32 : decode cL_builds 32 = .ok (.iadd, 1) := by decide +kernel
theorem dL_builds_33 : decode cL_builds 33 = .ok (.iload 8, 2) := by decide +kernel
theorem dL_builds_35 : decode cL_builds 35 = .ok (.irem, 1) := by decide +kernel
theorem dL_builds_36 : decode cL_builds 36 = .ok (.istore 10, 2) := by decide +kernel
theorem dL_builds_38 : decode cL_builds 38 = .ok (.aload 7, 2) := by decide +kernel
theorem dL_builds_40 : decode cL_builds 40 = .ok (.iconst 1, 1) := by decide +kernel
theorem dL_builds_41 : decode cL_builds 41 = .ok (.iaload, 1) := by decide +kernel
theorem dL_builds_42 : decode cL_builds 42 = .ok (.bipush 24, 2) := by decide +kernel
theorem dL_builds_44 : decode cL_builds 44 = .ok (.if_icmp .ge 7, 3) := by decide +kernel
theorem dL_builds_47 : decode cL_builds 47 = .ok (.iconst 1, 1) := by decide +kernel
theorem dL_builds_48 : decode cL_builds 48 = .ok (.goto 4, 3) := by decide +kernel
theorem dL_builds_51 : decode cL_builds 51 = .ok (.iconst 0, 1) := by decide +kernel
theorem dL_builds_52 : decode cL_builds 52 = .ok (.istore 11, 2) := by decide +kernel
theorem dL_builds_54 : decode cL_builds 54 = .ok (.iload 11, 2) := by decide +kernel
theorem dL_builds_56 : decode cL_builds 56 = .ok (.ifCond .eq 18, 3) := by decide +kernel
theorem dL_builds_59 : decode cL_builds 59 = .ok (.iload 9, 2) := by decide +kernel
theorem dL_builds_61 : decode cL_builds 61 = .ok (.iload 10, 2) := by decide +kernel
theorem dL_builds_63 : decode cL_builds 63 = .ok (.aload_n 3, 1) := by decide +kernel
theorem dL_builds_64 : decode cL_builds 64 = .ok (.aload 7, 2) := by decide +kernel
theorem dL_builds_66 : decode cL_builds 66 = .ok (.invokestatic 47, 3) := by decide +kernel
theorem dL_builds_69 : decode cL_builds 69 = .ok (.aload 5, 2) := by decide +kernel
theorem dL_builds_71 : decode cL_builds 71 = .ok (.invokestatic 263, 3) := by decide +kernel
theorem dL_builds_74 : decode cL_builds 74 = .ok (.aload_n 0, 1) := by decide +kernel
theorem dL_builds_75 : decode cL_builds 75 = .ok (.iconst 0, 1) := by decide +kernel
theorem dL_builds_76 : decode cL_builds 76 = .ok (.iload 9, 2) := by decide +kernel
theorem dL_builds_78 : decode cL_builds 78 = .ok (.iload 10, 2) := by decide +kernel
theorem dL_builds_80 : decode cL_builds 80 = .ok (.lconst 0, 1) := by decide +kernel
theorem dL_builds_81 : decode cL_builds 81 = .ok (.invokestatic 267, 3) := by decide +kernel
theorem dL_builds_84 : decode cL_builds 84 = .ok (.iload 11, 2) := by decide +kernel
theorem dL_builds_86 : decode cL_builds 86 = .ok (.ifCond .eq 12, 3) := by decide +kernel
theorem dL_builds_89 : decode cL_builds 89 = .ok (.aload 7, 2) := by decide +kernel
theorem dL_builds_91 : decode cL_builds 91 = .ok (.iconst 1, 1) := by decide +kernel
theorem dL_builds_92 : decode cL_builds 92 = .ok (.iaload, 1) := by decide +kernel
theorem dL_builds_93 : decode cL_builds 93 = .ok (.iconst 1, 1) := by decide +kernel
theorem dL_builds_94 : decode cL_builds 94 = .ok (.isub, 1) := by decide +kernel
theorem dL_builds_95 : decode cL_builds 95 = .ok (.goto 6, 3) := by decide +kernel
theorem dL_builds_98 : decode cL_builds 98 = .ok (.sipush (-1003), 3) := by decide +kernel
theorem dL_builds_101 : decode cL_builds 101 = .ok (.if_icmp .ne 7, 3) := by decide +kernel
theorem dL_builds_104 : decode cL_builds 104 = .ok (.iconst 1, 1) := by decide +kernel
theorem dL_builds_105 : decode cL_builds 105 = .ok (.goto 4, 3) := by decide +kernel
theorem dL_builds_108 : decode cL_builds 108 = .ok (.iconst 0, 1) := by decide +kernel
theorem dL_builds_109 : decode cL_builds 109 = .ok (.ireturn, 1) := by decide +kernel
theorem dL_builds_110 : decode cL_builds 110 = .ok (.iload_n 1, 1) := by decide +kernel
theorem dL_builds_111 : decode cL_builds 111 = .ok (.iconst 1, 1) := by decide +kernel
theorem dL_builds_112 : decode cL_builds 112 = .ok (.if_icmp .ne 76, 3) := by decide +kernel
theorem dL_builds_115 : decode cL_builds 115 = .ok (.aload 7, 2) := by decide +kernel
theorem dL_builds_117 : decode cL_builds 117 = .ok (.iconst 1, 1) := by decide +kernel
theorem dL_builds_118 : decode cL_builds 118 = .ok (.iaload, 1) := by decide +kernel
theorem dL_builds_119 : decode cL_builds 119 = .ok (.ifCond .le 7, 3) := by decide +kernel
theorem dL_builds_122 : decode cL_builds 122 = .ok (.iconst 1, 1) := by decide +kernel
theorem dL_builds_123 : decode cL_builds 123 = .ok (.goto 4, 3) := by decide +kernel
theorem dL_builds_126 : decode cL_builds 126 = .ok (.iconst 0, 1) := by decide +kernel
theorem dL_builds_127 : decode cL_builds 127 = .ok (.istore 9, 2) := by decide +kernel
theorem dL_builds_129 : decode cL_builds 129 = .ok (.aload 7, 2) := by decide +kernel
theorem dL_builds_131 : decode cL_builds 131 = .ok (.iconst 1, 1) := by decide +kernel
theorem dL_builds_132 : decode cL_builds 132 = .ok (.dup2, 1) := by decide +kernel
theorem dL_builds_133 : decode cL_builds 133 = .ok (.iaload, 1) := by decide +kernel
theorem dL_builds_134 : decode cL_builds 134 = .ok (.iload 9, 2) := by decide +kernel
theorem dL_builds_136 : decode cL_builds 136 = .ok (.ifCond .eq 7, 3) := by decide +kernel
theorem dL_builds_139 : decode cL_builds 139 = .ok (.iconst 1, 1) := by decide +kernel
theorem dL_builds_140 : decode cL_builds 140 = .ok (.goto 4, 3) := by decide +kernel
theorem dL_builds_143 : decode cL_builds 143 = .ok (.iconst 0, 1) := by decide +kernel
theorem dL_builds_144 : decode cL_builds 144 = .ok (.isub, 1) := by decide +kernel
theorem dL_builds_145 : decode cL_builds 145 = .ok (.iastore, 1) := by decide +kernel
theorem dL_builds_146 : decode cL_builds 146 = .ok (.iload 9, 2) := by decide +kernel
theorem dL_builds_148 : decode cL_builds 148 = .ok (.ifCond .eq 8, 3) := by decide +kernel
theorem dL_builds_151 : decode cL_builds 151 = .ok (.aload 5, 2) := by decide +kernel
theorem dL_builds_153 : decode cL_builds 153 = .ok (.invokestatic 263, 3) := by decide +kernel
theorem dL_builds_156 : decode cL_builds 156 = .ok (.aload_n 0, 1) := by decide +kernel
theorem dL_builds_157 : decode cL_builds 157 = .ok (.iconst 1, 1) := by decide +kernel
theorem dL_builds_158 : decode cL_builds 158 = .ok (.iconst 0, 1) := by decide +kernel
theorem dL_builds_159 : decode cL_builds 159 = .ok (.iconst 0, 1) := by decide +kernel
theorem dL_builds_160 : decode cL_builds 160 = .ok (.lconst 0, 1) := by decide +kernel
theorem dL_builds_161 : decode cL_builds 161 = .ok (.invokestatic 267, 3) := by decide +kernel
theorem dL_builds_164 : decode cL_builds 164 = .ok (.iload 9, 2) := by decide +kernel
theorem dL_builds_166 : decode cL_builds 166 = .ok (.ifCond .eq 10, 3) := by decide +kernel
theorem dL_builds_169 : decode cL_builds 169 = .ok (.aload 7, 2) := by decide +kernel
theorem dL_builds_171 : decode cL_builds 171 = .ok (.iconst 1, 1) := by decide +kernel
theorem dL_builds_172 : decode cL_builds 172 = .ok (.iaload, 1) := by decide +kernel
theorem dL_builds_173 : decode cL_builds 173 = .ok (.goto 6, 3) := by decide +kernel
theorem dL_builds_176 : decode cL_builds 176 = .ok (.sipush (-1003), 3) := by decide +kernel
theorem dL_builds_179 : decode cL_builds 179 = .ok (.if_icmp .ne 7, 3) := by decide +kernel
theorem dL_builds_182 : decode cL_builds 182 = .ok (.iconst 1, 1) := by decide +kernel
theorem dL_builds_183 : decode cL_builds 183 = .ok (.goto 4, 3) := by decide +kernel
theorem dL_builds_186 : decode cL_builds 186 = .ok (.iconst 0, 1) := by decide +kernel
theorem dL_builds_187 : decode cL_builds 187 = .ok (.ireturn, 1) := by decide +kernel
theorem dL_builds_188 : decode cL_builds 188 = .ok (.iload_n 1, 1) := by decide +kernel
theorem dL_builds_189 : decode cL_builds 189 = .ok (.iconst 2, 1) := by decide +kernel
theorem dL_builds_190 : decode cL_builds 190 = .ok (.if_icmp .ne 87, 3) := by decide +kernel
theorem dL_builds_193 : decode cL_builds 193 = .ok (.iload_n 2, 1) := by decide +kernel
theorem dL_builds_194 : decode cL_builds 194 = .ok (.iconst 3, 1) := by decide +kernel
theorem dL_builds_195 : decode cL_builds 195 = .ok (.invokestatic 161, 3) := by decide +kernel
theorem dL_builds_198 : decode cL_builds 198 = .ok (.istore 9, 2) := by decide +kernel
theorem dL_builds_200 : decode cL_builds 200 = .ok (.iload 9, 2) := by decide +kernel
theorem dL_builds_202 : decode cL_builds 202 = .ok (.iload 8, 2) := by decide +kernel
theorem dL_builds_204 : decode cL_builds 204 = .ok (.invokestatic 57, 3) := by decide +kernel
theorem dL_builds_207 : decode cL_builds 207 = .ok (.istore 10, 2) := by decide +kernel
theorem dL_builds_209 : decode cL_builds 209 = .ok (.aload 7, 2) := by decide +kernel
theorem dL_builds_211 : decode cL_builds 211 = .ok (.iconst 1, 1) := by decide +kernel
theorem dL_builds_212 : decode cL_builds 212 = .ok (.iaload, 1) := by decide +kernel
theorem dL_builds_213 : decode cL_builds 213 = .ok (.iload 10, 2) := by decide +kernel
theorem dL_builds_215 : decode cL_builds 215 = .ok (.iadd, 1) := by decide +kernel
theorem dL_builds_216 : decode cL_builds 216 = .ok (.bipush 25, 2) := by decide +kernel
theorem dL_builds_218 : decode cL_builds 218 = .ok (.if_icmp .ge 7, 3) := by decide +kernel
theorem dL_builds_221 : decode cL_builds 221 = .ok (.iconst 1, 1) := by decide +kernel
theorem dL_builds_222 : decode cL_builds 222 = .ok (.goto 4, 3) := by decide +kernel
theorem dL_builds_225 : decode cL_builds 225 = .ok (.iconst 0, 1) := by decide +kernel
theorem dL_builds_226 : decode cL_builds 226 = .ok (.istore 11, 2) := by decide +kernel
theorem dL_builds_228 : decode cL_builds 228 = .ok (.iload 11, 2) := by decide +kernel
theorem dL_builds_230 : decode cL_builds 230 = .ok (.ifCond .eq 16, 3) := by decide +kernel
theorem dL_builds_233 : decode cL_builds 233 = .ok (.iload 9, 2) := by decide +kernel
theorem dL_builds_235 : decode cL_builds 235 = .ok (.aload_n 3, 1) := by decide +kernel
theorem dL_builds_236 : decode cL_builds 236 = .ok (.aload 7, 2) := by decide +kernel
theorem dL_builds_238 : decode cL_builds 238 = .ok (.invokestatic 271, 3) := by decide +kernel
theorem dL_builds_241 : decode cL_builds 241 = .ok (.aload 5, 2) := by decide +kernel
theorem dL_builds_243 : decode cL_builds 243 = .ok (.invokestatic 263, 3) := by decide +kernel
theorem dL_builds_246 : decode cL_builds 246 = .ok (.aload_n 0, 1) := by decide +kernel
theorem dL_builds_247 : decode cL_builds 247 = .ok (.iconst 2, 1) := by decide +kernel
theorem dL_builds_248 : decode cL_builds 248 = .ok (.iload 9, 2) := by decide +kernel
theorem dL_builds_250 : decode cL_builds 250 = .ok (.iconst 0, 1) := by decide +kernel
theorem dL_builds_251 : decode cL_builds 251 = .ok (.lconst 0, 1) := by decide +kernel
theorem dL_builds_252 : decode cL_builds 252 = .ok (.invokestatic 267, 3) := by decide +kernel
theorem dL_builds_255 : decode cL_builds 255 = .ok (.iload 11, 2) := by decide +kernel
theorem dL_builds_257 : decode cL_builds 257 = .ok (.ifCond .eq 8, 3) := by decide +kernel
theorem dL_builds_260 : decode cL_builds 260 = .ok (.iload 10, 2) := by decide +kernel
theorem dL_builds_262 : decode cL_builds 262 = .ok (.goto 6, 3) := by decide +kernel
theorem dL_builds_265 : decode cL_builds 265 = .ok (.sipush (-1003), 3) := by decide +kernel
theorem dL_builds_268 : decode cL_builds 268 = .ok (.if_icmp .ne 7, 3) := by decide +kernel
theorem dL_builds_271 : decode cL_builds 271 = .ok (.iconst 1, 1) := by decide +kernel
theorem dL_builds_272 : decode cL_builds 272 = .ok (.goto 4, 3) := by decide +kernel
theorem dL_builds_275 : decode cL_builds 275 = .ok (.iconst 0, 1) := by decide +kernel
theorem dL_builds_276 : decode cL_builds 276 = .ok (.ireturn, 1) := by decide +kernel
theorem dL_builds_277 : decode cL_builds 277 = .ok (.iload_n 1, 1) := by decide +kernel
theorem dL_builds_278 : decode cL_builds 278 = .ok (.iconst 3, 1) := by decide +kernel
theorem dL_builds_279 : decode cL_builds 279 = .ok (.if_icmp .ne 154, 3) := by decide +kernel
theorem dL_builds_282 : decode cL_builds 282 = .ok (.aload 7, 2) := by decide +kernel
theorem dL_builds_284 : decode cL_builds 284 = .ok (.iconst 2, 1) := by decide +kernel
theorem dL_builds_285 : decode cL_builds 285 = .ok (.iaload, 1) := by decide +kernel
theorem dL_builds_286 : decode cL_builds 286 = .ok (.iconst 1, 1) := by decide +kernel
theorem dL_builds_287 : decode cL_builds 287 = .ok (.iadd, 1) := by decide +kernel
theorem dL_builds_288 : decode cL_builds 288 = .ok (.iconst 4, 1) := by decide +kernel
theorem dL_builds_289 : decode cL_builds 289 = .ok (.idiv, 1) := by decide +kernel
theorem dL_builds_290 : decode cL_builds 290 = .ok (.istore 9, 2) := by decide +kernel
theorem dL_builds_292 : decode cL_builds 292 = .ok (.aload 4, 2) := by decide +kernel
theorem dL_builds_294 : decode cL_builds 294 = .ok (.aload 7, 2) := by decide +kernel
theorem dL_builds_296 : decode cL_builds 296 = .ok (.invokestatic 216, 3) := by decide +kernel
theorem dL_builds_299 : decode cL_builds 299 = .ok (.ifCond .ge 7, 3) := by decide +kernel
theorem dL_builds_302 : decode cL_builds 302 = .ok (.iconst 1, 1) := by decide +kernel
theorem dL_builds_303 : decode cL_builds 303 = .ok (.goto 4, 3) := by decide +kernel
theorem dL_builds_306 : decode cL_builds 306 = .ok (.iconst 0, 1) := by decide +kernel
theorem dL_builds_307 : decode cL_builds 307 = .ok (.istore 10, 2) := by decide +kernel
theorem dL_builds_309 : decode cL_builds 309 = .ok (.iload 10, 2) := by decide +kernel
theorem dL_builds_311 : decode cL_builds 311 = .ok (.ifCond .eq 19, 3) := by decide +kernel
theorem dL_builds_314 : decode cL_builds 314 = .ok (.aload 7, 2) := by decide +kernel
theorem dL_builds_316 : decode cL_builds 316 = .ok (.iconst 1, 1) := by decide +kernel
theorem dL_builds_317 : decode cL_builds 317 = .ok (.iaload, 1) := by decide +kernel
theorem dL_builds_318 : decode cL_builds 318 = .ok (.iload 9, 2) := by decide +kernel
theorem dL_builds_320 : decode cL_builds 320 = .ok (.iadd, 1) := by decide +kernel
theorem dL_builds_321 : decode cL_builds 321 = .ok (.bipush 25, 2) := by decide +kernel
theorem dL_builds_323 : decode cL_builds 323 = .ok (.if_icmp .ge 7, 3) := by decide +kernel
theorem dL_builds_326 : decode cL_builds 326 = .ok (.iconst 1, 1) := by decide +kernel
theorem dL_builds_327 : decode cL_builds 327 = .ok (.goto 4, 3) := by decide +kernel
theorem dL_builds_330 : decode cL_builds 330 = .ok (.iconst 0, 1) := by decide +kernel
theorem dL_builds_331 : decode cL_builds 331 = .ok (.istore 11, 2) := by decide +kernel
theorem dL_builds_333 : decode cL_builds 333 = .ok (.iload 11, 2) := by decide +kernel
theorem dL_builds_335 : decode cL_builds 335 = .ok (.ifCond .eq 57, 3) := by decide +kernel
theorem dL_builds_338 : decode cL_builds 338 = .ok (.iconst 0, 1) := by decide +kernel
theorem dL_builds_339 : decode cL_builds 339 = .ok (.istore 12, 2) := by decide +kernel
theorem dL_builds_341 : decode cL_builds 341 = .ok (.iload 12, 2) := by decide +kernel
theorem dL_builds_343 : decode cL_builds 343 = .ok (.iload 9, 2) := by decide +kernel
theorem dL_builds_345 : decode cL_builds 345 = .ok (.if_icmp .ge 37, 3) := by decide +kernel
theorem dL_builds_348 : decode cL_builds 348 = .ok (.aload 4, 2) := by decide +kernel
theorem dL_builds_350 : decode cL_builds 350 = .ok (.iconst 4, 1) := by decide +kernel
theorem dL_builds_351 : decode cL_builds 351 = .ok (.iload 12, 2) := by decide +kernel
theorem dL_builds_353 : decode cL_builds 353 = .ok (.imul, 1) := by decide +kernel
theorem dL_builds_354 : decode cL_builds 354 = .ok (.iaload, 1) := by decide +kernel
theorem dL_builds_355 : decode cL_builds 355 = .ok (.bipush 48, 2) := by decide +kernel
theorem dL_builds_357 : decode cL_builds 357 = .ok (.isub, 1) := by decide +kernel
theorem dL_builds_358 : decode cL_builds 358 = .ok (.aload 4, 2) := by decide +kernel
theorem dL_builds_360 : decode cL_builds 360 = .ok (.iconst 4, 1) := by decide +kernel
theorem dL_builds_361 : decode cL_builds 361 = .ok (.iload 12, 2) := by decide +kernel
theorem dL_builds_363 : decode cL_builds 363 = .ok (.imul, 1) := by decide +kernel
theorem dL_builds_364 : decode cL_builds 364 = .ok (.iconst 2, 1) := by decide +kernel
theorem dL_builds_365 : decode cL_builds 365 = .ok (.iadd, 1) := by decide +kernel
theorem dL_builds_366 : decode cL_builds 366 = .ok (.iaload, 1) := by decide +kernel
theorem dL_builds_367 : decode cL_builds 367 = .ok (.bipush 48, 2) := by decide +kernel
theorem dL_builds_369 : decode cL_builds 369 = .ok (.isub, 1) := by decide +kernel
theorem dL_builds_370 : decode cL_builds 370 = .ok (.aload_n 3, 1) := by decide +kernel
theorem dL_builds_371 : decode cL_builds 371 = .ok (.aload 7, 2) := by decide +kernel
theorem dL_builds_373 : decode cL_builds 373 = .ok (.invokestatic 47, 3) := by decide +kernel
theorem dL_builds_376 : decode cL_builds 376 = .ok (.iinc 12 1, 3) := by decide +kernel
theorem dL_builds_379 : decode cL_builds 379 = .ok (.goto (-38), 3) := by decide +kernel
theorem dL_builds_382 : decode cL_builds 382 = .ok (.aload 7, 2) := by decide +kernel
theorem dL_builds_384 : decode cL_builds 384 = .ok (.iconst 2, 1) := by decide +kernel
theorem dL_builds_385 : decode cL_builds 385 = .ok (.iconst 0, 1) := by decide +kernel
theorem dL_builds_386 : decode cL_builds 386 = .ok (.iastore, 1) := by decide +kernel
theorem dL_builds_387 : decode cL_builds 387 = .ok (.aload 5, 2) := by decide +kernel
theorem dL_builds_389 : decode cL_builds 389 = .ok (.invokestatic 263, 3) := by decide +kernel
theorem dL_builds_392 : decode cL_builds 392 = .ok (.aload_n 0, 1) := by decide +kernel
theorem dL_builds_393 : decode cL_builds 393 = .ok (.iconst 4, 1) := by decide +kernel
theorem dL_builds_394 : decode cL_builds 394 = .ok (.iconst 0, 1) := by decide +kernel
theorem dL_builds_395 : decode cL_builds 395 = .ok (.iconst 0, 1) := by decide +kernel
theorem dL_builds_396 : decode cL_builds 396 = .ok (.lconst 0, 1) := by decide +kernel
theorem dL_builds_397 : decode cL_builds 397 = .ok (.invokestatic 267, 3) := by decide +kernel
theorem dL_builds_400 : decode cL_builds 400 = .ok (.iload 10, 2) := by decide +kernel
theorem dL_builds_402 : decode cL_builds 402 = .ok (.ifCond .ne 9, 3) := by decide +kernel
theorem dL_builds_405 : decode cL_builds 405 = .ok (.sipush (-1002), 3) := by decide +kernel
theorem dL_builds_408 : decode cL_builds 408 = .ok (.goto 16, 3) := by decide +kernel
theorem dL_builds_411 : decode cL_builds 411 = .ok (.iload 11, 2) := by decide +kernel
theorem dL_builds_413 : decode cL_builds 413 = .ok (.ifCond .eq 8, 3) := by decide +kernel
theorem dL_builds_416 : decode cL_builds 416 = .ok (.iload 9, 2) := by decide +kernel
theorem dL_builds_418 : decode cL_builds 418 = .ok (.goto 6, 3) := by decide +kernel
theorem dL_builds_421 : decode cL_builds 421 = .ok (.sipush (-1003), 3) := by decide +kernel
theorem dL_builds_424 : decode cL_builds 424 = .ok (.if_icmp .ne 7, 3) := by decide +kernel
theorem dL_builds_427 : decode cL_builds 427 = .ok (.iconst 1, 1) := by decide +kernel
theorem dL_builds_428 : decode cL_builds 428 = .ok (.goto 4, 3) := by decide +kernel
theorem dL_builds_431 : decode cL_builds 431 = .ok (.iconst 0, 1) := by decide +kernel
theorem dL_builds_432 : decode cL_builds 432 = .ok (.ireturn, 1) := by decide +kernel
theorem dL_builds_433 : decode cL_builds 433 = .ok (.aload 5, 2) := by decide +kernel
theorem dL_builds_435 : decode cL_builds 435 = .ok (.invokestatic 263, 3) := by decide +kernel
theorem dL_builds_438 : decode cL_builds 438 = .ok (.iload_n 1, 1) := by decide +kernel
theorem dL_builds_439 : decode cL_builds 439 = .ok (.iconst 4, 1) := by decide +kernel
theorem dL_builds_440 : decode cL_builds 440 = .ok (.if_icmp .ne 59, 3) := by decide +kernel
theorem dL_builds_443 : decode cL_builds 443 = .ok (.aload_n 0, 1) := by decide +kernel
theorem dL_builds_444 : decode cL_builds 444 = .ok (.invokevirtual 275, 3) := by decide +kernel
theorem dL_builds_447 : decode cL_builds 447 = .ok (.iconst 0, 1) := by decide +kernel
theorem dL_builds_448 : decode cL_builds 448 = .ok (.istore 9, 2) := by decide +kernel
theorem dL_builds_450 : decode cL_builds 450 = .ok (.iload 9, 2) := by decide +kernel
theorem dL_builds_452 : decode cL_builds 452 = .ok (.aload 7, 2) := by decide +kernel
theorem dL_builds_454 : decode cL_builds 454 = .ok (.iconst 1, 1) := by decide +kernel
theorem dL_builds_455 : decode cL_builds 455 = .ok (.iaload, 1) := by decide +kernel
theorem dL_builds_456 : decode cL_builds 456 = .ok (.if_icmp .ge 41, 3) := by decide +kernel
theorem dL_builds_459 : decode cL_builds 459 = .ok (.aload_n 3, 1) := by decide +kernel
theorem dL_builds_460 : decode cL_builds 460 = .ok (.iload 9, 2) := by decide +kernel
theorem dL_builds_462 : decode cL_builds 462 = .ok (.iload 8, 2) := by decide +kernel
theorem dL_builds_464 : decode cL_builds 464 = .ok (.iconst 1, 1) := by decide +kernel
theorem dL_builds_465 : decode cL_builds 465 = .ok (.isub, 1) := by decide +kernel
theorem dL_builds_466 : decode cL_builds 466 = .ok (.aload_n 3, 1) := by decide +kernel
theorem dL_builds_467 : decode cL_builds 467 = .ok (.iload 9, 2) := by decide +kernel
theorem dL_builds_469 : decode cL_builds 469 = .ok (.iaload, 1) := by decide +kernel
theorem dL_builds_470 : decode cL_builds 470 = .ok (.bipush 8, 2) := by decide +kernel
theorem dL_builds_472 : decode cL_builds 472 = .ok (.idiv, 1) := by decide +kernel
theorem dL_builds_473 : decode cL_builds 473 = .ok (.isub, 1) := by decide +kernel
theorem dL_builds_474 : decode cL_builds 474 = .ok (.bipush 8, 2) := by decide +kernel
theorem dL_builds_476 : decode cL_builds 476 = .ok (.iload 8, 2) := by decide +kernel
theorem dL_builds_478 : decode cL_builds 478 = .ok (.iconst 1, 1) := by decide +kernel
theorem dL_builds_479 : decode cL_builds 479 = .ok (.isub, 1) := by decide +kernel
theorem dL_builds_480 : decode cL_builds 480 = .ok (.aload_n 3, 1) := by decide +kernel
theorem dL_builds_481 : decode cL_builds 481 = .ok (.iload 9, 2) := by decide +kernel
theorem dL_builds_483 : decode cL_builds 483 = .ok (.iaload, 1) := by decide +kernel
theorem dL_builds_484 : decode cL_builds 484 = .ok (.bipush 8, 2) := by decide +kernel
theorem dL_builds_486 : decode cL_builds 486 = .ok (.irem, 1) := by decide +kernel
theorem dL_builds_487 : decode cL_builds 487 = .ok (.isub, 1) := by decide +kernel
theorem dL_builds_488 : decode cL_builds 488 = .ok (.imul, 1) := by decide +kernel
theorem dL_builds_489 : decode cL_builds 489 = .ok (.iadd, 1) := by decide +kernel
theorem dL_builds_490 : decode cL_builds 490 = .ok (.iastore, 1) := by decide +kernel
theorem dL_builds_491 : decode cL_builds 491 = .ok (.iinc 9 1, 3) := by decide +kernel
theorem dL_builds_494 : decode cL_builds 494 = .ok (.goto (-44), 3) := by decide +kernel
theorem dL_builds_497 : decode cL_builds 497 = .ok (.iconst 1, 1) := by decide +kernel
theorem dL_builds_498 : decode cL_builds 498 = .ok (.ireturn, 1) := by decide +kernel
theorem dL_builds_499 : decode cL_builds 499 = .ok (.iconst 0, 1) := by decide +kernel
theorem dL_builds_500 : decode cL_builds 500 = .ok (.istore 9, 2) := by decide +kernel
theorem dL_builds_502 : decode cL_builds 502 = .ok (.iload_n 1, 1) := by decide +kernel
theorem dL_builds_503 : decode cL_builds 503 = .ok (.iconst 5, 1) := by decide +kernel
theorem dL_builds_504 : decode cL_builds 504 = .ok (.if_icmp .ne 199, 3) := by decide +kernel
theorem dL_builds_507 : decode cL_builds 507 = .ok (.bipush 6, 2) := by decide +kernel
theorem dL_builds_509 : decode cL_builds 509 = .ok (.newarray .int, 2) := by decide +kernel
theorem dL_builds_511 : decode cL_builds 511 = .ok (.astore 10, 2) := by decide +kernel
theorem dL_builds_513 : decode cL_builds 513 = .ok (.iconst 0, 1) := by decide +kernel
theorem dL_builds_514 : decode cL_builds 514 = .ok (.istore 11, 2) := by decide +kernel
theorem dL_builds_516 : decode cL_builds 516 = .ok (.iload 11, 2) := by decide +kernel
theorem dL_builds_518 : decode cL_builds 518 = .ok (.iload 8, 2) := by decide +kernel
theorem dL_builds_520 : decode cL_builds 520 = .ok (.if_icmp .ge 16, 3) := by decide +kernel
theorem dL_builds_523 : decode cL_builds 523 = .ok (.aload 10, 2) := by decide +kernel
theorem dL_builds_525 : decode cL_builds 525 = .ok (.iload 11, 2) := by decide +kernel
theorem dL_builds_527 : decode cL_builds 527 = .ok (.iload 11, 2) := by decide +kernel
theorem dL_builds_529 : decode cL_builds 529 = .ok (.iastore, 1) := by decide +kernel
theorem dL_builds_530 : decode cL_builds 530 = .ok (.iinc 11 1, 3) := by decide +kernel
theorem dL_builds_533 : decode cL_builds 533 = .ok (.goto (-17), 3) := by decide +kernel
theorem dL_builds_536 : decode cL_builds 536 = .ok (.iconst 0, 1) := by decide +kernel
theorem dL_builds_537 : decode cL_builds 537 = .ok (.istore 11, 2) := by decide +kernel
theorem dL_builds_539 : decode cL_builds 539 = .ok (.iload 11, 2) := by decide +kernel
theorem dL_builds_541 : decode cL_builds 541 = .ok (.aload 7, 2) := by decide +kernel
theorem dL_builds_543 : decode cL_builds 543 = .ok (.iconst 1, 1) := by decide +kernel
theorem dL_builds_544 : decode cL_builds 544 = .ok (.iaload, 1) := by decide +kernel
theorem dL_builds_545 : decode cL_builds 545 = .ok (.if_icmp .ge 143, 3) := by decide +kernel
theorem dL_builds_548 : decode cL_builds 548 = .ok (.aload 10, 2) := by decide +kernel
theorem dL_builds_550 : decode cL_builds 550 = .ok (.aload_n 3, 1) := by decide +kernel
theorem dL_builds_551 : decode cL_builds 551 = .ok (.iload 11, 2) := by decide +kernel
theorem dL_builds_553 : decode cL_builds 553 = .ok (.iaload, 1) := by decide +kernel
theorem dL_builds_554 : decode cL_builds 554 = .ok (.bipush 8, 2) := by decide +kernel
theorem dL_builds_556 : decode cL_builds 556 = .ok (.irem, 1) := by decide +kernel
theorem dL_builds_557 : decode cL_builds 557 = .ok (.iaload, 1) := by decide +kernel
theorem dL_builds_558 : decode cL_builds 558 = .ok (.istore 12, 2) := by decide +kernel
theorem dL_builds_560 : decode cL_builds 560 = .ok (.aload 10, 2) := by decide +kernel
theorem dL_builds_562 : decode cL_builds 562 = .ok (.aload_n 3, 1) := by decide +kernel
theorem dL_builds_563 : decode cL_builds 563 = .ok (.iload 11, 2) := by decide +kernel
theorem dL_builds_565 : decode cL_builds 565 = .ok (.iaload, 1) := by decide +kernel
theorem dL_builds_566 : decode cL_builds 566 = .ok (.bipush 8, 2) := by decide +kernel
theorem dL_builds_568 : decode cL_builds 568 = .ok (.idiv, 1) := by decide +kernel
theorem dL_builds_569 : decode cL_builds 569 = .ok (.iaload, 1) := by decide +kernel
theorem dL_builds_570 : decode cL_builds 570 = .ok (.istore 13, 2) := by decide +kernel
theorem dL_builds_572 : decode cL_builds 572 = .ok (.iconst 0, 1) := by decide +kernel
theorem dL_builds_573 : decode cL_builds 573 = .ok (.istore 14, 2) := by decide +kernel
theorem dL_builds_575 : decode cL_builds 575 = .ok (.iload 14, 2) := by decide +kernel
theorem dL_builds_577 : decode cL_builds 577 = .ok (.iload 8, 2) := by decide +kernel
theorem dL_builds_579 : decode cL_builds 579 = .ok (.if_icmp .ge 56, 3) := by decide +kernel
theorem dL_builds_582 : decode cL_builds 582 = .ok (.iload 12, 2) := by decide +kernel
theorem dL_builds_584 : decode cL_builds 584 = .ok (.iload 13, 2) := by decide +kernel
theorem dL_builds_586 : decode cL_builds 586 = .ok (.if_icmp .le 49, 3) := by decide +kernel
theorem dL_builds_589 : decode cL_builds 589 = .ok (.aload 10, 2) := by decide +kernel
theorem dL_builds_591 : decode cL_builds 591 = .ok (.iload 14, 2) := by decide +kernel
theorem dL_builds_593 : decode cL_builds 593 = .ok (.aload 10, 2) := by decide +kernel
theorem dL_builds_595 : decode cL_builds 595 = .ok (.iload 14, 2) := by decide +kernel
theorem dL_builds_597 : decode cL_builds 597 = .ok (.iaload, 1) := by decide +kernel
theorem dL_builds_598 : decode cL_builds 598 = .ok (.iload 12, 2) := by decide +kernel
theorem dL_builds_600 : decode cL_builds 600 = .ok (.if_icmp .ne 8, 3) := by decide +kernel
theorem dL_builds_603 : decode cL_builds 603 = .ok (.iload 13, 2) := by decide +kernel
theorem dL_builds_605 : decode cL_builds 605 = .ok (.goto 23, 3) := by decide +kernel
theorem dL_builds_608 : decode cL_builds 608 = .ok (.aload 10, 2) := by decide +kernel
theorem dL_builds_610 : decode cL_builds 610 = .ok (.iload 14, 2) := by decide +kernel
theorem dL_builds_612 : decode cL_builds 612 = .ok (.iaload, 1) := by decide +kernel
theorem dL_builds_613 : decode cL_builds 613 = .ok (.iload 13, 2) := by decide +kernel
theorem dL_builds_615 : decode cL_builds 615 = .ok (.if_icmp .ne 8, 3) := by decide +kernel
theorem dL_builds_618 : decode cL_builds 618 = .ok (.iload 12, 2) := by decide +kernel
theorem dL_builds_620 : decode cL_builds 620 = .ok (.goto 8, 3) := by decide +kernel
theorem dL_builds_623 : decode cL_builds 623 = .ok (.aload 10, 2) := by decide +kernel
theorem dL_builds_625 : decode cL_builds 625 = .ok (.iload 14, 2) := by decide +kernel
theorem dL_builds_627 : decode cL_builds 627 = .ok (.iaload, 1) := by decide +kernel
theorem dL_builds_628 : decode cL_builds 628 = .ok (.iastore, 1) := by decide +kernel
theorem dL_builds_629 : decode cL_builds 629 = .ok (.iinc 14 1, 3) := by decide +kernel
theorem dL_builds_632 : decode cL_builds 632 = .ok (.goto (-57), 3) := by decide +kernel
theorem dL_builds_635 : decode cL_builds 635 = .ok (.iload 9, 2) := by decide +kernel
theorem dL_builds_637 : decode cL_builds 637 = .ok (.iload 12, 2) := by decide +kernel
theorem dL_builds_639 : decode cL_builds 639 = .ok (.iload 13, 2) := by decide +kernel
theorem dL_builds_641 : decode cL_builds 641 = .ok (.if_icmp .le 7, 3) := by decide +kernel
theorem dL_builds_644 : decode cL_builds 644 = .ok (.iconst 1, 1) := by decide +kernel
theorem dL_builds_645 : decode cL_builds 645 = .ok (.goto 4, 3) := by decide +kernel
theorem dL_builds_648 : decode cL_builds 648 = .ok (.iconst 0, 1) := by decide +kernel
theorem dL_builds_649 : decode cL_builds 649 = .ok (.iadd, 1) := by decide +kernel
theorem dL_builds_650 : decode cL_builds 650 = .ok (.istore 9, 2) := by decide +kernel
theorem dL_builds_652 : decode cL_builds 652 = .ok (.aload_n 3, 1) := by decide +kernel
theorem dL_builds_653 : decode cL_builds 653 = .ok (.iload 11, 2) := by decide +kernel
theorem dL_builds_655 : decode cL_builds 655 = .ok (.iload 12, 2) := by decide +kernel
theorem dL_builds_657 : decode cL_builds 657 = .ok (.iload 13, 2) := by decide +kernel
theorem dL_builds_659 : decode cL_builds 659 = .ok (.if_icmp .le 14, 3) := by decide +kernel
theorem dL_builds_662 : decode cL_builds 662 = .ok (.iload 13, 2) := by decide +kernel
theorem dL_builds_664 : decode cL_builds 664 = .ok (.bipush 8, 2) := by decide +kernel
theorem dL_builds_666 : decode cL_builds 666 = .ok (.iload 12, 2) := by decide +kernel
theorem dL_builds_668 : decode cL_builds 668 = .ok (.imul, 1) := by decide +kernel
theorem dL_builds_669 : decode cL_builds 669 = .ok (.iadd, 1) := by decide +kernel
theorem dL_builds_670 : decode cL_builds 670 = .ok (.goto 11, 3) := by decide +kernel
theorem dL_builds_673 : decode cL_builds 673 = .ok (.iload 12, 2) := by decide +kernel
theorem dL_builds_675 : decode cL_builds 675 = .ok (.bipush 8, 2) := by decide +kernel
theorem dL_builds_677 : decode cL_builds 677 = .ok (.iload 13, 2) := by decide +kernel
theorem dL_builds_679 : decode cL_builds 679 = .ok (.imul, 1) := by decide +kernel
theorem dL_builds_680 : decode cL_builds 680 = .ok (.iadd, 1) := by decide +kernel
theorem dL_builds_681 : decode cL_builds 681 = .ok (.iastore, 1) := by decide +kernel
theorem dL_builds_682 : decode cL_builds 682 = .ok (.iinc 11 1, 3) := by decide +kernel
theorem dL_builds_685 : decode cL_builds 685 = .ok (.goto (-146), 3) := by decide +kernel
theorem dL_builds_688 : decode cL_builds 688 = .ok (.aload_n 0, 1) := by decide +kernel
theorem dL_builds_689 : decode cL_builds 689 = .ok (.invokevirtual 278, 3) := by decide +kernel
theorem dL_builds_692 : decode cL_builds 692 = .ok (.iload 9, 2) := by decide +kernel
theorem dL_builds_694 : decode cL_builds 694 = .ok (.if_icmp .ne 7, 3) := by decide +kernel
theorem dL_builds_697 : decode cL_builds 697 = .ok (.iconst 1, 1) := by decide +kernel
theorem dL_builds_698 : decode cL_builds 698 = .ok (.goto 4, 3) := by decide +kernel
theorem dL_builds_701 : decode cL_builds 701 = .ok (.iconst 0, 1) := by decide +kernel
theorem dL_builds_702 : decode cL_builds 702 = .ok (.ireturn, 1) := by decide +kernel
theorem dL_builds_703 : decode cL_builds 703 = .ok (.bipush 24, 2) := by decide +kernel
theorem dL_builds_705 : decode cL_builds 705 = .ok (.newarray .int, 2) := by decide +kernel
theorem dL_builds_707 : decode cL_builds 707 = .ok (.astore 10, 2) := by decide +kernel
theorem dL_builds_709 : decode cL_builds 709 = .ok (.iconst 0, 1) := by decide +kernel
theorem dL_builds_710 : decode cL_builds 710 = .ok (.istore 11, 2) := by decide +kernel
theorem dL_builds_712 : decode cL_builds 712 = .ok (.iload 11, 2) := by decide +kernel
theorem dL_builds_714 : decode cL_builds 714 = .ok (.aload 7, 2) := by decide +kernel
theorem dL_builds_716 : decode cL_builds 716 = .ok (.iconst 1, 1) := by decide +kernel
theorem dL_builds_717 : decode cL_builds 717 = .ok (.iaload, 1) := by decide +kernel
theorem dL_builds_718 : decode cL_builds 718 = .ok (.if_icmp .ge 22, 3) := by decide +kernel
theorem dL_builds_721 : decode cL_builds 721 = .ok (.aload 10, 2) := by decide +kernel
theorem dL_builds_723 : decode cL_builds 723 = .ok (.iload 11, 2) := by decide +kernel
theorem dL_builds_725 : decode cL_builds 725 = .ok (.iload 11, 2) := by decide +kernel
theorem dL_builds_727 : decode cL_builds 727 = .ok (.aload_n 3, 1) := by decide +kernel
theorem dL_builds_728 : decode cL_builds 728 = .ok (.aload 7, 2) := by decide +kernel
theorem dL_builds_730 : decode cL_builds 730 = .ok (.invokestatic 198, 3) := by decide +kernel
theorem dL_builds_733 : decode cL_builds 733 = .ok (.iastore, 1) := by decide +kernel
theorem dL_builds_734 : decode cL_builds 734 = .ok (.iinc 11 1, 3) := by decide +kernel
theorem dL_builds_737 : decode cL_builds 737 = .ok (.goto (-25), 3) := by decide +kernel
theorem dL_builds_740 : decode cL_builds 740 = .ok (.aload 7, 2) := by decide +kernel
theorem dL_builds_742 : decode cL_builds 742 = .ok (.iconst 1, 1) := by decide +kernel
theorem dL_builds_743 : decode cL_builds 743 = .ok (.iaload, 1) := by decide +kernel
theorem dL_builds_744 : decode cL_builds 744 = .ok (.istore 11, 2) := by decide +kernel
theorem dL_builds_746 : decode cL_builds 746 = .ok (.aload 7, 2) := by decide +kernel
theorem dL_builds_748 : decode cL_builds 748 = .ok (.iconst 1, 1) := by decide +kernel
theorem dL_builds_749 : decode cL_builds 749 = .ok (.iconst 0, 1) := by decide +kernel
theorem dL_builds_750 : decode cL_builds 750 = .ok (.iastore, 1) := by decide +kernel
theorem dL_builds_751 : decode cL_builds 751 = .ok (.iconst 0, 1) := by decide +kernel
theorem dL_builds_752 : decode cL_builds 752 = .ok (.istore 12, 2) := by decide +kernel
theorem dL_builds_754 : decode cL_builds 754 = .ok (.iload 12, 2) := by decide +kernel
theorem dL_builds_756 : decode cL_builds 756 = .ok (.iload 11, 2) := by decide +kernel
theorem dL_builds_758 : decode cL_builds 758 = .ok (.if_icmp .ge 37, 3) := by decide +kernel
theorem dL_builds_761 : decode cL_builds 761 = .ok (.aload 10, 2) := by decide +kernel
theorem dL_builds_763 : decode cL_builds 763 = .ok (.iload 12, 2) := by decide +kernel
theorem dL_builds_765 : decode cL_builds 765 = .ok (.iaload, 1) := by decide +kernel
theorem dL_builds_766 : decode cL_builds 766 = .ok (.ifCond .le 23, 3) := by decide +kernel
theorem dL_builds_769 : decode cL_builds 769 = .ok (.aload_n 3, 1) := by decide +kernel
theorem dL_builds_770 : decode cL_builds 770 = .ok (.iload 12, 2) := by decide +kernel
theorem dL_builds_772 : decode cL_builds 772 = .ok (.iaload, 1) := by decide +kernel
theorem dL_builds_773 : decode cL_builds 773 = .ok (.bipush 8, 2) := by decide +kernel
theorem dL_builds_775 : decode cL_builds 775 = .ok (.irem, 1) := by decide +kernel
theorem dL_builds_776 : decode cL_builds 776 = .ok (.aload_n 3, 1) := by decide +kernel
theorem dL_builds_777 : decode cL_builds 777 = .ok (.iload 12, 2) := by decide +kernel
theorem dL_builds_779 : decode cL_builds 779 = .ok (.iaload, 1) := by decide +kernel
theorem dL_builds_780 : decode cL_builds 780 = .ok (.bipush 8, 2) := by decide +kernel
theorem dL_builds_782 : decode cL_builds 782 = .ok (.idiv, 1) := by decide +kernel
theorem dL_builds_783 : decode cL_builds 783 = .ok (.aload_n 3, 1) := by decide +kernel
theorem dL_builds_784 : decode cL_builds 784 = .ok (.aload 7, 2) := by decide +kernel
theorem dL_builds_786 : decode cL_builds 786 = .ok (.invokestatic 47, 3) := by decide +kernel
theorem dL_builds_789 : decode cL_builds 789 = .ok (.iinc 12 1, 3) := by decide +kernel
theorem dL_builds_792 : decode cL_builds 792 = .ok (.goto (-38), 3) := by decide +kernel
theorem dL_builds_795 : decode cL_builds 795 = .ok (.aload_n 0, 1) := by decide +kernel
theorem dL_builds_796 : decode cL_builds 796 = .ok (.invokevirtual 281, 3) := by decide +kernel
theorem dL_builds_799 : decode cL_builds 799 = .ok (.iload 11, 2) := by decide +kernel
theorem dL_builds_801 : decode cL_builds 801 = .ok (.aload 7, 2) := by decide +kernel
theorem dL_builds_803 : decode cL_builds 803 = .ok (.iconst 1, 1) := by decide +kernel
theorem dL_builds_804 : decode cL_builds 804 = .ok (.iaload, 1) := by decide +kernel
theorem dL_builds_805 : decode cL_builds 805 = .ok (.isub, 1) := by decide +kernel
theorem dL_builds_806 : decode cL_builds 806 = .ok (.if_icmp .ne 7, 3) := by decide +kernel
theorem dL_builds_809 : decode cL_builds 809 = .ok (.iconst 1, 1) := by decide +kernel
theorem dL_builds_810 : decode cL_builds 810 = .ok (.goto 4, 3) := by decide +kernel
theorem dL_builds_813 : decode cL_builds 813 = .ok (.iconst 0, 1) := by decide +kernel
theorem dL_builds_814 : decode cL_builds 814 = .ok (.ireturn, 1) := by decide +kernel
theorem dL_types_0 : decode cL_types 0 = .ok (.iconst 1, 1) := by decide +kernel
theorem dL_types_1 : decode cL_types 1 = .ok (.iload_n 1, 1) := by decide +kernel
theorem dL_types_2 : decode cL_types 2 = .ok (.bipush 8, 2) := by decide +kernel
theorem dL_types_4 : decode cL_types 4 = .ok (.invokestatic 161, 3) := by decide +kernel
theorem dL_types_7 : decode cL_types 7 = .ok (.iadd, 1) := by decide +kernel
theorem dL_types_8 : decode cL_types 8 = .ok (.istore 4, 2) := by decide +kernel
theorem dL_types_10 : decode cL_types 10 = .ok (.lconst 0, 1) := by decide +kernel
theorem dL_types_11 : decode cL_types 11 = .ok (.lstore 5, 2) := by decide +kernel
theorem dL_types_13 : decode cL_types 13 = .ok (.iconst 0, 1) := by decide +kernel
theorem dL_types_14 : decode cL_types 14 = .ok (.istore 7, 2) := by decide +kernel
theorem dL_types_16 : decode cL_types 16 = .ok (.iload 7, 2) := by decide +kernel
theorem dL_types_18 : decode cL_types 18 = .ok (.iload 4, 2) := by decide +kernel
theorem dL_types_20 : decode cL_types 20 = .ok (.if_icmp .ge 124, 3) := by decide +kernel
theorem dL_types_23 : decode cL_types 23 = .ok (.aload_n 3, 1) := by decide +kernel
theorem dL_types_24 : decode cL_types 24 = .ok (.iconst 2, 1) := by decide +kernel
theorem dL_types_25 : decode cL_types 25 = .ok (.iaload, 1) := by decide +kernel
theorem dL_types_26 : decode cL_types 26 = .ok (.iload 7, 2) := by decide +kernel
theorem dL_types_28 : decode cL_types 28 = .ok (.iadd, 1) := by decide +kernel
theorem dL_types_29 : decode cL_types 29 = .ok (.iconst 4, 1) := by decide +kernel
theorem dL_types_30 : decode cL_types 30 = .ok (.irem, 1) := by decide +kernel
theorem dL_types_31 : decode cL_types 31 = .ok (.istore 8, 2) := by decide +kernel
theorem dL_types_33 : decode cL_types 33 = .ok (.iload_n 1, 1) := by decide +kernel
theorem dL_types_34 : decode cL_types 34 = .ok (.iload 7, 2) := by decide +kernel
theorem dL_types_36 : decode cL_types 36 = .ok (.iconst 2, 1) := by decide +kernel
theorem dL_types_37 : decode cL_types 37 = .ok (.iadd, 1) := by decide +kernel
theorem dL_types_38 : decode cL_types 38 = .ok (.ishr, 1) := by decide +kernel
theorem dL_types_39 : decode cL_types 39 = .ok (.bipush 17, 2) := by decide +kernel
theorem dL_types_41 : decode cL_types 41 = .ok (.invokestatic 161, 3) := by decide +kernel
theorem dL_types_44 : decode cL_types 44 = .ok (.ifCond .ne 8, 3) := by decide +kernel
theorem dL_types_47 : decode cL_types 47 = .ok (.bipush 47, 2) := by decide +kernel
theorem dL_types_49 : decode cL_types 49 = .ok (.goto 73, 3) := by decide +kernel
theorem dL_types_52 : decode cL_types 52 = .ok (.iload 8, 2) := by decide +kernel
theorem dL_types_54 : decode cL_types 54 = .ok (.iconst 1, 1) := by decide +kernel
theorem dL_types_55 : decode cL_types 55 = .ok (.if_icmp .ne 8, 3) := by decide +kernel
theorem dL_types_58 : decode cL_types 58 = .ok (.bipush 58, 2) := by decide +kernel
theorem dL_types_60 : decode cL_types 60 = .ok (.goto 62, 3) := by decide +kernel
theorem dL_types_63 : decode cL_types 63 = .ok (.iload 8, 2) := by decide +kernel
theorem dL_types_65 : decode cL_types 65 = .ok (.iconst 3, 1) := by decide +kernel
theorem dL_types_66 : decode cL_types 66 = .ok (.if_icmp .ne 26, 3) := by decide +kernel
theorem dL_types_69 : decode cL_types 69 = .ok (.iload_n 1, 1) := by decide +kernel
theorem dL_types_70 : decode cL_types 70 = .ok (.iload 7, 2) := by decide +kernel
theorem dL_types_72 : decode cL_types 72 = .ok (.iconst 1, 1) := by decide +kernel
theorem dL_types_73 : decode cL_types 73 = .ok (.iadd, 1) := by decide +kernel
theorem dL_types_74 : decode cL_types 74 = .ok (.ishr, 1) := by decide +kernel
theorem dL_types_75 : decode cL_types 75 = .ok (.iconst 3, 1) := by decide +kernel
theorem dL_types_76 : decode cL_types 76 = .ok (.invokestatic 161, 3) := by decide +kernel
theorem dL_types_79 : decode cL_types 79 = .ok (.ifCond .ne 8, 3) := by decide +kernel
theorem dL_types_82 : decode cL_types 82 = .ok (.bipush 32, 2) := by decide +kernel
theorem dL_types_84 : decode cL_types 84 = .ok (.goto 38, 3) := by decide +kernel
theorem dL_types_87 : decode cL_types 87 = .ok (.bipush 47, 2) := by decide +kernel
theorem dL_types_89 : decode cL_types 89 = .ok (.goto 33, 3) := by decide +kernel
theorem dL_types_92 : decode cL_types 92 = .ok (.bipush 48, 2) := by decide +kernel
theorem dL_types_94 : decode cL_types 94 = .ok (.iload_n 1, 1) := by decide +kernel
theorem dL_types_95 : decode cL_types 95 = .ok (.iload 7, 2) := by decide +kernel
theorem dL_types_97 : decode cL_types 97 = .ok (.iconst 3, 1) := by decide +kernel
theorem dL_types_98 : decode cL_types 98 = .ok (.iadd, 1) := by decide +kernel
theorem dL_types_99 : decode cL_types 99 = .ok (.ishr, 1) := by decide +kernel
theorem dL_types_100 : decode cL_types 100 = .ok (.aload_n 3, 1) := by decide +kernel
theorem dL_types_101 : decode cL_types 101 = .ok (.iconst 0, 1) := by decide +kernel
theorem dL_types_102 : decode cL_types 102 = .ok (.iaload, 1) := by decide +kernel
theorem dL_types_103 : decode cL_types 103 = .ok (.iload_n 1, 1) := by decide +kernel
theorem dL_types_104 : decode cL_types 104 = .ok (.bipush 9, 2) := by decide +kernel
theorem dL_types_106 : decode cL_types 106 = .ok (.invokestatic 161, 3) := by decide +kernel
theorem dL_types_109 : decode cL_types 109 = .ok (.ifCond .ne 7, 3) := by decide +kernel
theorem dL_types_112 : decode cL_types 112 = .ok (.iconst 1, 1) := by decide +kernel
theorem dL_types_113 : decode cL_types 113 = .ok (.goto 4, 3) := by decide +kernel
theorem dL_types_116 : decode cL_types 116 = .ok (.iconst 0, 1) := by decide +kernel
theorem dL_types_117 : decode cL_types 117 = .ok (.iadd, 1) := by decide +kernel
theorem dL_types_118 : decode cL_types 118 = .ok (.invokestatic 161, 3) := by decide +kernel
theorem dL_types_121 : decode cL_types 121 = .ok (.iadd, 1) := by decide +kernel
theorem dL_types_122 : decode cL_types 122 = .ok (.istore 9, 2) := by decide +kernel
theorem dL_types_124 : decode cL_types 124 = .ok (.lload 5, 2) := by decide +kernel
theorem dL_types_126 : decode cL_types 126 = .ok (.iload 9, 2) := by decide +kernel
theorem dL_types_128 : decode cL_types 128 = .ok (.i2l, 1) := by decide +kernel
theorem dL_types_129 : decode cL_types 129 = .ok (.bipush 8, 2) := by decide +kernel
theorem dL_types_131 : decode cL_types 131 = .ok (.iload 7, 2) := by decide +kernel
theorem dL_types_133 : decode cL_types 133 = .ok (.imul, 1) := by decide +kernel
theorem dL_types_134 : decode cL_types 134 = .ok (.lshl, 1) := by decide +kernel
theorem dL_types_135 : decode cL_types 135 = .ok (.lor, 1) := by decide +kernel
theorem dL_types_136 : decode cL_types 136 = .ok (.lstore 5, 2) := by decide +kernel
theorem dL_types_138 : decode cL_types 138 = .ok (.iinc 7 1, 3) := by decide +kernel
theorem dL_types_141 : decode cL_types 141 = .ok (.goto (-125), 3) := by decide +kernel
theorem dL_types_144 : decode cL_types 144 = .ok (.aload_n 3, 1) := by decide +kernel
theorem dL_types_145 : decode cL_types 145 = .ok (.iconst 2, 1) := by decide +kernel
theorem dL_types_146 : decode cL_types 146 = .ok (.iaload, 1) := by decide +kernel
theorem dL_types_147 : decode cL_types 147 = .ok (.iload 4, 2) := by decide +kernel
theorem dL_types_149 : decode cL_types 149 = .ok (.iadd, 1) := by decide +kernel
theorem dL_types_150 : decode cL_types 150 = .ok (.bipush 41, 2) := by decide +kernel
theorem dL_types_152 : decode cL_types 152 = .ok (.if_icmp .ge 7, 3) := by decide +kernel
theorem dL_types_155 : decode cL_types 155 = .ok (.iconst 1, 1) := by decide +kernel
theorem dL_types_156 : decode cL_types 156 = .ok (.goto 4, 3) := by decide +kernel
theorem dL_types_159 : decode cL_types 159 = .ok (.iconst 0, 1) := by decide +kernel
theorem dL_types_160 : decode cL_types 160 = .ok (.istore 7, 2) := by decide +kernel
theorem dL_types_162 : decode cL_types 162 = .ok (.iconst 0, 1) := by decide +kernel
theorem dL_types_163 : decode cL_types 163 = .ok (.istore 8, 2) := by decide +kernel
theorem dL_types_165 : decode cL_types 165 = .ok (.iload 8, 2) := by decide +kernel
theorem dL_types_167 : decode cL_types 167 = .ok (.iload 4, 2) := by decide +kernel
theorem dL_types_169 : decode cL_types 169 = .ok (.if_icmp .ge 39, 3) := by decide +kernel
theorem dL_types_172 : decode cL_types 172 = .ok (.iload 7, 2) := by decide +kernel
theorem dL_types_174 : decode cL_types 174 = .ok (.ifCond .eq 34, 3) := by decide +kernel
theorem dL_types_177 : decode cL_types 177 = .ok (.aload_n 2, 1) := by decide +kernel
theorem dL_types_178 : decode cL_types 178 = .ok (.aload_n 3, 1) := by decide +kernel
theorem dL_types_179 : decode cL_types 179 = .ok (.iconst 2, 1) := by decide +kernel
theorem dL_types_180 : decode cL_types 180 = .ok (.iaload, 1) := by decide +kernel
theorem dL_types_181 : decode cL_types 181 = .ok (.lload 5, 2) := by decide +kernel
theorem dL_types_183 : decode cL_types 183 = .ok (.bipush 8, 2) := by decide +kernel
theorem dL_types_185 : decode cL_types 185 = .ok (.iload 8, 2) := by decide +kernel
theorem dL_types_187 : decode cL_types 187 = .ok (.imul, 1) := by decide +kernel
theorem dL_types_188 : decode cL_types 188 = .ok (.lshr, 1) := by decide +kernel
theorem dL_types_189 : decode cL_types 189 = .ok (.ldc2_w 284, 3) := by decide +kernel
theorem dL_types_192 : decode cL_types 192 = .ok (.land, 1) := by decide +kernel
theorem dL_types_193 : decode cL_types 193 = .ok (.l2i, 1) := by decide +kernel
theorem dL_types_194 : decode cL_types 194 = .ok (.iastore, 1) := by decide +kernel
theorem dL_types_195 : decode cL_types 195 = .ok (.aload_n 3, 1) := by decide +kernel
theorem dL_types_196 : decode cL_types 196 = .ok (.iconst 2, 1) := by decide +kernel
theorem dL_types_197 : decode cL_types 197 = .ok (.dup2, 1) := by decide +kernel
theorem dL_types_198 : decode cL_types 198 = .ok (.iaload, 1) := by decide +kernel
theorem dL_types_199 : decode cL_types 199 = .ok (.iconst 1, 1) := by decide +kernel
theorem dL_types_200 : decode cL_types 200 = .ok (.iadd, 1) := by decide +kernel
theorem dL_types_201 : decode cL_types 201 = .ok (.iastore, 1) := by decide +kernel
theorem dL_types_202 : decode cL_types 202 = .ok (.iinc 8 1, 3) := by decide +kernel
theorem dL_types_205 : decode cL_types 205 = .ok (.goto (-40), 3) := by decide +kernel
theorem dL_types_208 : decode cL_types 208 = .ok (.aload_n 0, 1) := by decide +kernel
theorem dL_types_209 : decode cL_types 209 = .ok (.iconst 3, 1) := by decide +kernel
theorem dL_types_210 : decode cL_types 210 = .ok (.iload 4, 2) := by decide +kernel
theorem dL_types_212 : decode cL_types 212 = .ok (.iconst 0, 1) := by decide +kernel
theorem dL_types_213 : decode cL_types 213 = .ok (.lload 5, 2) := by decide +kernel
theorem dL_types_215 : decode cL_types 215 = .ok (.invokestatic 267, 3) := by decide +kernel
theorem dL_types_218 : decode cL_types 218 = .ok (.iload 7, 2) := by decide +kernel
theorem dL_types_220 : decode cL_types 220 = .ok (.ifCond .eq 9, 3) := by decide +kernel
theorem dL_types_223 : decode cL_types 223 = .ok (.aload_n 3, 1) := by decide +kernel
theorem dL_types_224 : decode cL_types 224 = .ok (.iconst 2, 1) := by decide +kernel
theorem dL_types_225 : decode cL_types 225 = .ok (.iaload, 1) := by decide +kernel
theorem dL_types_226 : decode cL_types 226 = .ok (.goto 6, 3) := by decide +kernel
theorem dL_types_229 : decode cL_types 229 = .ok (.sipush (-1003), 3) := by decide +kernel
theorem dL_types_232 : decode cL_types 232 = .ok (.if_icmp .ne 7, 3) := by decide +kernel
theorem dL_types_235 : decode cL_types 235 = .ok (.iconst 1, 1) := by decide +kernel
theorem dL_types_236 : decode cL_types 236 = .ok (.goto 4, 3) := by decide +kernel
theorem dL_types_239 : decode cL_types 239 = .ok (.iconst 0, 1) := by decide +kernel
theorem dL_types_240 : decode cL_types 240 = .ok (.ireturn, 1) := by decide +kernel
theorem dL_law_0 : decode cL_law 0 = .ok (.new 11, 3) := by decide +kernel
theorem dL_law_3 : decode cL_law 3 = .ok (.dup, 1) := by decide +kernel
theorem dL_law_4 : decode cL_law 4 = .ok (.invokespecial 286, 3) := by decide +kernel
theorem dL_law_7 : decode cL_law 7 = .ok (.astore_n 1, 1) := by decide +kernel
theorem dL_law_8 : decode cL_law 8 = .ok (.bipush 24, 2) := by decide +kernel
theorem dL_law_10 : decode cL_law 10 = .ok (.newarray .int, 2) := by decide +kernel
theorem dL_law_12 : decode cL_law 12 = .ok (.astore_n 2, 1) := by decide +kernel
theorem dL_law_13 : decode cL_law 13 = .ok (.bipush 40, 2) := by decide +kernel
theorem dL_law_15 : decode cL_law 15 = .ok (.newarray .int, 2) := by decide +kernel
theorem dL_law_17 : decode cL_law 17 = .ok (.astore_n 3, 1) := by decide +kernel
theorem dL_law_18 : decode cL_law 18 = .ok (.bipush 6, 2) := by decide +kernel
theorem dL_law_20 : decode cL_law 20 = .ok (.newarray .int, 2) := by decide +kernel
theorem dL_law_22 : decode cL_law 22 = .ok (.astore 4, 2) := by decide +kernel
theorem dL_law_24 : decode cL_law 24 = .ok (.bipush 36, 2) := by decide +kernel
theorem dL_law_26 : decode cL_law 26 = .ok (.newarray .int, 2) := by decide +kernel
theorem dL_law_28 : decode cL_law 28 = .ok (.astore 5, 2) := by decide +kernel
theorem dL_law_30 : decode cL_law 30 = .ok (.bipush 6, 2) := by decide +kernel
theorem dL_law_32 : decode cL_law 32 = .ok (.newarray .int, 2) := by decide +kernel
theorem dL_law_34 : decode cL_law 34 = .ok (.astore 6, 2) := by decide +kernel
theorem dL_law_36 : decode cL_law 36 = .ok (.iconst 4, 1) := by decide +kernel
theorem dL_law_37 : decode cL_law 37 = .ok (.newarray .int, 2) := by decide +kernel
theorem dL_law_39 : decode cL_law 39 = .ok (.astore 7, 2) := by decide +kernel
theorem dL_law_41 : decode cL_law 41 = .ok (.aload 7, 2) := by decide +kernel
theorem dL_law_43 : decode cL_law 43 = .ok (.iconst 0, 1) := by decide +kernel
theorem dL_law_44 : decode cL_law 44 = .ok (.iconst 2, 1) := by decide +kernel
theorem dL_law_45 : decode cL_law 45 = .ok (.iastore, 1) := by decide +kernel
theorem dL_law_46 : decode cL_law 46 = .ok (.iconst 1, 1) := by decide +kernel
theorem dL_law_47 : decode cL_law 47 = .ok (.istore 8, 2) := by decide +kernel
theorem dL_law_49 : decode cL_law 49 = .ok (.iconst 0, 1) := by decide +kernel
theorem dL_law_50 : decode cL_law 50 = .ok (.istore 9, 2) := by decide +kernel
theorem dL_law_52 : decode cL_law 52 = .ok (.iload 9, 2) := by decide +kernel
theorem dL_law_54 : decode cL_law 54 = .ok (.bipush 70, 2) := by decide +kernel
theorem dL_law_56 : decode cL_law 56 = .ok (.if_icmp .ge 587, 3) := by decide +kernel
theorem dL_law_59 : decode cL_law 59 = .ok (.iload 8, 2) := by decide +kernel
theorem dL_law_61 : decode cL_law 61 = .ok (.ifCond .eq 582, 3) := by decide +kernel
theorem dL_law_64 : decode cL_law 64 = .ok (.aload_n 0, 1) := by decide +kernel
theorem dL_law_65 : decode cL_law 65 = .ok (.iload 9, 2) := by decide +kernel
theorem dL_law_67 : decode cL_law 67 = .ok (.invokestatic 287, 3) := by decide +kernel
theorem dL_law_70 : decode cL_law 70 = .ok (.istore 10, 2) := by decide +kernel
theorem dL_law_72 : decode cL_law 72 = .ok (.iload 10, 2) := by decide +kernel
theorem dL_law_74 : decode cL_law 74 = .ok (.bipush 30, 2) := by decide +kernel
theorem dL_law_76 : decode cL_law 76 = .ok (.invokestatic 161, 3) := by decide +kernel
theorem dL_law_79 : decode cL_law 79 = .ok (.istore 11, 2) := by decide +kernel
theorem dL_law_81 : decode cL_law 81 = .ok (.iload 10, 2) := by decide +kernel
theorem dL_law_83 : decode cL_law 83 = .ok (.iconst 4, 1) := by decide +kernel
theorem dL_law_84 : decode cL_law 84 = .ok (.ishr, 1) := by decide +kernel
theorem dL_law_85 : decode cL_law 85 = .ok (.istore 12, 2) := by decide +kernel
theorem dL_law_87 : decode cL_law 87 = .ok (.iload 11, 2) := by decide +kernel
theorem dL_law_89 : decode cL_law 89 = .ok (.ifCond .ne 76, 3) := by decide +kernel
theorem dL_law_92 : decode cL_law 92 = .ok (.aload 7, 2) := by decide +kernel
theorem dL_law_94 : decode cL_law 94 = .ok (.iconst 1, 1) := by decide +kernel
theorem dL_law_95 : decode cL_law 95 = .ok (.iaload, 1) := by decide +kernel
theorem dL_law_96 : decode cL_law 96 = .ok (.istore 13, 2) := by decide +kernel
theorem dL_law_98 : decode cL_law 98 = .ok (.aload 7, 2) := by decide +kernel
theorem dL_law_100 : decode cL_law 100 = .ok (.iconst 0, 1) := by decide +kernel
theorem dL_law_101 : decode cL_law 101 = .ok (.iconst 2, 1) := by decide +kernel
theorem dL_law_102 : decode cL_law 102 = .ok (.iload 12, 2) := by decide +kernel
theorem dL_law_104 : decode cL_law 104 = .ok (.iconst 4, 1) := by decide +kernel
theorem dL_law_105 : decode cL_law 105 = .ok (.invokestatic 161, 3) := by decide +kernel
theorem dL_law_108 : decode cL_law 108 = .ok (.iadd, 1) := by decide +kernel
theorem dL_law_109 : decode cL_law 109 = .ok (.iastore, 1) := by decide +kernel
theorem dL_law_110 : decode cL_law 110 = .ok (.aload 7, 2) := by decide +kernel
theorem dL_law_112 : decode cL_law 112 = .ok (.iconst 1, 1) := by decide +kernel
theorem dL_law_113 : decode cL_law 113 = .ok (.iconst 0, 1) := by decide +kernel
theorem dL_law_114 : decode cL_law 114 = .ok (.iastore, 1) := by decide +kernel
theorem dL_law_115 : decode cL_law 115 = .ok (.aload 4, 2) := by decide +kernel
theorem dL_law_117 : decode cL_law 117 = .ok (.invokestatic 263, 3) := by decide +kernel
theorem dL_law_120 : decode cL_law 120 = .ok (.iconst 0, 1) := by decide +kernel
theorem dL_law_121 : decode cL_law 121 = .ok (.istore 14, 2) := by decide +kernel
theorem dL_law_123 : decode cL_law 123 = .ok (.iload 14, 2) := by decide +kernel
theorem dL_law_125 : decode cL_law 125 = .ok (.bipush 36, 2) := by decide +kernel
theorem dL_law_127 : decode cL_law 127 = .ok (.if_icmp .ge 15, 3) := by decide +kernel
theorem dL_law_130 : decode cL_law 130 = .ok (.aload 5, 2) := by decide +kernel
theorem dL_law_132 : decode cL_law 132 = .ok (.iload 14, 2) := by decide +kernel
theorem dL_law_134 : decode cL_law 134 = .ok (.iconst 0, 1) := by decide +kernel
theorem dL_law_135 : decode cL_law 135 = .ok (.iastore, 1) := by decide +kernel
theorem dL_law_136 : decode cL_law 136 = .ok (.iinc 14 1, 3) := by decide +kernel
theorem dL_law_139 : decode cL_law 139 = .ok (.goto (-16), 3) := by decide +kernel
theorem dL_law_142 : decode cL_law 142 = .ok (.aload_n 1, 1) := by decide +kernel
theorem dL_law_143 : decode cL_law 143 = .ok (.aload 7, 2) := by decide +kernel
theorem dL_law_145 : decode cL_law 145 = .ok (.iconst 0, 1) := by decide +kernel
theorem dL_law_146 : decode cL_law 146 = .ok (.iaload, 1) := by decide +kernel
theorem dL_law_147 : decode cL_law 147 = .ok (.invokevirtual 290, 3) := by decide +kernel
theorem dL_law_150 : decode cL_law 150 = .ok (.iload 13, 2) := by decide +kernel
theorem dL_law_152 : decode cL_law 152 = .ok (.if_icmp .ne 7, 3) := by decide +kernel
theorem dL_law_155 : decode cL_law 155 = .ok (.iconst 1, 1) := by decide +kernel
theorem dL_law_156 : decode cL_law 156 = .ok (.goto 4, 3) := by decide +kernel
theorem dL_law_159 : decode cL_law 159 = .ok (.iconst 0, 1) := by decide +kernel
theorem dL_law_160 : decode cL_law 160 = .ok (.istore 8, 2) := by decide +kernel
theorem dL_law_162 : decode cL_law 162 = .ok (.goto 440, 3) := by decide +kernel
theorem dL_law_165 : decode cL_law 165 = .ok (.iload 11, 2) := by decide +kernel
theorem dL_law_167 : decode cL_law 167 = .ok (.bipush 17, 2) := by decide +kernel
theorem dL_law_169 : decode cL_law 169 = .ok (.if_icmp .ge 71, 3) := by decide +kernel
theorem dL_law_172 : decode cL_law 172 = .ok (.aload_n 1, 1) := by decide +kernel
theorem dL_law_173 : decode cL_law 173 = .ok (.iload 11, 2) := by decide +kernel
theorem dL_law_175 : decode cL_law 175 = .ok (.bipush 9, 2) := by decide +kernel
theorem dL_law_177 : decode cL_law 177 = .ok (.if_icmp .ge 7, 3) := by decide +kernel
theorem dL_law_180 : decode cL_law 180 = .ok (.iconst 0, 1) := by decide +kernel
theorem dL_law_181 : decode cL_law 181 = .ok (.goto 41, 3) := by decide +kernel
theorem dL_law_184 : decode cL_law 184 = .ok (.iload 11, 2) := by decide +kernel
theorem dL_law_186 : decode cL_law 186 = .ok (.bipush 9, 2) := by decide +kernel
theorem dL_law_188 : decode cL_law 188 = .ok (.if_icmp .ne 7, 3) := by decide +kernel
theorem dL_law_191 : decode cL_law 191 = .ok (.iconst 1, 1) := by decide +kernel
theorem dL_law_192 : decode cL_law 192 = .ok (.goto 30, 3) := by decide +kernel
theorem dL_law_195 : decode cL_law 195 = .ok (.iload 11, 2) := by decide +kernel
theorem dL_law_197 : decode cL_law 197 = .ok (.bipush 12, 2) := by decide +kernel
theorem dL_law_199 : decode cL_law 199 = .ok (.if_icmp .ge 7, 3) := by decide +kernel
theorem dL_law_202 : decode cL_law 202 = .ok (.iconst 2, 1) := by decide +kernel
theorem dL_law_203 : decode cL_law 203 = .ok (.goto 19, 3) := by decide +kernel
theorem dL_law_206 : decode cL_law 206 = .ok (.iload 11, 2) := by decide +kernel
theorem dL_law_208 : decode cL_law 208 = .ok (.bipush 14, 2) := by decide +kernel
theorem dL_law_210 : decode cL_law 210 = .ok (.if_icmp .ge 7, 3) := by decide +kernel
theorem dL_law_213 : decode cL_law 213 = .ok (.iconst 3, 1) := by decide +kernel
theorem dL_law_214 : decode cL_law 214 = .ok (.goto 8, 3) := by decide +kernel
theorem dL_law_217 : decode cL_law 217 = .ok (.iload 11, 2) := by decide +kernel
theorem dL_law_219 : decode cL_law 219 = .ok (.bipush 10, 2) := by decide +kernel
theorem dL_law_221 : decode cL_law 221 = .ok (.isub, 1) := by decide +kernel
theorem dL_law_222 : decode cL_law 222 = .ok (.iload 12, 2) := by decide +kernel
theorem dL_law_224 : decode cL_law 224 = .ok (.aload_n 2, 1) := by decide +kernel
theorem dL_law_225 : decode cL_law 225 = .ok (.aload_n 3, 1) := by decide +kernel
theorem dL_law_226 : decode cL_law 226 = .ok (.aload 4, 2) := by decide +kernel
theorem dL_law_228 : decode cL_law 228 = .ok (.aload 5, 2) := by decide +kernel
theorem dL_law_230 : decode cL_law 230 = .ok (.aload 7, 2) := by decide +kernel
theorem dL_law_232 : decode cL_law 232 = .ok (.invokestatic 293, 3) := by decide +kernel
theorem dL_law_235 : decode cL_law 235 = .ok (.istore 8, 2) := by decide +kernel
theorem dL_law_237 : decode cL_law 237 = .ok (.goto 365, 3) := by decide +kernel
theorem dL_law_240 : decode cL_law 240 = .ok (.iload 11, 2) := by decide +kernel
theorem dL_law_242 : decode cL_law 242 = .ok (.bipush 20, 2) := by decide +kernel
theorem dL_law_244 : decode cL_law 244 = .ok (.if_icmp .ge 17, 3) := by decide +kernel
theorem dL_law_247 : decode cL_law 247 = .ok (.aload_n 1, 1) := by decide +kernel
theorem dL_law_248 : decode cL_law 248 = .ok (.iload 12, 2) := by decide +kernel
theorem dL_law_250 : decode cL_law 250 = .ok (.aload_n 3, 1) := by decide +kernel
theorem dL_law_251 : decode cL_law 251 = .ok (.aload 7, 2) := by decide +kernel
theorem dL_law_253 : decode cL_law 253 = .ok (.invokestatic 297, 3) := by decide +kernel
theorem dL_law_256 : decode cL_law 256 = .ok (.istore 8, 2) := by decide +kernel
theorem dL_law_258 : decode cL_law 258 = .ok (.goto 344, 3) := by decide +kernel
theorem dL_law_261 : decode cL_law 261 = .ok (.iload 11, 2) := by decide +kernel
theorem dL_law_263 : decode cL_law 263 = .ok (.bipush 22, 2) := by decide +kernel
theorem dL_law_265 : decode cL_law 265 = .ok (.if_icmp .ge 33, 3) := by decide +kernel
theorem dL_law_268 : decode cL_law 268 = .ok (.aload 7, 2) := by decide +kernel
theorem dL_law_270 : decode cL_law 270 = .ok (.iconst 2, 1) := by decide +kernel
theorem dL_law_271 : decode cL_law 271 = .ok (.iaload, 1) := by decide +kernel
theorem dL_law_272 : decode cL_law 272 = .ok (.istore 13, 2) := by decide +kernel
theorem dL_law_274 : decode cL_law 274 = .ok (.aload 7, 2) := by decide +kernel
theorem dL_law_276 : decode cL_law 276 = .ok (.iconst 2, 1) := by decide +kernel
theorem dL_law_277 : decode cL_law 277 = .ok (.iconst 0, 1) := by decide +kernel
theorem dL_law_278 : decode cL_law 278 = .ok (.iastore, 1) := by decide +kernel
theorem dL_law_279 : decode cL_law 279 = .ok (.aload_n 1, 1) := by decide +kernel
theorem dL_law_280 : decode cL_law 280 = .ok (.invokevirtual 300, 3) := by decide +kernel
theorem dL_law_283 : decode cL_law 283 = .ok (.iload 13, 2) := by decide +kernel
theorem dL_law_285 : decode cL_law 285 = .ok (.if_icmp .ne 7, 3) := by decide +kernel
theorem dL_law_288 : decode cL_law 288 = .ok (.iconst 1, 1) := by decide +kernel
theorem dL_law_289 : decode cL_law 289 = .ok (.goto 4, 3) := by decide +kernel
theorem dL_law_292 : decode cL_law 292 = .ok (.iconst 0, 1) := by decide +kernel
theorem dL_law_293 : decode cL_law 293 = .ok (.istore 8, 2) := by decide +kernel
theorem dL_law_295 : decode cL_law 295 = .ok (.goto 307, 3) := by decide +kernel
theorem dL_law_298 : decode cL_law 298 = .ok (.iload 11, 2) := by decide +kernel
theorem dL_law_300 : decode cL_law 300 = .ok (.bipush 26, 2) := by decide +kernel
theorem dL_law_302 : decode cL_law 302 = .ok (.if_icmp .ge 162, 3) := by decide +kernel
theorem dL_law_305 : decode cL_law 305 = .ok (.iconst 0, 1) := by decide +kernel
theorem dL_law_306 : decode cL_law 306 = .ok (.istore 13, 2) := by decide +kernel
theorem dL_law_308 : decode cL_law 308 = .ok (.iload 13, 2) := by decide +kernel
theorem dL_law_310 : decode cL_law 310 = .ok (.iload 12, 2) := by decide +kernel
theorem dL_law_312 : decode cL_law 312 = .ok (.iconst 3, 1) := by decide +kernel
theorem dL_law_313 : decode cL_law 313 = .ok (.ishr, 1) := by decide +kernel
theorem dL_law_314 : decode cL_law 314 = .ok (.iconst 4, 1) := by decide +kernel
theorem dL_law_315 : decode cL_law 315 = .ok (.invokestatic 161, 3) := by decide +kernel
theorem dL_law_318 : decode cL_law 318 = .ok (.if_icmp .gt 143, 3) := by decide +kernel
theorem dL_law_321 : decode cL_law 321 = .ok (.iload 8, 2) := by decide +kernel
theorem dL_law_323 : decode cL_law 323 = .ok (.ifCond .eq 138, 3) := by decide +kernel
theorem dL_law_326 : decode cL_law 326 = .ok (.iload 12, 2) := by decide +kernel
theorem dL_law_328 : decode cL_law 328 = .ok (.iload 13, 2) := by decide +kernel
theorem dL_law_330 : decode cL_law 330 = .ok (.ishr, 1) := by decide +kernel
theorem dL_law_331 : decode cL_law 331 = .ok (.aload 7, 2) := by decide +kernel
theorem dL_law_333 : decode cL_law 333 = .ok (.iconst 0, 1) := by decide +kernel
theorem dL_law_334 : decode cL_law 334 = .ok (.iaload, 1) := by decide +kernel
theorem dL_law_335 : decode cL_law 335 = .ok (.invokestatic 161, 3) := by decide +kernel
theorem dL_law_338 : decode cL_law 338 = .ok (.istore 14, 2) := by decide +kernel
theorem dL_law_340 : decode cL_law 340 = .ok (.aload 4, 2) := by decide +kernel
theorem dL_law_342 : decode cL_law 342 = .ok (.aload 6, 2) := by decide +kernel
theorem dL_law_344 : decode cL_law 344 = .ok (.aload_n 2, 1) := by decide +kernel
theorem dL_law_345 : decode cL_law 345 = .ok (.aload 7, 2) := by decide +kernel
theorem dL_law_347 : decode cL_law 347 = .ok (.invokestatic 221, 3) := by decide +kernel
theorem dL_law_350 : decode cL_law 350 = .ok (.iconst 0, 1) := by decide +kernel
theorem dL_law_351 : decode cL_law 351 = .ok (.istore 15, 2) := by decide +kernel
theorem dL_law_353 : decode cL_law 353 = .ok (.iconst 0, 1) := by decide +kernel
theorem dL_law_354 : decode cL_law 354 = .ok (.istore 16, 2) := by decide +kernel
theorem dL_law_356 : decode cL_law 356 = .ok (.iload 16, 2) := by decide +kernel
theorem dL_law_358 : decode cL_law 358 = .ok (.aload 7, 2) := by decide +kernel
theorem dL_law_360 : decode cL_law 360 = .ok (.iconst 0, 1) := by decide +kernel
theorem dL_law_361 : decode cL_law 361 = .ok (.iaload, 1) := by decide +kernel
theorem dL_law_362 : decode cL_law 362 = .ok (.if_icmp .ge 22, 3) := by decide +kernel
theorem dL_law_365 : decode cL_law 365 = .ok (.iload 15, 2) := by decide +kernel
theorem dL_law_367 : decode cL_law 367 = .ok (.iload 16, 2) := by decide +kernel
theorem dL_law_369 : decode cL_law 369 = .ok (.aload 6, 2) := by decide +kernel
theorem dL_law_371 : decode cL_law 371 = .ok (.iload 16, 2) := by decide +kernel
theorem dL_law_373 : decode cL_law 373 = .ok (.iaload, 1) := by decide +kernel
theorem dL_law_374 : decode cL_law 374 = .ok (.imul, 1) := by decide +kernel
theorem dL_law_375 : decode cL_law 375 = .ok (.isub, 1) := by decide +kernel
theorem dL_law_376 : decode cL_law 376 = .ok (.istore 15, 2) := by decide +kernel
theorem dL_law_378 : decode cL_law 378 = .ok (.iinc 16 1, 3) := by decide +kernel
theorem dL_law_381 : decode cL_law 381 = .ok (.goto (-25), 3) := by decide +kernel
theorem dL_law_384 : decode cL_law 384 = .ok (.aload 4, 2) := by decide +kernel
theorem dL_law_386 : decode cL_law 386 = .ok (.iload 14, 2) := by decide +kernel
theorem dL_law_388 : decode cL_law 388 = .ok (.dup2, 1) := by decide +kernel
theorem dL_law_389 : decode cL_law 389 = .ok (.iaload, 1) := by decide +kernel
theorem dL_law_390 : decode cL_law 390 = .ok (.iconst 1, 1) := by decide +kernel
theorem dL_law_391 : decode cL_law 391 = .ok (.iadd, 1) := by decide +kernel
theorem dL_law_392 : decode cL_law 392 = .ok (.iastore, 1) := by decide +kernel
theorem dL_law_393 : decode cL_law 393 = .ok (.aload 4, 2) := by decide +kernel
theorem dL_law_395 : decode cL_law 395 = .ok (.aload 6, 2) := by decide +kernel
theorem dL_law_397 : decode cL_law 397 = .ok (.aload_n 2, 1) := by decide +kernel
theorem dL_law_398 : decode cL_law 398 = .ok (.aload 7, 2) := by decide +kernel
theorem dL_law_400 : decode cL_law 400 = .ok (.invokestatic 221, 3) := by decide +kernel
theorem dL_law_403 : decode cL_law 403 = .ok (.iconst 0, 1) := by decide +kernel
theorem dL_law_404 : decode cL_law 404 = .ok (.istore 16, 2) := by decide +kernel
theorem dL_law_406 : decode cL_law 406 = .ok (.iload 16, 2) := by decide +kernel
theorem dL_law_408 : decode cL_law 408 = .ok (.aload 7, 2) := by decide +kernel
theorem dL_law_410 : decode cL_law 410 = .ok (.iconst 0, 1) := by decide +kernel
theorem dL_law_411 : decode cL_law 411 = .ok (.iaload, 1) := by decide +kernel
theorem dL_law_412 : decode cL_law 412 = .ok (.if_icmp .ge 22, 3) := by decide +kernel
theorem dL_law_415 : decode cL_law 415 = .ok (.iload 15, 2) := by decide +kernel
theorem dL_law_417 : decode cL_law 417 = .ok (.iload 16, 2) := by decide +kernel
theorem dL_law_419 : decode cL_law 419 = .ok (.aload 6, 2) := by decide +kernel
theorem dL_law_421 : decode cL_law 421 = .ok (.iload 16, 2) := by decide +kernel
theorem dL_law_423 : decode cL_law 423 = .ok (.iaload, 1) := by decide +kernel
theorem dL_law_424 : decode cL_law 424 = .ok (.imul, 1) := by decide +kernel
theorem dL_law_425 : decode cL_law 425 = .ok (.iadd, 1) := by decide +kernel
theorem dL_law_426 : decode cL_law 426 = .ok (.istore 15, 2) := by decide +kernel
theorem dL_law_428 : decode cL_law 428 = .ok (.iinc 16 1, 3) := by decide +kernel
theorem dL_law_431 : decode cL_law 431 = .ok (.goto (-25), 3) := by decide +kernel
theorem dL_law_434 : decode cL_law 434 = .ok (.aload_n 1, 1) := by decide +kernel
theorem dL_law_435 : decode cL_law 435 = .ok (.iconst 5, 1) := by decide +kernel
theorem dL_law_436 : decode cL_law 436 = .ok (.iload 14, 2) := by decide +kernel
theorem dL_law_438 : decode cL_law 438 = .ok (.iconst 0, 1) := by decide +kernel
theorem dL_law_439 : decode cL_law 439 = .ok (.lconst 0, 1) := by decide +kernel
theorem dL_law_440 : decode cL_law 440 = .ok (.invokestatic 267, 3) := by decide +kernel
theorem dL_law_443 : decode cL_law 443 = .ok (.iload 15, 2) := by decide +kernel
theorem dL_law_445 : decode cL_law 445 = .ok (.if_icmp .ne 7, 3) := by decide +kernel
theorem dL_law_448 : decode cL_law 448 = .ok (.iconst 1, 1) := by decide +kernel
theorem dL_law_449 : decode cL_law 449 = .ok (.goto 4, 3) := by decide +kernel
theorem dL_law_452 : decode cL_law 452 = .ok (.iconst 0, 1) := by decide +kernel
theorem dL_law_453 : decode cL_law 453 = .ok (.istore 8, 2) := by decide +kernel
theorem dL_law_455 : decode cL_law 455 = .ok (.iinc 13 1, 3) := by decide +kernel
theorem dL_law_458 : decode cL_law 458 = .ok (.goto (-150), 3) := by decide +kernel
theorem dL_law_461 : decode cL_law 461 = .ok (.goto 141, 3) := by decide +kernel
theorem dL_law_464 : decode cL_law 464 = .ok (.iload 12, 2) := by decide +kernel
theorem dL_law_466 : decode cL_law 466 = .ok (.aload 7, 2) := by decide +kernel
theorem dL_law_468 : decode cL_law 468 = .ok (.iconst 0, 1) := by decide +kernel
theorem dL_law_469 : decode cL_law 469 = .ok (.iaload, 1) := by decide +kernel
theorem dL_law_470 : decode cL_law 470 = .ok (.invokestatic 161, 3) := by decide +kernel
theorem dL_law_473 : decode cL_law 473 = .ok (.istore 13, 2) := by decide +kernel
theorem dL_law_475 : decode cL_law 475 = .ok (.iload 13, 2) := by decide +kernel
theorem dL_law_477 : decode cL_law 477 = .ok (.iconst 1, 1) := by decide +kernel
theorem dL_law_478 : decode cL_law 478 = .ok (.iadd, 1) := by decide +kernel
theorem dL_law_479 : decode cL_law 479 = .ok (.iload 12, 2) := by decide +kernel
theorem dL_law_481 : decode cL_law 481 = .ok (.iconst 3, 1) := by decide +kernel
theorem dL_law_482 : decode cL_law 482 = .ok (.ishr, 1) := by decide +kernel
theorem dL_law_483 : decode cL_law 483 = .ok (.aload 7, 2) := by decide +kernel
theorem dL_law_485 : decode cL_law 485 = .ok (.iconst 0, 1) := by decide +kernel
theorem dL_law_486 : decode cL_law 486 = .ok (.iaload, 1) := by decide +kernel
theorem dL_law_487 : decode cL_law 487 = .ok (.iconst 1, 1) := by decide +kernel
theorem dL_law_488 : decode cL_law 488 = .ok (.isub, 1) := by decide +kernel
theorem dL_law_489 : decode cL_law 489 = .ok (.invokestatic 161, 3) := by decide +kernel
theorem dL_law_492 : decode cL_law 492 = .ok (.iadd, 1) := by decide +kernel
theorem dL_law_493 : decode cL_law 493 = .ok (.aload 7, 2) := by decide +kernel
theorem dL_law_495 : decode cL_law 495 = .ok (.iconst 0, 1) := by decide +kernel
theorem dL_law_496 : decode cL_law 496 = .ok (.iaload, 1) := by decide +kernel
theorem dL_law_497 : decode cL_law 497 = .ok (.irem, 1) := by decide +kernel
theorem dL_law_498 : decode cL_law 498 = .ok (.istore 14, 2) := by decide +kernel
theorem dL_law_500 : decode cL_law 500 = .ok (.iload 13, 2) := by decide +kernel
theorem dL_law_502 : decode cL_law 502 = .ok (.iload 14, 2) := by decide +kernel
theorem dL_law_504 : decode cL_law 504 = .ok (.aload 5, 2) := by decide +kernel
theorem dL_law_506 : decode cL_law 506 = .ok (.aload 7, 2) := by decide +kernel
theorem dL_law_508 : decode cL_law 508 = .ok (.invokestatic 231, 3) := by decide +kernel
theorem dL_law_511 : decode cL_law 511 = .ok (.istore 15, 2) := by decide +kernel
theorem dL_law_513 : decode cL_law 513 = .ok (.iload 14, 2) := by decide +kernel
theorem dL_law_515 : decode cL_law 515 = .ok (.iload 13, 2) := by decide +kernel
theorem dL_law_517 : decode cL_law 517 = .ok (.aload 5, 2) := by decide +kernel
theorem dL_law_519 : decode cL_law 519 = .ok (.aload 7, 2) := by decide +kernel
theorem dL_law_521 : decode cL_law 521 = .ok (.invokestatic 231, 3) := by decide +kernel
theorem dL_law_524 : decode cL_law 524 = .ok (.istore 16, 2) := by decide +kernel
theorem dL_law_526 : decode cL_law 526 = .ok (.iload 15, 2) := by decide +kernel
theorem dL_law_528 : decode cL_law 528 = .ok (.iload 16, 2) := by decide +kernel
theorem dL_law_530 : decode cL_law 530 = .ok (.if_icmp .gt 17, 3) := by decide +kernel
theorem dL_law_533 : decode cL_law 533 = .ok (.iload 15, 2) := by decide +kernel
theorem dL_law_535 : decode cL_law 535 = .ok (.iload 16, 2) := by decide +kernel
theorem dL_law_537 : decode cL_law 537 = .ok (.if_icmp .ne 14, 3) := by decide +kernel
theorem dL_law_540 : decode cL_law 540 = .ok (.iload 13, 2) := by decide +kernel
theorem dL_law_542 : decode cL_law 542 = .ok (.iload 14, 2) := by decide +kernel
theorem dL_law_544 : decode cL_law 544 = .ok (.if_icmp .ge 7, 3) := by decide +kernel
theorem dL_law_547 : decode cL_law 547 = .ok (.iconst 1, 1) := by decide +kernel
theorem dL_law_548 : decode cL_law 548 = .ok (.goto 4, 3) := by decide +kernel
theorem dL_law_551 : decode cL_law 551 = .ok (.iconst 0, 1) := by decide +kernel
theorem dL_law_552 : decode cL_law 552 = .ok (.istore 17, 2) := by decide +kernel
theorem dL_law_554 : decode cL_law 554 = .ok (.aload 5, 2) := by decide +kernel
theorem dL_law_556 : decode cL_law 556 = .ok (.iload 17, 2) := by decide +kernel
theorem dL_law_558 : decode cL_law 558 = .ok (.ifCond .eq 14, 3) := by decide +kernel
theorem dL_law_561 : decode cL_law 561 = .ok (.bipush 6, 2) := by decide +kernel
theorem dL_law_563 : decode cL_law 563 = .ok (.iload 13, 2) := by decide +kernel
theorem dL_law_565 : decode cL_law 565 = .ok (.imul, 1) := by decide +kernel
theorem dL_law_566 : decode cL_law 566 = .ok (.iload 14, 2) := by decide +kernel
theorem dL_law_568 : decode cL_law 568 = .ok (.iadd, 1) := by decide +kernel
theorem dL_law_569 : decode cL_law 569 = .ok (.goto 11, 3) := by decide +kernel
theorem dL_law_572 : decode cL_law 572 = .ok (.bipush 6, 2) := by decide +kernel
theorem dL_law_574 : decode cL_law 574 = .ok (.iload 14, 2) := by decide +kernel
theorem dL_law_576 : decode cL_law 576 = .ok (.imul, 1) := by decide +kernel
theorem dL_law_577 : decode cL_law 577 = .ok (.iload 13, 2) := by decide +kernel
theorem dL_law_579 : decode cL_law 579 = .ok (.iadd, 1) := by decide +kernel
theorem dL_law_580 : decode cL_law 580 = .ok (.iconst 1, 1) := by decide +kernel
theorem dL_law_581 : decode cL_law 581 = .ok (.iastore, 1) := by decide +kernel
theorem dL_law_582 : decode cL_law 582 = .ok (.aload_n 1, 1) := by decide +kernel
theorem dL_law_583 : decode cL_law 583 = .ok (.iload 13, 2) := by decide +kernel
theorem dL_law_585 : decode cL_law 585 = .ok (.iload 14, 2) := by decide +kernel
theorem dL_law_587 : decode cL_law 587 = .ok (.invokevirtual 303, 3) := by decide +kernel
theorem dL_law_590 : decode cL_law 590 = .ok (.iload 17, 2) := by decide +kernel
theorem dL_law_592 : decode cL_law 592 = .ok (.if_icmp .ne 7, 3) := by decide +kernel
theorem dL_law_595 : decode cL_law 595 = .ok (.iconst 1, 1) := by decide +kernel
theorem dL_law_596 : decode cL_law 596 = .ok (.goto 4, 3) := by decide +kernel
theorem dL_law_599 : decode cL_law 599 = .ok (.iconst 0, 1) := by decide +kernel
theorem dL_law_600 : decode cL_law 600 = .ok (.istore 8, 2) := by decide +kernel
theorem dL_law_602 : decode cL_law 602 = .ok (.iload 8, 2) := by decide +kernel
theorem dL_law_604 : decode cL_law 604 = .ok (.ifCond .eq 30, 3) := by decide +kernel
theorem dL_law_607 : decode cL_law 607 = .ok (.aload_n 1, 1) := by decide +kernel
theorem dL_law_608 : decode cL_law 608 = .ok (.iload 12, 2) := by decide +kernel
theorem dL_law_610 : decode cL_law 610 = .ok (.iconst 1, 1) := by decide +kernel
theorem dL_law_611 : decode cL_law 611 = .ok (.ishr, 1) := by decide +kernel
theorem dL_law_612 : decode cL_law 612 = .ok (.ldc_w 307, 3) := by decide +kernel
theorem dL_law_615 : decode cL_law 615 = .ok (.iand, 1) := by decide +kernel
theorem dL_law_616 : decode cL_law 616 = .ok (.aload_n 2, 1) := by decide +kernel
theorem dL_law_617 : decode cL_law 617 = .ok (.aload_n 3, 1) := by decide +kernel
theorem dL_law_618 : decode cL_law 618 = .ok (.aload 4, 2) := by decide +kernel
theorem dL_law_620 : decode cL_law 620 = .ok (.aload 5, 2) := by decide +kernel
theorem dL_law_622 : decode cL_law 622 = .ok (.aload 7, 2) := by decide +kernel
theorem dL_law_624 : decode cL_law 624 = .ok (.invokestatic 308, 3) := by decide +kernel
theorem dL_law_627 : decode cL_law 627 = .ok (.ifCond .eq 7, 3) := by decide +kernel
theorem dL_law_630 : decode cL_law 630 = .ok (.iconst 1, 1) := by decide +kernel
theorem dL_law_631 : decode cL_law 631 = .ok (.goto 4, 3) := by decide +kernel
theorem dL_law_634 : decode cL_law 634 = .ok (.iconst 0, 1) := by decide +kernel
theorem dL_law_635 : decode cL_law 635 = .ok (.istore 8, 2) := by decide +kernel
theorem dL_law_637 : decode cL_law 637 = .ok (.iinc 9 1, 3) := by decide +kernel
theorem dL_law_640 : decode cL_law 640 = .ok (.goto (-588), 3) := by decide +kernel
theorem dL_law_643 : decode cL_law 643 = .ok (.iload 8, 2) := by decide +kernel
theorem dL_law_645 : decode cL_law 645 = .ok (.ireturn, 1) := by decide +kernel
