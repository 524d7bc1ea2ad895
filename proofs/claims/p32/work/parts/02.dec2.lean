theorem dL_types_103 : decode cL_types 103 = .ok (.iadd, 1) := by decide +kernel
theorem dL_types_104 : decode cL_types 104 = .ok (.invokevirtual 15, 3) := by decide +kernel
theorem dL_types_107 : decode cL_types 107 = .ok (.goto 4, 3) := by decide +kernel
theorem dL_types_110 : decode cL_types 110 = .ok (.iconst 0, 1) := by decide +kernel
theorem dL_types_111 : decode cL_types 111 = .ok (.invokevirtual 19, 3) := by decide +kernel
theorem dL_types_114 : decode cL_types 114 = .ok (.iload_n 3, 1) := by decide +kernel
theorem dL_types_115 : decode cL_types 115 = .ok (.iload 4, 2) := by decide +kernel
theorem dL_types_117 : decode cL_types 117 = .ok (.iadd, 1) := by decide +kernel
theorem dL_types_118 : decode cL_types 118 = .ok (.if_icmp .ne 7, 3) := by decide +kernel
theorem dL_types_121 : decode cL_types 121 = .ok (.iconst 1, 1) := by decide +kernel
theorem dL_types_122 : decode cL_types 122 = .ok (.goto 4, 3) := by decide +kernel
theorem dL_types_125 : decode cL_types 125 = .ok (.iconst 0, 1) := by decide +kernel
theorem dL_types_126 : decode cL_types 126 = .ok (.iand, 1) := by decide +kernel
theorem dL_types_127 : decode cL_types 127 = .ok (.istore_n 2, 1) := by decide +kernel
theorem dL_types_128 : decode cL_types 128 = .ok (.iinc 3 5, 3) := by decide +kernel
theorem dL_types_131 : decode cL_types 131 = .ok (.goto (-127), 3) := by decide +kernel
theorem dL_types_134 : decode cL_types 134 = .ok (.iload_n 2, 1) := by decide +kernel
theorem dL_types_135 : decode cL_types 135 = .ok (.ireturn, 1) := by decide +kernel
theorem dL_some_0 : decode cL_some 0 = .ok (.ldc 25, 2) := by decide +kernel
theorem dL_some_2 : decode cL_some 2 = .ok (.astore_n 2, 1) := by decide +kernel
theorem dL_some_3 : decode cL_some 3 = .ok (.iconst 0, 1) := by decide +kernel
theorem dL_some_4 : decode cL_some 4 = .ok (.istore_n 3, 1) := by decide +kernel
theorem dL_some_5 : decode cL_some 5 = .ok (.iload_n 3, 1) := by decide +kernel
theorem dL_some_6 : decode cL_some 6 = .ok (.iload_n 1, 1) := by decide +kernel
theorem dL_some_7 : decode cL_some 7 = .ok (.if_icmp .ge 40, 3) := by decide +kernel
theorem dL_some_10 : decode cL_some 10 = .ok (.new 27, 3) := by decide +kernel
theorem dL_some_13 : decode cL_some 13 = .ok (.dup, 1) := by decide +kernel
theorem dL_some_14 : decode cL_some 14 = .ok (.invokespecial 29, 3) := by decide +kernel
theorem dL_some_17 : decode cL_some 17 = .ok (.aload_n 2, 1) := by decide +kernel
theorem dL_some_18 : decode cL_some 18 = .ok (.invokevirtual 30, 3) := by decide +kernel
theorem dL_some_21 : decode cL_some 21 = .ok (.ldc 34, 2) := by decide +kernel
theorem dL_some_23 : decode cL_some 23 = .ok (.iload_n 0, 1) := by decide +kernel
theorem dL_some_24 : decode cL_some 24 = .ok (.iconst 3, 1) := by decide +kernel
theorem dL_some_25 : decode cL_some 25 = .ok (.iload_n 3, 1) := by decide +kernel
theorem dL_some_26 : decode cL_some 26 = .ok (.imul, 1) := by decide +kernel
theorem dL_some_27 : decode cL_some 27 = .ok (.ishr, 1) := by decide +kernel
theorem dL_some_28 : decode cL_some 28 = .ok (.bipush 7, 2) := by decide +kernel
theorem dL_some_30 : decode cL_some 30 = .ok (.iand, 1) := by decide +kernel
theorem dL_some_31 : decode cL_some 31 = .ok (.invokevirtual 15, 3) := by decide +kernel
theorem dL_some_34 : decode cL_some 34 = .ok (.invokevirtual 36, 3) := by decide +kernel
theorem dL_some_37 : decode cL_some 37 = .ok (.invokevirtual 39, 3) := by decide +kernel
theorem dL_some_40 : decode cL_some 40 = .ok (.astore_n 2, 1) := by decide +kernel
theorem dL_some_41 : decode cL_some 41 = .ok (.iinc 3 1, 3) := by decide +kernel
theorem dL_some_44 : decode cL_some 44 = .ok (.goto (-39), 3) := by decide +kernel
theorem dL_some_47 : decode cL_some 47 = .ok (.aload_n 2, 1) := by decide +kernel
theorem dL_some_48 : decode cL_some 48 = .ok (.areturn, 1) := by decide +kernel
theorem dL_said_0 : decode cL_said 0 = .ok (.ldc 25, 2) := by decide +kernel
theorem dL_said_2 : decode cL_said 2 = .ok (.astore_n 1, 1) := by decide +kernel
theorem dL_said_3 : decode cL_said 3 = .ok (.aload_n 0, 1) := by decide +kernel
theorem dL_said_4 : decode cL_said 4 = .ok (.iconst (-1), 1) := by decide +kernel
theorem dL_said_5 : decode cL_said 5 = .ok (.invokevirtual 43, 3) := by decide +kernel
theorem dL_said_8 : decode cL_said 8 = .ok (.istore_n 2, 1) := by decide +kernel
theorem dL_said_9 : decode cL_said 9 = .ok (.iconst 0, 1) := by decide +kernel
theorem dL_said_10 : decode cL_said 10 = .ok (.istore_n 3, 1) := by decide +kernel
theorem dL_said_11 : decode cL_said 11 = .ok (.iload_n 3, 1) := by decide +kernel
theorem dL_said_12 : decode cL_said 12 = .ok (.iload_n 2, 1) := by decide +kernel
theorem dL_said_13 : decode cL_said 13 = .ok (.if_icmp .ge 33, 3) := by decide +kernel
theorem dL_said_16 : decode cL_said 16 = .ok (.new 27, 3) := by decide +kernel
theorem dL_said_19 : decode cL_said 19 = .ok (.dup, 1) := by decide +kernel
theorem dL_said_20 : decode cL_said 20 = .ok (.invokespecial 29, 3) := by decide +kernel
theorem dL_said_23 : decode cL_said 23 = .ok (.aload_n 1, 1) := by decide +kernel
theorem dL_said_24 : decode cL_said 24 = .ok (.invokevirtual 30, 3) := by decide +kernel
theorem dL_said_27 : decode cL_said 27 = .ok (.aload_n 0, 1) := by decide +kernel
theorem dL_said_28 : decode cL_said 28 = .ok (.iload_n 3, 1) := by decide +kernel
theorem dL_said_29 : decode cL_said 29 = .ok (.invokevirtual 43, 3) := by decide +kernel
theorem dL_said_32 : decode cL_said 32 = .ok (.i2c, 1) := by decide +kernel
theorem dL_said_33 : decode cL_said 33 = .ok (.invokevirtual 36, 3) := by decide +kernel
theorem dL_said_36 : decode cL_said 36 = .ok (.invokevirtual 39, 3) := by decide +kernel
theorem dL_said_39 : decode cL_said 39 = .ok (.astore_n 1, 1) := by decide +kernel
theorem dL_said_40 : decode cL_said 40 = .ok (.iinc 3 1, 3) := by decide +kernel
theorem dL_said_43 : decode cL_said 43 = .ok (.goto (-32), 3) := by decide +kernel
theorem dL_said_46 : decode cL_said 46 = .ok (.aload_n 1, 1) := by decide +kernel
theorem dL_said_47 : decode cL_said 47 = .ok (.areturn, 1) := by decide +kernel
theorem dL_law_0 : decode cL_law 0 = .ok (.new 20, 3) := by decide +kernel
theorem dL_law_3 : decode cL_law 3 = .ok (.dup, 1) := by decide +kernel
theorem dL_law_4 : decode cL_law 4 = .ok (.invokespecial 47, 3) := by decide +kernel
theorem dL_law_7 : decode cL_law 7 = .ok (.astore_n 1, 1) := by decide +kernel
theorem dL_law_8 : decode cL_law 8 = .ok (.iconst 1, 1) := by decide +kernel
theorem dL_law_9 : decode cL_law 9 = .ok (.istore_n 2, 1) := by decide +kernel
theorem dL_law_10 : decode cL_law 10 = .ok (.bipush 20, 2) := by decide +kernel
theorem dL_law_12 : decode cL_law 12 = .ok (.newarray .int, 2) := by decide +kernel
theorem dL_law_14 : decode cL_law 14 = .ok (.astore_n 3, 1) := by decide +kernel
theorem dL_law_15 : decode cL_law 15 = .ok (.iconst 0, 1) := by decide +kernel
theorem dL_law_16 : decode cL_law 16 = .ok (.istore 4, 2) := by decide +kernel
theorem dL_law_18 : decode cL_law 18 = .ok (.iconst 0, 1) := by decide +kernel
theorem dL_law_19 : decode cL_law 19 = .ok (.istore 5, 2) := by decide +kernel
theorem dL_law_21 : decode cL_law 21 = .ok (.iload 5, 2) := by decide +kernel
theorem dL_law_23 : decode cL_law 23 = .ok (.bipush 6, 2) := by decide +kernel
theorem dL_law_25 : decode cL_law 25 = .ok (.if_icmp .ge 74, 3) := by decide +kernel
theorem dL_law_28 : decode cL_law 28 = .ok (.iload_n 2, 1) := by decide +kernel
theorem dL_law_29 : decode cL_law 29 = .ok (.aload_n 1, 1) := by decide +kernel
theorem dL_law_30 : decode cL_law 30 = .ok (.aload_n 0, 1) := by decide +kernel
theorem dL_law_31 : decode cL_law 31 = .ok (.iload 5, 2) := by decide +kernel
theorem dL_law_33 : decode cL_law 33 = .ok (.invokestatic 48, 3) := by decide +kernel
theorem dL_law_36 : decode cL_law 36 = .ok (.iconst 1, 1) := by decide +kernel
theorem dL_law_37 : decode cL_law 37 = .ok (.aload_n 0, 1) := by decide +kernel
theorem dL_law_38 : decode cL_law 38 = .ok (.iload 5, 2) := by decide +kernel
theorem dL_law_40 : decode cL_law 40 = .ok (.invokestatic 48, 3) := by decide +kernel
theorem dL_law_43 : decode cL_law 43 = .ok (.bipush 12, 2) := by decide +kernel
theorem dL_law_45 : decode cL_law 45 = .ok (.ishr, 1) := by decide +kernel
theorem dL_law_46 : decode cL_law 46 = .ok (.iconst 3, 1) := by decide +kernel
theorem dL_law_47 : decode cL_law 47 = .ok (.iand, 1) := by decide +kernel
theorem dL_law_48 : decode cL_law 48 = .ok (.iadd, 1) := by decide +kernel
theorem dL_law_49 : decode cL_law 49 = .ok (.invokestatic 54, 3) := by decide +kernel
theorem dL_law_52 : decode cL_law 52 = .ok (.invokestatic 58, 3) := by decide +kernel
theorem dL_law_55 : decode cL_law 55 = .ok (.ifCond .eq 26, 3) := by decide +kernel
theorem dL_law_58 : decode cL_law 58 = .ok (.aload_n 1, 1) := by decide +kernel
theorem dL_law_59 : decode cL_law 59 = .ok (.iload 5, 2) := by decide +kernel
theorem dL_law_61 : decode cL_law 61 = .ok (.iload 5, 2) := by decide +kernel
theorem dL_law_63 : decode cL_law 63 = .ok (.iconst 4, 1) := by decide +kernel
theorem dL_law_64 : decode cL_law 64 = .ok (.irem, 1) := by decide +kernel
theorem dL_law_65 : decode cL_law 65 = .ok (.iload 5, 2) := by decide +kernel
theorem dL_law_67 : decode cL_law 67 = .ok (.iconst 3, 1) := by decide +kernel
theorem dL_law_68 : decode cL_law 68 = .ok (.irem, 1) := by decide +kernel
theorem dL_law_69 : decode cL_law 69 = .ok (.invokevirtual 62, 3) := by decide +kernel
theorem dL_law_72 : decode cL_law 72 = .ok (.iload 5, 2) := by decide +kernel
theorem dL_law_74 : decode cL_law 74 = .ok (.if_icmp .ne 7, 3) := by decide +kernel
theorem dL_law_77 : decode cL_law 77 = .ok (.iconst 1, 1) := by decide +kernel
theorem dL_law_78 : decode cL_law 78 = .ok (.goto 4, 3) := by decide +kernel
theorem dL_law_81 : decode cL_law 81 = .ok (.iconst 0, 1) := by decide +kernel
theorem dL_law_82 : decode cL_law 82 = .ok (.iand, 1) := by decide +kernel
theorem dL_law_83 : decode cL_law 83 = .ok (.istore_n 2, 1) := by decide +kernel
theorem dL_law_84 : decode cL_law 84 = .ok (.aload_n 3, 1) := by decide +kernel
theorem dL_law_85 : decode cL_law 85 = .ok (.iload 5, 2) := by decide +kernel
theorem dL_law_87 : decode cL_law 87 = .ok (.iload 5, 2) := by decide +kernel
theorem dL_law_89 : decode cL_law 89 = .ok (.iastore, 1) := by decide +kernel
theorem dL_law_90 : decode cL_law 90 = .ok (.iinc 4 1, 3) := by decide +kernel
theorem dL_law_93 : decode cL_law 93 = .ok (.iinc 5 1, 3) := by decide +kernel
theorem dL_law_96 : decode cL_law 96 = .ok (.goto (-75), 3) := by decide +kernel
theorem dL_law_99 : decode cL_law 99 = .ok (.iload_n 2, 1) := by decide +kernel
theorem dL_law_100 : decode cL_law 100 = .ok (.aload_n 1, 1) := by decide +kernel
theorem dL_law_101 : decode cL_law 101 = .ok (.ldc 66, 2) := by decide +kernel
theorem dL_law_103 : decode cL_law 103 = .ok (.invokestatic 58, 3) := by decide +kernel
theorem dL_law_106 : decode cL_law 106 = .ok (.ifCond .eq 24, 3) := by decide +kernel
theorem dL_law_109 : decode cL_law 109 = .ok (.aload_n 1, 1) := by decide +kernel
theorem dL_law_110 : decode cL_law 110 = .ok (.invokevirtual 68, 3) := by decide +kernel
theorem dL_law_113 : decode cL_law 113 = .ok (.ifCond .ne 17, 3) := by decide +kernel
theorem dL_law_116 : decode cL_law 116 = .ok (.aload_n 1, 1) := by decide +kernel
theorem dL_law_117 : decode cL_law 117 = .ok (.iconst 0, 1) := by decide +kernel
theorem dL_law_118 : decode cL_law 118 = .ok (.iconst 1, 1) := by decide +kernel
theorem dL_law_119 : decode cL_law 119 = .ok (.invokevirtual 71, 3) := by decide +kernel
theorem dL_law_122 : decode cL_law 122 = .ok (.iconst 4, 1) := by decide +kernel
theorem dL_law_123 : decode cL_law 123 = .ok (.if_icmp .ne 7, 3) := by decide +kernel
theorem dL_law_126 : decode cL_law 126 = .ok (.iconst 1, 1) := by decide +kernel
theorem dL_law_127 : decode cL_law 127 = .ok (.goto 4, 3) := by decide +kernel
theorem dL_law_130 : decode cL_law 130 = .ok (.iconst 0, 1) := by decide +kernel
theorem dL_law_131 : decode cL_law 131 = .ok (.iand, 1) := by decide +kernel
theorem dL_law_132 : decode cL_law 132 = .ok (.istore_n 2, 1) := by decide +kernel
theorem dL_law_133 : decode cL_law 133 = .ok (.iconst 4, 1) := by decide +kernel
theorem dL_law_134 : decode cL_law 134 = .ok (.newarray .int, 2) := by decide +kernel
theorem dL_law_136 : decode cL_law 136 = .ok (.astore 5, 2) := by decide +kernel
theorem dL_law_138 : decode cL_law 138 = .ok (.iconst 4, 1) := by decide +kernel
theorem dL_law_139 : decode cL_law 139 = .ok (.newarray .int, 2) := by decide +kernel
theorem dL_law_141 : decode cL_law 141 = .ok (.astore 6, 2) := by decide +kernel
theorem dL_law_143 : decode cL_law 143 = .ok (.bipush 80, 2) := by decide +kernel
theorem dL_law_145 : decode cL_law 145 = .ok (.newarray .int, 2) := by decide +kernel
theorem dL_law_147 : decode cL_law 147 = .ok (.astore 7, 2) := by decide +kernel
theorem dL_law_149 : decode cL_law 149 = .ok (.iconst 0, 1) := by decide +kernel
theorem dL_law_150 : decode cL_law 150 = .ok (.istore 8, 2) := by decide +kernel
theorem dL_law_152 : decode cL_law 152 = .ok (.iload 8, 2) := by decide +kernel
theorem dL_law_154 : decode cL_law 154 = .ok (.iconst 4, 1) := by decide +kernel
theorem dL_law_155 : decode cL_law 155 = .ok (.if_icmp .ge 15, 3) := by decide +kernel
theorem dL_law_158 : decode cL_law 158 = .ok (.aload 5, 2) := by decide +kernel
theorem dL_law_160 : decode cL_law 160 = .ok (.iload 8, 2) := by decide +kernel
theorem dL_law_162 : decode cL_law 162 = .ok (.iconst (-1), 1) := by decide +kernel
theorem dL_law_163 : decode cL_law 163 = .ok (.iastore, 1) := by decide +kernel
theorem dL_law_164 : decode cL_law 164 = .ok (.iinc 8 1, 3) := by decide +kernel
theorem dL_law_167 : decode cL_law 167 = .ok (.goto (-15), 3) := by decide +kernel
theorem dL_law_170 : decode cL_law 170 = .ok (.iconst 0, 1) := by decide +kernel
theorem dL_law_171 : decode cL_law 171 = .ok (.istore 8, 2) := by decide +kernel
theorem dL_law_173 : decode cL_law 173 = .ok (.iload 8, 2) := by decide +kernel
theorem dL_law_175 : decode cL_law 175 = .ok (.bipush 24, 2) := by decide +kernel
theorem dL_law_177 : decode cL_law 177 = .ok (.if_icmp .ge 1366, 3) := by decide +kernel
theorem dL_law_180 : decode cL_law 180 = .ok (.aload_n 0, 1) := by decide +kernel
theorem dL_law_181 : decode cL_law 181 = .ok (.bipush 6, 2) := by decide +kernel
theorem dL_law_183 : decode cL_law 183 = .ok (.iload 8, 2) := by decide +kernel
theorem dL_law_185 : decode cL_law 185 = .ok (.iadd, 1) := by decide +kernel
theorem dL_law_186 : decode cL_law 186 = .ok (.invokestatic 48, 3) := by decide +kernel
theorem dL_law_189 : decode cL_law 189 = .ok (.istore 9, 2) := by decide +kernel
theorem dL_law_191 : decode cL_law 191 = .ok (.iload 9, 2) := by decide +kernel
theorem dL_law_193 : decode cL_law 193 = .ok (.iconst 3, 1) := by decide +kernel
theorem dL_law_194 : decode cL_law 194 = .ok (.ishr, 1) := by decide +kernel
theorem dL_law_195 : decode cL_law 195 = .ok (.iconst 3, 1) := by decide +kernel
theorem dL_law_196 : decode cL_law 196 = .ok (.iand, 1) := by decide +kernel
theorem dL_law_197 : decode cL_law 197 = .ok (.istore 10, 2) := by decide +kernel
theorem dL_law_199 : decode cL_law 199 = .ok (.iload 9, 2) := by decide +kernel
theorem dL_law_201 : decode cL_law 201 = .ok (.iconst 5, 1) := by decide +kernel
theorem dL_law_202 : decode cL_law 202 = .ok (.ishr, 1) := by decide +kernel
theorem dL_law_203 : decode cL_law 203 = .ok (.bipush 31, 2) := by decide +kernel
theorem dL_law_205 : decode cL_law 205 = .ok (.iand, 1) := by decide +kernel
theorem dL_law_206 : decode cL_law 206 = .ok (.bipush 22, 2) := by decide +kernel
theorem dL_law_208 : decode cL_law 208 = .ok (.irem, 1) := by decide +kernel
theorem dL_law_209 : decode cL_law 209 = .ok (.iconst 1, 1) := by decide +kernel
theorem dL_law_210 : decode cL_law 210 = .ok (.isub, 1) := by decide +kernel
theorem dL_law_211 : decode cL_law 211 = .ok (.istore 11, 2) := by decide +kernel
theorem dL_law_213 : decode cL_law 213 = .ok (.iload 9, 2) := by decide +kernel
theorem dL_law_215 : decode cL_law 215 = .ok (.bipush 7, 2) := by decide +kernel
theorem dL_law_217 : decode cL_law 217 = .ok (.iand, 1) := by decide +kernel
theorem dL_law_218 : decode cL_law 218 = .ok (.istore 12, 2) := by decide +kernel
theorem dL_law_220 : decode cL_law 220 = .ok (.aload_n 1, 1) := by decide +kernel
theorem dL_law_221 : decode cL_law 221 = .ok (.invokestatic 75, 3) := by decide +kernel
theorem dL_law_224 : decode cL_law 224 = .ok (.astore 13, 2) := by decide +kernel
theorem dL_law_226 : decode cL_law 226 = .ok (.iload 12, 2) := by decide +kernel
theorem dL_law_228 : decode cL_law 228 = .ok (.ifCond .ne 132, 3) := by decide +kernel
theorem dL_law_231 : decode cL_law 231 = .ok (.iload 9, 2) := by decide +kernel
theorem dL_law_233 : decode cL_law 233 = .ok (.bipush 10, 2) := by decide +kernel
theorem dL_law_235 : decode cL_law 235 = .ok (.ishr, 1) := by decide +kernel
theorem dL_law_236 : decode cL_law 236 = .ok (.bipush 7, 2) := by decide +kernel
theorem dL_law_238 : decode cL_law 238 = .ok (.iand, 1) := by decide +kernel
theorem dL_law_239 : decode cL_law 239 = .ok (.bipush 6, 2) := by decide +kernel
theorem dL_law_241 : decode cL_law 241 = .ok (.irem, 1) := by decide +kernel
theorem dL_law_242 : decode cL_law 242 = .ok (.istore 14, 2) := by decide +kernel
theorem dL_law_244 : decode cL_law 244 = .ok (.iload 9, 2) := by decide +kernel
theorem dL_law_246 : decode cL_law 246 = .ok (.bipush 13, 2) := by decide +kernel
theorem dL_law_248 : decode cL_law 248 = .ok (.ishr, 1) := by decide +kernel
theorem dL_law_249 : decode cL_law 249 = .ok (.bipush 31, 2) := by decide +kernel
theorem dL_law_251 : decode cL_law 251 = .ok (.iand, 1) := by decide +kernel
theorem dL_law_252 : decode cL_law 252 = .ok (.bipush 24, 2) := by decide +kernel
theorem dL_law_254 : decode cL_law 254 = .ok (.irem, 1) := by decide +kernel
theorem dL_law_255 : decode cL_law 255 = .ok (.iconst 2, 1) := by decide +kernel
theorem dL_law_256 : decode cL_law 256 = .ok (.isub, 1) := by decide +kernel
theorem dL_law_257 : decode cL_law 257 = .ok (.istore 15, 2) := by decide +kernel
theorem dL_law_259 : decode cL_law 259 = .ok (.iload_n 2, 1) := by decide +kernel
theorem dL_law_260 : decode cL_law 260 = .ok (.aload_n 1, 1) := by decide +kernel
theorem dL_law_261 : decode cL_law 261 = .ok (.iload 10, 2) := by decide +kernel
theorem dL_law_263 : decode cL_law 263 = .ok (.iload 14, 2) := by decide +kernel
theorem dL_law_265 : decode cL_law 265 = .ok (.iload 15, 2) := by decide +kernel
theorem dL_law_267 : decode cL_law 267 = .ok (.invokevirtual 78, 3) := by decide +kernel
theorem dL_law_270 : decode cL_law 270 = .ok (.iload 15, 2) := by decide +kernel
theorem dL_law_272 : decode cL_law 272 = .ok (.bipush 20, 2) := by decide +kernel
theorem dL_law_274 : decode cL_law 274 = .ok (.if_icmp .le 8, 3) := by decide +kernel
theorem dL_law_277 : decode cL_law 277 = .ok (.bipush (-2), 2) := by decide +kernel
theorem dL_law_279 : decode cL_law 279 = .ok (.goto 14, 3) := by decide +kernel
theorem dL_law_282 : decode cL_law 282 = .ok (.iload 15, 2) := by decide +kernel
theorem dL_law_284 : decode cL_law 284 = .ok (.ifCond .ge 8, 3) := by decide +kernel
theorem dL_law_287 : decode cL_law 287 = .ok (.bipush (-14), 2) := by decide +kernel
theorem dL_law_289 : decode cL_law 289 = .ok (.goto 4, 3) := by decide +kernel
theorem dL_law_292 : decode cL_law 292 = .ok (.iconst 1, 1) := by decide +kernel
theorem dL_law_293 : decode cL_law 293 = .ok (.if_icmp .ne 7, 3) := by decide +kernel
theorem dL_law_296 : decode cL_law 296 = .ok (.iconst 1, 1) := by decide +kernel
theorem dL_law_297 : decode cL_law 297 = .ok (.goto 4, 3) := by decide +kernel
theorem dL_law_300 : decode cL_law 300 = .ok (.iconst 0, 1) := by decide +kernel
theorem dL_law_301 : decode cL_law 301 = .ok (.iand, 1) := by decide +kernel
theorem dL_law_302 : decode cL_law 302 = .ok (.istore_n 2, 1) := by decide +kernel
theorem dL_law_303 : decode cL_law 303 = .ok (.iload 15, 2) := by decide +kernel
theorem dL_law_305 : decode cL_law 305 = .ok (.ifCond .lt 52, 3) := by decide +kernel
theorem dL_law_308 : decode cL_law 308 = .ok (.iload 15, 2) := by decide +kernel
theorem dL_law_310 : decode cL_law 310 = .ok (.bipush 20, 2) := by decide +kernel
theorem dL_law_312 : decode cL_law 312 = .ok (.if_icmp .gt 45, 3) := by decide +kernel
theorem dL_law_315 : decode cL_law 315 = .ok (.aload 5, 2) := by decide +kernel
theorem dL_law_317 : decode cL_law 317 = .ok (.iload 10, 2) := by decide +kernel
theorem dL_law_319 : decode cL_law 319 = .ok (.iload 14, 2) := by decide +kernel
theorem dL_law_321 : decode cL_law 321 = .ok (.iastore, 1) := by decide +kernel
theorem dL_law_322 : decode cL_law 322 = .ok (.aload 6, 2) := by decide +kernel
theorem dL_law_324 : decode cL_law 324 = .ok (.iload 10, 2) := by decide +kernel
theorem dL_law_326 : decode cL_law 326 = .ok (.iload 15, 2) := by decide +kernel
theorem dL_law_328 : decode cL_law 328 = .ok (.iastore, 1) := by decide +kernel
theorem dL_law_329 : decode cL_law 329 = .ok (.iconst 0, 1) := by decide +kernel
theorem dL_law_330 : decode cL_law 330 = .ok (.istore 16, 2) := by decide +kernel
theorem dL_law_332 : decode cL_law 332 = .ok (.iload 16, 2) := by decide +kernel
theorem dL_law_334 : decode cL_law 334 = .ok (.iload 15, 2) := by decide +kernel
theorem dL_law_336 : decode cL_law 336 = .ok (.if_icmp .ge 21, 3) := by decide +kernel
theorem dL_law_339 : decode cL_law 339 = .ok (.aload 7, 2) := by decide +kernel
theorem dL_law_341 : decode cL_law 341 = .ok (.bipush 20, 2) := by decide +kernel
theorem dL_law_343 : decode cL_law 343 = .ok (.iload 10, 2) := by decide +kernel
theorem dL_law_345 : decode cL_law 345 = .ok (.imul, 1) := by decide +kernel
theorem dL_law_346 : decode cL_law 346 = .ok (.iload 16, 2) := by decide +kernel
theorem dL_law_348 : decode cL_law 348 = .ok (.iadd, 1) := by decide +kernel
theorem dL_law_349 : decode cL_law 349 = .ok (.iconst (-1), 1) := by decide +kernel
theorem dL_law_350 : decode cL_law 350 = .ok (.iastore, 1) := by decide +kernel
theorem dL_law_351 : decode cL_law 351 = .ok (.iinc 16 1, 3) := by decide +kernel
theorem dL_law_354 : decode cL_law 354 = .ok (.goto (-22), 3) := by decide +kernel
theorem dL_law_357 : decode cL_law 357 = .ok (.goto 1020, 3) := by decide +kernel
theorem dL_law_360 : decode cL_law 360 = .ok (.iload 12, 2) := by decide +kernel
theorem dL_law_362 : decode cL_law 362 = .ok (.iconst 4, 1) := by decide +kernel
theorem dL_law_363 : decode cL_law 363 = .ok (.if_icmp .ge 273, 3) := by decide +kernel
theorem dL_law_366 : decode cL_law 366 = .ok (.iload 9, 2) := by decide +kernel
theorem dL_law_368 : decode cL_law 368 = .ok (.bipush 10, 2) := by decide +kernel
theorem dL_law_370 : decode cL_law 370 = .ok (.ishr, 1) := by decide +kernel
theorem dL_law_371 : decode cL_law 371 = .ok (.bipush 31, 2) := by decide +kernel
theorem dL_law_373 : decode cL_law 373 = .ok (.iand, 1) := by decide +kernel
theorem dL_law_374 : decode cL_law 374 = .ok (.iload 4, 2) := by decide +kernel
theorem dL_law_376 : decode cL_law 376 = .ok (.iconst 1, 1) := by decide +kernel
theorem dL_law_377 : decode cL_law 377 = .ok (.iadd, 1) := by decide +kernel
theorem dL_law_378 : decode cL_law 378 = .ok (.irem, 1) := by decide +kernel
theorem dL_law_379 : decode cL_law 379 = .ok (.iconst 1, 1) := by decide +kernel
theorem dL_law_380 : decode cL_law 380 = .ok (.isub, 1) := by decide +kernel
theorem dL_law_381 : decode cL_law 381 = .ok (.istore 14, 2) := by decide +kernel
theorem dL_law_383 : decode cL_law 383 = .ok (.iload 14, 2) := by decide +kernel
theorem dL_law_385 : decode cL_law 385 = .ok (.ifCond .ge 7, 3) := by decide +kernel
theorem dL_law_388 : decode cL_law 388 = .ok (.iconst 0, 1) := by decide +kernel
theorem dL_law_389 : decode cL_law 389 = .ok (.goto 7, 3) := by decide +kernel
theorem dL_law_392 : decode cL_law 392 = .ok (.aload_n 3, 1) := by decide +kernel
theorem dL_law_393 : decode cL_law 393 = .ok (.iload 14, 2) := by decide +kernel
theorem dL_law_395 : decode cL_law 395 = .ok (.iaload, 1) := by decide +kernel
theorem dL_law_396 : decode cL_law 396 = .ok (.istore 15, 2) := by decide +kernel
theorem dL_law_398 : decode cL_law 398 = .ok (.iload 14, 2) := by decide +kernel
theorem dL_law_400 : decode cL_law 400 = .ok (.ifCond .lt 57, 3) := by decide +kernel
theorem dL_law_403 : decode cL_law 403 = .ok (.aload 5, 2) := by decide +kernel
theorem dL_law_405 : decode cL_law 405 = .ok (.iload 10, 2) := by decide +kernel
theorem dL_law_407 : decode cL_law 407 = .ok (.iaload, 1) := by decide +kernel
theorem dL_law_408 : decode cL_law 408 = .ok (.ifCond .eq 49, 3) := by decide +kernel
theorem dL_law_411 : decode cL_law 411 = .ok (.aload 5, 2) := by decide +kernel
theorem dL_law_413 : decode cL_law 413 = .ok (.iload 10, 2) := by decide +kernel
theorem dL_law_415 : decode cL_law 415 = .ok (.iaload, 1) := by decide +kernel
theorem dL_law_416 : decode cL_law 416 = .ok (.iload 15, 2) := by decide +kernel
theorem dL_law_418 : decode cL_law 418 = .ok (.if_icmp .eq 39, 3) := by decide +kernel
theorem dL_law_421 : decode cL_law 421 = .ok (.aload 5, 2) := by decide +kernel
theorem dL_law_423 : decode cL_law 423 = .ok (.iload 10, 2) := by decide +kernel
theorem dL_law_425 : decode cL_law 425 = .ok (.iaload, 1) := by decide +kernel
theorem dL_law_426 : decode cL_law 426 = .ok (.iconst 1, 1) := by decide +kernel
theorem dL_law_427 : decode cL_law 427 = .ok (.if_icmp .ne 15, 3) := by decide +kernel
theorem dL_law_430 : decode cL_law 430 = .ok (.iload 15, 2) := by decide +kernel
theorem dL_law_432 : decode cL_law 432 = .ok (.iconst 3, 1) := by decide +kernel
theorem dL_law_433 : decode cL_law 433 = .ok (.if_icmp .eq 24, 3) := by decide +kernel
theorem dL_law_436 : decode cL_law 436 = .ok (.iload 15, 2) := by decide +kernel
theorem dL_law_438 : decode cL_law 438 = .ok (.iconst 4, 1) := by decide +kernel
theorem dL_law_439 : decode cL_law 439 = .ok (.if_icmp .eq 18, 3) := by decide +kernel
theorem dL_law_442 : decode cL_law 442 = .ok (.aload 5, 2) := by decide +kernel
theorem dL_law_444 : decode cL_law 444 = .ok (.iload 10, 2) := by decide +kernel
theorem dL_law_446 : decode cL_law 446 = .ok (.iaload, 1) := by decide +kernel
theorem dL_law_447 : decode cL_law 447 = .ok (.iconst 2, 1) := by decide +kernel
theorem dL_law_448 : decode cL_law 448 = .ok (.if_icmp .ne 13, 3) := by decide +kernel
theorem dL_law_451 : decode cL_law 451 = .ok (.iload 15, 2) := by decide +kernel
theorem dL_law_453 : decode cL_law 453 = .ok (.iconst 5, 1) := by decide +kernel
theorem dL_law_454 : decode cL_law 454 = .ok (.if_icmp .ne 7, 3) := by decide +kernel
theorem dL_law_457 : decode cL_law 457 = .ok (.iconst 1, 1) := by decide +kernel
theorem dL_law_458 : decode cL_law 458 = .ok (.goto 4, 3) := by decide +kernel
theorem dL_law_461 : decode cL_law 461 = .ok (.iconst 0, 1) := by decide +kernel
theorem dL_law_462 : decode cL_law 462 = .ok (.istore 16, 2) := by decide +kernel
theorem dL_law_464 : decode cL_law 464 = .ok (.aload 5, 2) := by decide +kernel
theorem dL_law_466 : decode cL_law 466 = .ok (.iload 10, 2) := by decide +kernel
theorem dL_law_468 : decode cL_law 468 = .ok (.iaload, 1) := by decide +kernel
theorem dL_law_469 : decode cL_law 469 = .ok (.ifCond .ge 8, 3) := by decide +kernel
theorem dL_law_472 : decode cL_law 472 = .ok (.bipush (-11), 2) := by decide +kernel
theorem dL_law_474 : decode cL_law 474 = .ok (.goto 34, 3) := by decide +kernel
theorem dL_law_477 : decode cL_law 477 = .ok (.iload 11, 2) := by decide +kernel
theorem dL_law_479 : decode cL_law 479 = .ok (.ifCond .lt 13, 3) := by decide +kernel
theorem dL_law_482 : decode cL_law 482 = .ok (.iload 11, 2) := by decide +kernel
theorem dL_law_484 : decode cL_law 484 = .ok (.aload 6, 2) := by decide +kernel
theorem dL_law_486 : decode cL_law 486 = .ok (.iload 10, 2) := by decide +kernel
theorem dL_law_488 : decode cL_law 488 = .ok (.iaload, 1) := by decide +kernel
theorem dL_law_489 : decode cL_law 489 = .ok (.if_icmp .lt 8, 3) := by decide +kernel
theorem dL_law_492 : decode cL_law 492 = .ok (.bipush (-12), 2) := by decide +kernel
theorem dL_law_494 : decode cL_law 494 = .ok (.goto 14, 3) := by decide +kernel
theorem dL_law_497 : decode cL_law 497 = .ok (.iload 16, 2) := by decide +kernel
theorem dL_law_499 : decode cL_law 499 = .ok (.ifCond .eq 7, 3) := by decide +kernel
theorem dL_law_502 : decode cL_law 502 = .ok (.iconst 1, 1) := by decide +kernel
theorem dL_law_503 : decode cL_law 503 = .ok (.goto 5, 3) := by decide +kernel
theorem dL_law_506 : decode cL_law 506 = .ok (.bipush (-16), 2) := by decide +kernel
theorem dL_law_508 : decode cL_law 508 = .ok (.istore 17, 2) := by decide +kernel
theorem dL_law_510 : decode cL_law 510 = .ok (.iload_n 2, 1) := by decide +kernel
theorem dL_law_511 : decode cL_law 511 = .ok (.aload_n 1, 1) := by decide +kernel
theorem dL_law_512 : decode cL_law 512 = .ok (.iload 10, 2) := by decide +kernel
theorem dL_law_514 : decode cL_law 514 = .ok (.iload 11, 2) := by decide +kernel
theorem dL_law_516 : decode cL_law 516 = .ok (.iload 14, 2) := by decide +kernel
theorem dL_law_518 : decode cL_law 518 = .ok (.invokevirtual 81, 3) := by decide +kernel
theorem dL_law_521 : decode cL_law 521 = .ok (.iload 17, 2) := by decide +kernel
theorem dL_law_523 : decode cL_law 523 = .ok (.if_icmp .ne 7, 3) := by decide +kernel
theorem dL_law_526 : decode cL_law 526 = .ok (.iconst 1, 1) := by decide +kernel
theorem dL_law_527 : decode cL_law 527 = .ok (.goto 4, 3) := by decide +kernel
theorem dL_law_530 : decode cL_law 530 = .ok (.iconst 0, 1) := by decide +kernel
theorem dL_law_531 : decode cL_law 531 = .ok (.iand, 1) := by decide +kernel
theorem dL_law_532 : decode cL_law 532 = .ok (.istore_n 2, 1) := by decide +kernel
theorem dL_law_533 : decode cL_law 533 = .ok (.iload 17, 2) := by decide +kernel
theorem dL_law_535 : decode cL_law 535 = .ok (.iconst 1, 1) := by decide +kernel
theorem dL_law_536 : decode cL_law 536 = .ok (.if_icmp .ne 16, 3) := by decide +kernel
theorem dL_law_539 : decode cL_law 539 = .ok (.aload 7, 2) := by decide +kernel
theorem dL_law_541 : decode cL_law 541 = .ok (.bipush 20, 2) := by decide +kernel
theorem dL_law_543 : decode cL_law 543 = .ok (.iload 10, 2) := by decide +kernel
theorem dL_law_545 : decode cL_law 545 = .ok (.imul, 1) := by decide +kernel
theorem dL_law_546 : decode cL_law 546 = .ok (.iload 11, 2) := by decide +kernel
theorem dL_law_548 : decode cL_law 548 = .ok (.iadd, 1) := by decide +kernel
theorem dL_law_549 : decode cL_law 549 = .ok (.iload 14, 2) := by decide +kernel
theorem dL_law_551 : decode cL_law 551 = .ok (.iastore, 1) := by decide +kernel
theorem dL_law_552 : decode cL_law 552 = .ok (.iload 14, 2) := by decide +kernel
theorem dL_law_554 : decode cL_law 554 = .ok (.ifCond .lt 79, 3) := by decide +kernel
theorem dL_law_557 : decode cL_law 557 = .ok (.aload 5, 2) := by decide +kernel
theorem dL_law_559 : decode cL_law 559 = .ok (.iload 10, 2) := by decide +kernel
theorem dL_law_561 : decode cL_law 561 = .ok (.iaload, 1) := by decide +kernel
theorem dL_law_562 : decode cL_law 562 = .ok (.ifCond .lt 71, 3) := by decide +kernel
theorem dL_law_565 : decode cL_law 565 = .ok (.aload_n 1, 1) := by decide +kernel
theorem dL_law_566 : decode cL_law 566 = .ok (.iload 14, 2) := by decide +kernel
theorem dL_law_568 : decode cL_law 568 = .ok (.aload 5, 2) := by decide +kernel
theorem dL_law_570 : decode cL_law 570 = .ok (.iload 10, 2) := by decide +kernel
theorem dL_law_572 : decode cL_law 572 = .ok (.iaload, 1) := by decide +kernel
theorem dL_law_573 : decode cL_law 573 = .ok (.invokevirtual 84, 3) := by decide +kernel
theorem dL_law_576 : decode cL_law 576 = .ok (.istore 18, 2) := by decide +kernel
theorem dL_law_578 : decode cL_law 578 = .ok (.iload_n 2, 1) := by decide +kernel
theorem dL_law_579 : decode cL_law 579 = .ok (.iload 16, 2) := by decide +kernel
theorem dL_law_581 : decode cL_law 581 = .ok (.ifCond .eq 38, 3) := by decide +kernel
theorem dL_law_584 : decode cL_law 584 = .ok (.iload 18, 2) := by decide +kernel
theorem dL_law_586 : decode cL_law 586 = .ok (.aload_n 1, 1) := by decide +kernel
theorem dL_law_587 : decode cL_law 587 = .ok (.iload 14, 2) := by decide +kernel
theorem dL_law_589 : decode cL_law 589 = .ok (.iconst 5, 1) := by decide +kernel
theorem dL_law_590 : decode cL_law 590 = .ok (.bipush 8, 2) := by decide +kernel
theorem dL_law_592 : decode cL_law 592 = .ok (.aload_n 1, 1) := by decide +kernel
theorem dL_law_593 : decode cL_law 593 = .ok (.iload 14, 2) := by decide +kernel
theorem dL_law_595 : decode cL_law 595 = .ok (.iconst 2, 1) := by decide +kernel
theorem dL_law_596 : decode cL_law 596 = .ok (.invokevirtual 87, 3) := by decide +kernel
theorem dL_law_599 : decode cL_law 599 = .ok (.imul, 1) := by decide +kernel
theorem dL_law_600 : decode cL_law 600 = .ok (.iadd, 1) := by decide +kernel
theorem dL_law_601 : decode cL_law 601 = .ok (.bipush 24, 2) := by decide +kernel
theorem dL_law_603 : decode cL_law 603 = .ok (.iadd, 1) := by decide +kernel
theorem dL_law_604 : decode cL_law 604 = .ok (.iconst (-1), 1) := by decide +kernel
theorem dL_law_605 : decode cL_law 605 = .ok (.invokevirtual 90, 3) := by decide +kernel
theorem dL_law_608 : decode cL_law 608 = .ok (.if_icmp .ne 7, 3) := by decide +kernel
theorem dL_law_611 : decode cL_law 611 = .ok (.iconst 1, 1) := by decide +kernel
theorem dL_law_612 : decode cL_law 612 = .ok (.goto 19, 3) := by decide +kernel
theorem dL_law_615 : decode cL_law 615 = .ok (.iconst 0, 1) := by decide +kernel
theorem dL_law_616 : decode cL_law 616 = .ok (.goto 15, 3) := by decide +kernel
theorem dL_law_619 : decode cL_law 619 = .ok (.iload 18, 2) := by decide +kernel
theorem dL_law_621 : decode cL_law 621 = .ok (.bipush (-13), 2) := by decide +kernel
theorem dL_law_623 : decode cL_law 623 = .ok (.if_icmp .ne 7, 3) := by decide +kernel
theorem dL_law_626 : decode cL_law 626 = .ok (.iconst 1, 1) := by decide +kernel
theorem dL_law_627 : decode cL_law 627 = .ok (.goto 4, 3) := by decide +kernel
theorem dL_law_630 : decode cL_law 630 = .ok (.iconst 0, 1) := by decide +kernel
theorem dL_law_631 : decode cL_law 631 = .ok (.iand, 1) := by decide +kernel
theorem dL_law_632 : decode cL_law 632 = .ok (.istore_n 2, 1) := by decide +kernel
theorem dL_law_633 : decode cL_law 633 = .ok (.goto 744, 3) := by decide +kernel
theorem dL_law_636 : decode cL_law 636 = .ok (.iload 12, 2) := by decide +kernel
theorem dL_law_638 : decode cL_law 638 = .ok (.iconst 4, 1) := by decide +kernel
theorem dL_law_639 : decode cL_law 639 = .ok (.if_icmp .ne 121, 3) := by decide +kernel
theorem dL_law_642 : decode cL_law 642 = .ok (.iload 9, 2) := by decide +kernel
theorem dL_law_644 : decode cL_law 644 = .ok (.bipush 10, 2) := by decide +kernel
theorem dL_law_646 : decode cL_law 646 = .ok (.ishr, 1) := by decide +kernel
theorem dL_law_647 : decode cL_law 647 = .ok (.iconst 3, 1) := by decide +kernel
theorem dL_law_648 : decode cL_law 648 = .ok (.iand, 1) := by decide +kernel
theorem dL_law_649 : decode cL_law 649 = .ok (.istore 14, 2) := by decide +kernel
theorem dL_law_651 : decode cL_law 651 = .ok (.iload_n 2, 1) := by decide +kernel
theorem dL_law_652 : decode cL_law 652 = .ok (.aload_n 1, 1) := by decide +kernel
theorem dL_law_653 : decode cL_law 653 = .ok (.iload 10, 2) := by decide +kernel
theorem dL_law_655 : decode cL_law 655 = .ok (.iload 14, 2) := by decide +kernel
theorem dL_law_657 : decode cL_law 657 = .ok (.invokevirtual 93, 3) := by decide +kernel
theorem dL_law_660 : decode cL_law 660 = .ok (.aload 5, 2) := by decide +kernel
theorem dL_law_662 : decode cL_law 662 = .ok (.iload 14, 2) := by decide +kernel
theorem dL_law_664 : decode cL_law 664 = .ok (.iaload, 1) := by decide +kernel
theorem dL_law_665 : decode cL_law 665 = .ok (.ifCond .ge 8, 3) := by decide +kernel
theorem dL_law_668 : decode cL_law 668 = .ok (.bipush (-11), 2) := by decide +kernel
theorem dL_law_670 : decode cL_law 670 = .ok (.goto 8, 3) := by decide +kernel
theorem dL_law_673 : decode cL_law 673 = .ok (.aload 6, 2) := by decide +kernel
theorem dL_law_675 : decode cL_law 675 = .ok (.iload 14, 2) := by decide +kernel
theorem dL_law_677 : decode cL_law 677 = .ok (.iaload, 1) := by decide +kernel
theorem dL_law_678 : decode cL_law 678 = .ok (.if_icmp .ne 7, 3) := by decide +kernel
theorem dL_law_681 : decode cL_law 681 = .ok (.iconst 1, 1) := by decide +kernel
theorem dL_law_682 : decode cL_law 682 = .ok (.goto 4, 3) := by decide +kernel
theorem dL_law_685 : decode cL_law 685 = .ok (.iconst 0, 1) := by decide +kernel
theorem dL_law_686 : decode cL_law 686 = .ok (.iand, 1) := by decide +kernel
theorem dL_law_687 : decode cL_law 687 = .ok (.istore_n 2, 1) := by decide +kernel
theorem dL_law_688 : decode cL_law 688 = .ok (.aload 5, 2) := by decide +kernel
theorem dL_law_690 : decode cL_law 690 = .ok (.iload 14, 2) := by decide +kernel
theorem dL_law_692 : decode cL_law 692 = .ok (.iaload, 1) := by decide +kernel
theorem dL_law_693 : decode cL_law 693 = .ok (.ifCond .lt 64, 3) := by decide +kernel
theorem dL_law_696 : decode cL_law 696 = .ok (.aload 5, 2) := by decide +kernel
theorem dL_law_698 : decode cL_law 698 = .ok (.iload 10, 2) := by decide +kernel
theorem dL_law_700 : decode cL_law 700 = .ok (.aload 5, 2) := by decide +kernel
theorem dL_law_702 : decode cL_law 702 = .ok (.iload 14, 2) := by decide +kernel
theorem dL_law_704 : decode cL_law 704 = .ok (.iaload, 1) := by decide +kernel
theorem dL_law_705 : decode cL_law 705 = .ok (.iastore, 1) := by decide +kernel
theorem dL_law_706 : decode cL_law 706 = .ok (.aload 6, 2) := by decide +kernel
theorem dL_law_708 : decode cL_law 708 = .ok (.iload 10, 2) := by decide +kernel
theorem dL_law_710 : decode cL_law 710 = .ok (.aload 6, 2) := by decide +kernel
theorem dL_law_712 : decode cL_law 712 = .ok (.iload 14, 2) := by decide +kernel
theorem dL_law_714 : decode cL_law 714 = .ok (.iaload, 1) := by decide +kernel
theorem dL_law_715 : decode cL_law 715 = .ok (.iastore, 1) := by decide +kernel
theorem dL_law_716 : decode cL_law 716 = .ok (.iconst 0, 1) := by decide +kernel
theorem dL_law_717 : decode cL_law 717 = .ok (.istore 15, 2) := by decide +kernel
theorem dL_law_719 : decode cL_law 719 = .ok (.iload 15, 2) := by decide +kernel
theorem dL_law_721 : decode cL_law 721 = .ok (.aload 6, 2) := by decide +kernel
theorem dL_law_723 : decode cL_law 723 = .ok (.iload 14, 2) := by decide +kernel
theorem dL_law_725 : decode cL_law 725 = .ok (.iaload, 1) := by decide +kernel
theorem dL_law_726 : decode cL_law 726 = .ok (.if_icmp .ge 31, 3) := by decide +kernel
theorem dL_law_729 : decode cL_law 729 = .ok (.aload 7, 2) := by decide +kernel
theorem dL_law_731 : decode cL_law 731 = .ok (.bipush 20, 2) := by decide +kernel
theorem dL_law_733 : decode cL_law 733 = .ok (.iload 10, 2) := by decide +kernel
theorem dL_law_735 : decode cL_law 735 = .ok (.imul, 1) := by decide +kernel
theorem dL_law_736 : decode cL_law 736 = .ok (.iload 15, 2) := by decide +kernel
theorem dL_law_738 : decode cL_law 738 = .ok (.iadd, 1) := by decide +kernel
theorem dL_law_739 : decode cL_law 739 = .ok (.aload 7, 2) := by decide +kernel
theorem dL_law_741 : decode cL_law 741 = .ok (.bipush 20, 2) := by decide +kernel
theorem dL_law_743 : decode cL_law 743 = .ok (.iload 14, 2) := by decide +kernel
theorem dL_law_745 : decode cL_law 745 = .ok (.imul, 1) := by decide +kernel
theorem dL_law_746 : decode cL_law 746 = .ok (.iload 15, 2) := by decide +kernel
theorem dL_law_748 : decode cL_law 748 = .ok (.iadd, 1) := by decide +kernel
theorem dL_law_749 : decode cL_law 749 = .ok (.iaload, 1) := by decide +kernel
theorem dL_law_750 : decode cL_law 750 = .ok (.iastore, 1) := by decide +kernel
theorem dL_law_751 : decode cL_law 751 = .ok (.iinc 15 1, 3) := by decide +kernel
theorem dL_law_754 : decode cL_law 754 = .ok (.goto (-35), 3) := by decide +kernel
theorem dL_law_757 : decode cL_law 757 = .ok (.goto 620, 3) := by decide +kernel
theorem dL_law_760 : decode cL_law 760 = .ok (.iload 12, 2) := by decide +kernel
theorem dL_law_762 : decode cL_law 762 = .ok (.iconst 5, 1) := by decide +kernel
theorem dL_law_763 : decode cL_law 763 = .ok (.if_icmp .ne 72, 3) := by decide +kernel
theorem dL_law_766 : decode cL_law 766 = .ok (.iload 4, 2) := by decide +kernel
theorem dL_law_768 : decode cL_law 768 = .ok (.bipush 20, 2) := by decide +kernel
theorem dL_law_770 : decode cL_law 770 = .ok (.if_icmp .ge 65, 3) := by decide +kernel
theorem dL_law_773 : decode cL_law 773 = .ok (.iload 9, 2) := by decide +kernel
theorem dL_law_775 : decode cL_law 775 = .ok (.bipush 10, 2) := by decide +kernel
theorem dL_law_777 : decode cL_law 777 = .ok (.ishr, 1) := by decide +kernel
theorem dL_law_778 : decode cL_law 778 = .ok (.bipush 7, 2) := by decide +kernel
theorem dL_law_780 : decode cL_law 780 = .ok (.iand, 1) := by decide +kernel
theorem dL_law_781 : decode cL_law 781 = .ok (.bipush 6, 2) := by decide +kernel
theorem dL_law_783 : decode cL_law 783 = .ok (.irem, 1) := by decide +kernel
theorem dL_law_784 : decode cL_law 784 = .ok (.istore 14, 2) := by decide +kernel
theorem dL_law_786 : decode cL_law 786 = .ok (.iload_n 2, 1) := by decide +kernel
theorem dL_law_787 : decode cL_law 787 = .ok (.aload_n 1, 1) := by decide +kernel
theorem dL_law_788 : decode cL_law 788 = .ok (.iload 9, 2) := by decide +kernel
theorem dL_law_790 : decode cL_law 790 = .ok (.bipush 13, 2) := by decide +kernel
theorem dL_law_792 : decode cL_law 792 = .ok (.ishr, 1) := by decide +kernel
theorem dL_law_793 : decode cL_law 793 = .ok (.iconst 2, 1) := by decide +kernel
theorem dL_law_794 : decode cL_law 794 = .ok (.invokestatic 54, 3) := by decide +kernel
theorem dL_law_797 : decode cL_law 797 = .ok (.invokestatic 58, 3) := by decide +kernel
theorem dL_law_800 : decode cL_law 800 = .ok (.ifCond .eq 20, 3) := by decide +kernel
theorem dL_law_803 : decode cL_law 803 = .ok (.aload_n 1, 1) := by decide +kernel
theorem dL_law_804 : decode cL_law 804 = .ok (.iload 14, 2) := by decide +kernel
theorem dL_law_806 : decode cL_law 806 = .ok (.iconst 0, 1) := by decide +kernel
theorem dL_law_807 : decode cL_law 807 = .ok (.iconst 0, 1) := by decide +kernel
theorem dL_law_808 : decode cL_law 808 = .ok (.invokevirtual 62, 3) := by decide +kernel
theorem dL_law_811 : decode cL_law 811 = .ok (.iload 4, 2) := by decide +kernel
theorem dL_law_813 : decode cL_law 813 = .ok (.if_icmp .ne 7, 3) := by decide +kernel
theorem dL_law_816 : decode cL_law 816 = .ok (.iconst 1, 1) := by decide +kernel
theorem dL_law_817 : decode cL_law 817 = .ok (.goto 4, 3) := by decide +kernel
theorem dL_law_820 : decode cL_law 820 = .ok (.iconst 0, 1) := by decide +kernel
theorem dL_law_821 : decode cL_law 821 = .ok (.iand, 1) := by decide +kernel
theorem dL_law_822 : decode cL_law 822 = .ok (.istore_n 2, 1) := by decide +kernel
theorem dL_law_823 : decode cL_law 823 = .ok (.aload_n 3, 1) := by decide +kernel
theorem dL_law_824 : decode cL_law 824 = .ok (.iload 4, 2) := by decide +kernel
theorem dL_law_826 : decode cL_law 826 = .ok (.iload 14, 2) := by decide +kernel
theorem dL_law_828 : decode cL_law 828 = .ok (.iastore, 1) := by decide +kernel
theorem dL_law_829 : decode cL_law 829 = .ok (.iinc 4 1, 3) := by decide +kernel
theorem dL_law_832 : decode cL_law 832 = .ok (.goto 545, 3) := by decide +kernel
theorem dL_law_835 : decode cL_law 835 = .ok (.iload 12, 2) := by decide +kernel
theorem dL_law_837 : decode cL_law 837 = .ok (.bipush 6, 2) := by decide +kernel
theorem dL_law_839 : decode cL_law 839 = .ok (.if_icmp .ne 369, 3) := by decide +kernel
theorem dL_law_842 : decode cL_law 842 = .ok (.iload 9, 2) := by decide +kernel
theorem dL_law_844 : decode cL_law 844 = .ok (.bipush 10, 2) := by decide +kernel
theorem dL_law_846 : decode cL_law 846 = .ok (.ishr, 1) := by decide +kernel
theorem dL_law_847 : decode cL_law 847 = .ok (.iconst 1, 1) := by decide +kernel
theorem dL_law_848 : decode cL_law 848 = .ok (.iand, 1) := by decide +kernel
theorem dL_law_849 : decode cL_law 849 = .ok (.istore 14, 2) := by decide +kernel
theorem dL_law_851 : decode cL_law 851 = .ok (.iload_n 2, 1) := by decide +kernel
theorem dL_law_852 : decode cL_law 852 = .ok (.aload_n 1, 1) := by decide +kernel
theorem dL_law_853 : decode cL_law 853 = .ok (.iconst 0, 1) := by decide +kernel
theorem dL_law_854 : decode cL_law 854 = .ok (.iload 14, 2) := by decide +kernel
theorem dL_law_856 : decode cL_law 856 = .ok (.iconst 4, 1) := by decide +kernel
theorem dL_law_857 : decode cL_law 857 = .ok (.invokevirtual 96, 3) := by decide +kernel
theorem dL_law_860 : decode cL_law 860 = .ok (.iconst 1, 1) := by decide +kernel
theorem dL_law_861 : decode cL_law 861 = .ok (.if_icmp .ne 7, 3) := by decide +kernel
theorem dL_law_864 : decode cL_law 864 = .ok (.iconst 1, 1) := by decide +kernel
theorem dL_law_865 : decode cL_law 865 = .ok (.goto 4, 3) := by decide +kernel
theorem dL_law_868 : decode cL_law 868 = .ok (.iconst 0, 1) := by decide +kernel
theorem dL_law_869 : decode cL_law 869 = .ok (.iand, 1) := by decide +kernel
theorem dL_law_870 : decode cL_law 870 = .ok (.istore_n 2, 1) := by decide +kernel
theorem dL_law_871 : decode cL_law 871 = .ok (.iconst 0, 1) := by decide +kernel
theorem dL_law_872 : decode cL_law 872 = .ok (.istore 15, 2) := by decide +kernel
theorem dL_law_874 : decode cL_law 874 = .ok (.iconst 0, 1) := by decide +kernel
theorem dL_law_875 : decode cL_law 875 = .ok (.istore 16, 2) := by decide +kernel
theorem dL_law_877 : decode cL_law 877 = .ok (.iconst 0, 1) := by decide +kernel
theorem dL_law_878 : decode cL_law 878 = .ok (.istore 17, 2) := by decide +kernel
theorem dL_law_880 : decode cL_law 880 = .ok (.iload 17, 2) := by decide +kernel
theorem dL_law_882 : decode cL_law 882 = .ok (.aload 13, 2) := by decide +kernel
theorem dL_law_884 : decode cL_law 884 = .ok (.invokevirtual 9, 3) := by decide +kernel
theorem dL_law_887 : decode cL_law 887 = .ok (.if_icmp .gt 64, 3) := by decide +kernel
theorem dL_law_890 : decode cL_law 890 = .ok (.iload 17, 2) := by decide +kernel
theorem dL_law_892 : decode cL_law 892 = .ok (.aload 13, 2) := by decide +kernel
theorem dL_law_894 : decode cL_law 894 = .ok (.invokevirtual 9, 3) := by decide +kernel
theorem dL_law_897 : decode cL_law 897 = .ok (.if_icmp .eq 15, 3) := by decide +kernel
theorem dL_law_900 : decode cL_law 900 = .ok (.aload 13, 2) := by decide +kernel
theorem dL_law_902 : decode cL_law 902 = .ok (.iload 17, 2) := by decide +kernel
theorem dL_law_904 : decode cL_law 904 = .ok (.invokevirtual 15, 3) := by decide +kernel
theorem dL_law_907 : decode cL_law 907 = .ok (.bipush 32, 2) := by decide +kernel
theorem dL_law_909 : decode cL_law 909 = .ok (.if_icmp .ne 36, 3) := by decide +kernel
theorem dL_law_912 : decode cL_law 912 = .ok (.iload_n 2, 1) := by decide +kernel
theorem dL_law_913 : decode cL_law 913 = .ok (.aload_n 1, 1) := by decide +kernel
theorem dL_law_914 : decode cL_law 914 = .ok (.iconst 0, 1) := by decide +kernel
theorem dL_law_915 : decode cL_law 915 = .ok (.iload 16, 2) := by decide +kernel
theorem dL_law_917 : decode cL_law 917 = .ok (.iload 17, 2) := by decide +kernel
theorem dL_law_919 : decode cL_law 919 = .ok (.iload 15, 2) := by decide +kernel
theorem dL_law_921 : decode cL_law 921 = .ok (.isub, 1) := by decide +kernel
theorem dL_law_922 : decode cL_law 922 = .ok (.invokevirtual 99, 3) := by decide +kernel
theorem dL_law_925 : decode cL_law 925 = .ok (.iconst 1, 1) := by decide +kernel
theorem dL_law_926 : decode cL_law 926 = .ok (.if_icmp .ne 7, 3) := by decide +kernel
theorem dL_law_929 : decode cL_law 929 = .ok (.iconst 1, 1) := by decide +kernel
theorem dL_law_930 : decode cL_law 930 = .ok (.goto 4, 3) := by decide +kernel
theorem dL_law_933 : decode cL_law 933 = .ok (.iconst 0, 1) := by decide +kernel
theorem dL_law_934 : decode cL_law 934 = .ok (.iand, 1) := by decide +kernel
theorem dL_law_935 : decode cL_law 935 = .ok (.istore_n 2, 1) := by decide +kernel
theorem dL_law_936 : decode cL_law 936 = .ok (.iload 17, 2) := by decide +kernel
theorem dL_law_938 : decode cL_law 938 = .ok (.iconst 1, 1) := by decide +kernel
theorem dL_law_939 : decode cL_law 939 = .ok (.iadd, 1) := by decide +kernel
theorem dL_law_940 : decode cL_law 940 = .ok (.istore 15, 2) := by decide +kernel
theorem dL_law_942 : decode cL_law 942 = .ok (.iinc 16 1, 3) := by decide +kernel
theorem dL_law_945 : decode cL_law 945 = .ok (.iinc 17 1, 3) := by decide +kernel
theorem dL_law_948 : decode cL_law 948 = .ok (.goto (-68), 3) := by decide +kernel
theorem dL_law_951 : decode cL_law 951 = .ok (.iload_n 2, 1) := by decide +kernel
theorem dL_law_952 : decode cL_law 952 = .ok (.iload 16, 2) := by decide +kernel
theorem dL_law_954 : decode cL_law 954 = .ok (.iconst 4, 1) := by decide +kernel
theorem dL_law_955 : decode cL_law 955 = .ok (.if_icmp .ne 43, 3) := by decide +kernel
theorem dL_law_958 : decode cL_law 958 = .ok (.aload_n 1, 1) := by decide +kernel
theorem dL_law_959 : decode cL_law 959 = .ok (.iconst 0, 1) := by decide +kernel
theorem dL_law_960 : decode cL_law 960 = .ok (.iconst 0, 1) := by decide +kernel
theorem dL_law_961 : decode cL_law 961 = .ok (.invokevirtual 102, 3) := by decide +kernel
theorem dL_law_964 : decode cL_law 964 = .ok (.iconst (-1), 1) := by decide +kernel
theorem dL_law_965 : decode cL_law 965 = .ok (.if_icmp .ne 33, 3) := by decide +kernel
theorem dL_law_968 : decode cL_law 968 = .ok (.aload_n 1, 1) := by decide +kernel
theorem dL_law_969 : decode cL_law 969 = .ok (.iconst 0, 1) := by decide +kernel
theorem dL_law_970 : decode cL_law 970 = .ok (.iconst 1, 1) := by decide +kernel
theorem dL_law_971 : decode cL_law 971 = .ok (.invokevirtual 102, 3) := by decide +kernel
theorem dL_law_974 : decode cL_law 974 = .ok (.iconst 1, 1) := by decide +kernel
theorem dL_law_975 : decode cL_law 975 = .ok (.ishr, 1) := by decide +kernel
theorem dL_law_976 : decode cL_law 976 = .ok (.iconst 1, 1) := by decide +kernel
theorem dL_law_977 : decode cL_law 977 = .ok (.iand, 1) := by decide +kernel
theorem dL_law_978 : decode cL_law 978 = .ok (.iconst 1, 1) := by decide +kernel
theorem dL_law_979 : decode cL_law 979 = .ok (.if_icmp .ne 19, 3) := by decide +kernel
theorem dL_law_982 : decode cL_law 982 = .ok (.aload_n 1, 1) := by decide +kernel
theorem dL_law_983 : decode cL_law 983 = .ok (.iconst 0, 1) := by decide +kernel
theorem dL_law_984 : decode cL_law 984 = .ok (.iconst 2, 1) := by decide +kernel
theorem dL_law_985 : decode cL_law 985 = .ok (.invokevirtual 102, 3) := by decide +kernel
theorem dL_law_988 : decode cL_law 988 = .ok (.iconst 1, 1) := by decide +kernel
theorem dL_law_989 : decode cL_law 989 = .ok (.iand, 1) := by decide +kernel
theorem dL_law_990 : decode cL_law 990 = .ok (.iconst 1, 1) := by decide +kernel
theorem dL_law_991 : decode cL_law 991 = .ok (.if_icmp .ne 7, 3) := by decide +kernel
theorem dL_law_994 : decode cL_law 994 = .ok (.iconst 1, 1) := by decide +kernel
theorem dL_law_995 : decode cL_law 995 = .ok (.goto 4, 3) := by decide +kernel
theorem dL_law_998 : decode cL_law 998 = .ok (.iconst 0, 1) := by decide +kernel
theorem dL_law_999 : decode cL_law 999 = .ok (.iand, 1) := by decide +kernel
theorem dL_law_1000 : decode cL_law 1000 = .ok (.istore_n 2, 1) := by decide +kernel
theorem dL_law_1001 : decode cL_law 1001 = .ok (.iload 9, 2) := by decide +kernel
theorem dL_law_1003 : decode cL_law 1003 = .ok (.bipush 11, 2) := by decide +kernel
theorem dL_law_1005 : decode cL_law 1005 = .ok (.ishr, 1) := by decide +kernel
theorem dL_law_1006 : decode cL_law 1006 = .ok (.iconst 3, 1) := by decide +kernel
theorem dL_law_1007 : decode cL_law 1007 = .ok (.iand, 1) := by decide +kernel
theorem dL_law_1008 : decode cL_law 1008 = .ok (.istore 17, 2) := by decide +kernel
theorem dL_law_1010 : decode cL_law 1010 = .ok (.iload_n 2, 1) := by decide +kernel
theorem dL_law_1011 : decode cL_law 1011 = .ok (.aload_n 1, 1) := by decide +kernel
theorem dL_law_1012 : decode cL_law 1012 = .ok (.iconst 1, 1) := by decide +kernel
theorem dL_law_1013 : decode cL_law 1013 = .ok (.iload 14, 2) := by decide +kernel
theorem dL_law_1015 : decode cL_law 1015 = .ok (.iconst 4, 1) := by decide +kernel
theorem dL_law_1016 : decode cL_law 1016 = .ok (.invokevirtual 96, 3) := by decide +kernel
theorem dL_law_1019 : decode cL_law 1019 = .ok (.iconst 1, 1) := by decide +kernel
theorem dL_law_1020 : decode cL_law 1020 = .ok (.if_icmp .ne 62, 3) := by decide +kernel
theorem dL_law_1023 : decode cL_law 1023 = .ok (.aload_n 1, 1) := by decide +kernel
theorem dL_law_1024 : decode cL_law 1024 = .ok (.iconst 0, 1) := by decide +kernel
theorem dL_law_1025 : decode cL_law 1025 = .ok (.iconst 0, 1) := by decide +kernel
theorem dL_law_1026 : decode cL_law 1026 = .ok (.iconst 1, 1) := by decide +kernel
theorem dL_law_1027 : decode cL_law 1027 = .ok (.iconst 0, 1) := by decide +kernel
theorem dL_law_1028 : decode cL_law 1028 = .ok (.iconst 4, 1) := by decide +kernel
theorem dL_law_1029 : decode cL_law 1029 = .ok (.invokevirtual 105, 3) := by decide +kernel
theorem dL_law_1032 : decode cL_law 1032 = .ok (.iconst 4, 1) := by decide +kernel
theorem dL_law_1033 : decode cL_law 1033 = .ok (.if_icmp .ne 49, 3) := by decide +kernel
theorem dL_law_1036 : decode cL_law 1036 = .ok (.aload_n 1, 1) := by decide +kernel
theorem dL_law_1037 : decode cL_law 1037 = .ok (.iconst 1, 1) := by decide +kernel
theorem dL_law_1038 : decode cL_law 1038 = .ok (.iload 17, 2) := by decide +kernel
theorem dL_law_1040 : decode cL_law 1040 = .ok (.bipush 99, 2) := by decide +kernel
theorem dL_law_1042 : decode cL_law 1042 = .ok (.invokevirtual 99, 3) := by decide +kernel
theorem dL_law_1045 : decode cL_law 1045 = .ok (.iconst 1, 1) := by decide +kernel
theorem dL_law_1046 : decode cL_law 1046 = .ok (.if_icmp .ne 36, 3) := by decide +kernel
theorem dL_law_1049 : decode cL_law 1049 = .ok (.aload_n 1, 1) := by decide +kernel
theorem dL_law_1050 : decode cL_law 1050 = .ok (.iconst 1, 1) := by decide +kernel
theorem dL_law_1051 : decode cL_law 1051 = .ok (.iconst 0, 1) := by decide +kernel
theorem dL_law_1052 : decode cL_law 1052 = .ok (.invokevirtual 102, 3) := by decide +kernel
theorem dL_law_1055 : decode cL_law 1055 = .ok (.iload 17, 2) := by decide +kernel
theorem dL_law_1057 : decode cL_law 1057 = .ok (.if_icmp .ne 25, 3) := by decide +kernel
theorem dL_law_1060 : decode cL_law 1060 = .ok (.aload_n 1, 1) := by decide +kernel
theorem dL_law_1061 : decode cL_law 1061 = .ok (.iconst 1, 1) := by decide +kernel
theorem dL_law_1062 : decode cL_law 1062 = .ok (.iconst 1, 1) := by decide +kernel
theorem dL_law_1063 : decode cL_law 1063 = .ok (.invokevirtual 102, 3) := by decide +kernel
theorem dL_law_1066 : decode cL_law 1066 = .ok (.ifCond .ne 16, 3) := by decide +kernel
theorem dL_law_1069 : decode cL_law 1069 = .ok (.aload_n 1, 1) := by decide +kernel
theorem dL_law_1070 : decode cL_law 1070 = .ok (.iconst 1, 1) := by decide +kernel
theorem dL_law_1071 : decode cL_law 1071 = .ok (.iconst 2, 1) := by decide +kernel
theorem dL_law_1072 : decode cL_law 1072 = .ok (.invokevirtual 102, 3) := by decide +kernel
theorem dL_law_1075 : decode cL_law 1075 = .ok (.ifCond .ne 7, 3) := by decide +kernel
theorem dL_law_1078 : decode cL_law 1078 = .ok (.iconst 1, 1) := by decide +kernel
theorem dL_law_1079 : decode cL_law 1079 = .ok (.goto 4, 3) := by decide +kernel
theorem dL_law_1082 : decode cL_law 1082 = .ok (.iconst 0, 1) := by decide +kernel
theorem dL_law_1083 : decode cL_law 1083 = .ok (.iand, 1) := by decide +kernel
theorem dL_law_1084 : decode cL_law 1084 = .ok (.istore_n 2, 1) := by decide +kernel
theorem dL_law_1085 : decode cL_law 1085 = .ok (.iload_n 2, 1) := by decide +kernel
theorem dL_law_1086 : decode cL_law 1086 = .ok (.aload_n 1, 1) := by decide +kernel
theorem dL_law_1087 : decode cL_law 1087 = .ok (.iconst 2, 1) := by decide +kernel
theorem dL_law_1088 : decode cL_law 1088 = .ok (.iload 14, 2) := by decide +kernel
theorem dL_law_1090 : decode cL_law 1090 = .ok (.iconst 3, 1) := by decide +kernel
theorem dL_law_1091 : decode cL_law 1091 = .ok (.invokevirtual 96, 3) := by decide +kernel
theorem dL_law_1094 : decode cL_law 1094 = .ok (.iconst 1, 1) := by decide +kernel
theorem dL_law_1095 : decode cL_law 1095 = .ok (.if_icmp .ne 107, 3) := by decide +kernel
theorem dL_law_1098 : decode cL_law 1098 = .ok (.aload_n 1, 1) := by decide +kernel
theorem dL_law_1099 : decode cL_law 1099 = .ok (.iconst 0, 1) := by decide +kernel
theorem dL_law_1100 : decode cL_law 1100 = .ok (.iconst 0, 1) := by decide +kernel
theorem dL_law_1101 : decode cL_law 1101 = .ok (.iconst 2, 1) := by decide +kernel
theorem dL_law_1102 : decode cL_law 1102 = .ok (.iconst 0, 1) := by decide +kernel
theorem dL_law_1103 : decode cL_law 1103 = .ok (.iconst 3, 1) := by decide +kernel
theorem dL_law_1104 : decode cL_law 1104 = .ok (.invokevirtual 105, 3) := by decide +kernel
theorem dL_law_1107 : decode cL_law 1107 = .ok (.iconst 3, 1) := by decide +kernel
theorem dL_law_1108 : decode cL_law 1108 = .ok (.if_icmp .ne 94, 3) := by decide +kernel
theorem dL_law_1111 : decode cL_law 1111 = .ok (.aload_n 1, 1) := by decide +kernel
theorem dL_law_1112 : decode cL_law 1112 = .ok (.iconst 2, 1) := by decide +kernel
theorem dL_law_1113 : decode cL_law 1113 = .ok (.iconst 0, 1) := by decide +kernel
theorem dL_law_1114 : decode cL_law 1114 = .ok (.invokevirtual 102, 3) := by decide +kernel
theorem dL_law_1117 : decode cL_law 1117 = .ok (.iconst 3, 1) := by decide +kernel
theorem dL_law_1118 : decode cL_law 1118 = .ok (.if_icmp .ne 84, 3) := by decide +kernel
theorem dL_law_1121 : decode cL_law 1121 = .ok (.aload_n 1, 1) := by decide +kernel
theorem dL_law_1122 : decode cL_law 1122 = .ok (.iconst 3, 1) := by decide +kernel
theorem dL_law_1123 : decode cL_law 1123 = .ok (.iconst 1, 1) := by decide +kernel
theorem dL_law_1124 : decode cL_law 1124 = .ok (.iload 14, 2) := by decide +kernel
theorem dL_law_1126 : decode cL_law 1126 = .ok (.isub, 1) := by decide +kernel
theorem dL_law_1127 : decode cL_law 1127 = .ok (.bipush 9, 2) := by decide +kernel
theorem dL_law_1129 : decode cL_law 1129 = .ok (.invokevirtual 96, 3) := by decide +kernel
theorem dL_law_1132 : decode cL_law 1132 = .ok (.iconst 1, 1) := by decide +kernel
theorem dL_law_1133 : decode cL_law 1133 = .ok (.if_icmp .ne 69, 3) := by decide +kernel
theorem dL_law_1136 : decode cL_law 1136 = .ok (.aload_n 1, 1) := by decide +kernel
theorem dL_law_1137 : decode cL_law 1137 = .ok (.iconst 0, 1) := by decide +kernel
theorem dL_law_1138 : decode cL_law 1138 = .ok (.iconst 0, 1) := by decide +kernel
theorem dL_law_1139 : decode cL_law 1139 = .ok (.iconst 3, 1) := by decide +kernel
theorem dL_law_1140 : decode cL_law 1140 = .ok (.iconst 0, 1) := by decide +kernel
theorem dL_law_1141 : decode cL_law 1141 = .ok (.iconst 1, 1) := by decide +kernel
theorem dL_law_1142 : decode cL_law 1142 = .ok (.invokevirtual 105, 3) := by decide +kernel
theorem dL_law_1145 : decode cL_law 1145 = .ok (.bipush (-13), 2) := by decide +kernel
theorem dL_law_1147 : decode cL_law 1147 = .ok (.if_icmp .ne 55, 3) := by decide +kernel
theorem dL_law_1150 : decode cL_law 1150 = .ok (.aload_n 1, 1) := by decide +kernel
theorem dL_law_1151 : decode cL_law 1151 = .ok (.iconst 3, 1) := by decide +kernel
theorem dL_law_1152 : decode cL_law 1152 = .ok (.iconst 0, 1) := by decide +kernel
theorem dL_law_1153 : decode cL_law 1153 = .ok (.invokevirtual 102, 3) := by decide +kernel
theorem dL_law_1156 : decode cL_law 1156 = .ok (.bipush (-2), 2) := by decide +kernel
theorem dL_law_1158 : decode cL_law 1158 = .ok (.if_icmp .ne 44, 3) := by decide +kernel
theorem dL_law_1161 : decode cL_law 1161 = .ok (.aload_n 1, 1) := by decide +kernel
theorem dL_law_1162 : decode cL_law 1162 = .ok (.iconst 0, 1) := by decide +kernel
theorem dL_law_1163 : decode cL_law 1163 = .ok (.iconst 0, 1) := by decide +kernel
theorem dL_law_1164 : decode cL_law 1164 = .ok (.iconst 1, 1) := by decide +kernel
theorem dL_law_1165 : decode cL_law 1165 = .ok (.iconst 1, 1) := by decide +kernel
theorem dL_law_1166 : decode cL_law 1166 = .ok (.iconst 4, 1) := by decide +kernel
theorem dL_law_1167 : decode cL_law 1167 = .ok (.invokevirtual 105, 3) := by decide +kernel
theorem dL_law_1170 : decode cL_law 1170 = .ok (.bipush (-12), 2) := by decide +kernel
theorem dL_law_1172 : decode cL_law 1172 = .ok (.if_icmp .ne 30, 3) := by decide +kernel
theorem dL_law_1175 : decode cL_law 1175 = .ok (.aload_n 1, 1) := by decide +kernel
theorem dL_law_1176 : decode cL_law 1176 = .ok (.iconst 3, 1) := by decide +kernel
theorem dL_law_1177 : decode cL_law 1177 = .ok (.iconst (-1), 1) := by decide +kernel
theorem dL_law_1178 : decode cL_law 1178 = .ok (.bipush 99, 2) := by decide +kernel
theorem dL_law_1180 : decode cL_law 1180 = .ok (.invokevirtual 96, 3) := by decide +kernel
theorem dL_law_1183 : decode cL_law 1183 = .ok (.iconst 1, 1) := by decide +kernel
theorem dL_law_1184 : decode cL_law 1184 = .ok (.if_icmp .ne 18, 3) := by decide +kernel
theorem dL_law_1187 : decode cL_law 1187 = .ok (.aload_n 1, 1) := by decide +kernel
theorem dL_law_1188 : decode cL_law 1188 = .ok (.iconst 3, 1) := by decide +kernel
theorem dL_law_1189 : decode cL_law 1189 = .ok (.iconst 0, 1) := by decide +kernel
theorem dL_law_1190 : decode cL_law 1190 = .ok (.invokevirtual 102, 3) := by decide +kernel
theorem dL_law_1193 : decode cL_law 1193 = .ok (.bipush (-11), 2) := by decide +kernel
theorem dL_law_1195 : decode cL_law 1195 = .ok (.if_icmp .ne 7, 3) := by decide +kernel
theorem dL_law_1198 : decode cL_law 1198 = .ok (.iconst 1, 1) := by decide +kernel
theorem dL_law_1199 : decode cL_law 1199 = .ok (.goto 4, 3) := by decide +kernel
theorem dL_law_1202 : decode cL_law 1202 = .ok (.iconst 0, 1) := by decide +kernel
theorem dL_law_1203 : decode cL_law 1203 = .ok (.iand, 1) := by decide +kernel
theorem dL_law_1204 : decode cL_law 1204 = .ok (.istore_n 2, 1) := by decide +kernel
theorem dL_law_1205 : decode cL_law 1205 = .ok (.goto 172, 3) := by decide +kernel
theorem dL_law_1208 : decode cL_law 1208 = .ok (.iload_n 2, 1) := by decide +kernel
theorem dL_law_1209 : decode cL_law 1209 = .ok (.aload_n 1, 1) := by decide +kernel
theorem dL_law_1210 : decode cL_law 1210 = .ok (.invokevirtual 109, 3) := by decide +kernel
theorem dL_law_1213 : decode cL_law 1213 = .ok (.iload 4, 2) := by decide +kernel
theorem dL_law_1215 : decode cL_law 1215 = .ok (.if_icmp .ne 115, 3) := by decide +kernel
theorem dL_law_1218 : decode cL_law 1218 = .ok (.aload_n 1, 1) := by decide +kernel
theorem dL_law_1219 : decode cL_law 1219 = .ok (.ldc 112, 2) := by decide +kernel
theorem dL_law_1221 : decode cL_law 1221 = .ok (.invokestatic 58, 3) := by decide +kernel
theorem dL_law_1224 : decode cL_law 1224 = .ok (.ifCond .eq 106, 3) := by decide +kernel
theorem dL_law_1227 : decode cL_law 1227 = .ok (.aload_n 1, 1) := by decide +kernel
theorem dL_law_1228 : decode cL_law 1228 = .ok (.iconst 1, 1) := by decide +kernel
theorem dL_law_1229 : decode cL_law 1229 = .ok (.iconst 1, 1) := by decide +kernel
theorem dL_law_1230 : decode cL_law 1230 = .ok (.iconst 0, 1) := by decide +kernel
theorem dL_law_1231 : decode cL_law 1231 = .ok (.invokevirtual 114, 3) := by decide +kernel
theorem dL_law_1234 : decode cL_law 1234 = .ok (.ifCond .ne 96, 3) := by decide +kernel
theorem dL_law_1237 : decode cL_law 1237 = .ok (.aload_n 1, 1) := by decide +kernel
theorem dL_law_1238 : decode cL_law 1238 = .ok (.ldc 117, 2) := by decide +kernel
theorem dL_law_1240 : decode cL_law 1240 = .ok (.invokestatic 58, 3) := by decide +kernel
theorem dL_law_1243 : decode cL_law 1243 = .ok (.ifCond .eq 87, 3) := by decide +kernel
theorem dL_law_1246 : decode cL_law 1246 = .ok (.iload 4, 2) := by decide +kernel
theorem dL_law_1248 : decode cL_law 1248 = .ok (.bipush 20, 2) := by decide +kernel
theorem dL_law_1250 : decode cL_law 1250 = .ok (.if_icmp .eq 15, 3) := by decide +kernel
theorem dL_law_1253 : decode cL_law 1253 = .ok (.aload_n 1, 1) := by decide +kernel
theorem dL_law_1254 : decode cL_law 1254 = .ok (.iconst 1, 1) := by decide +kernel
theorem dL_law_1255 : decode cL_law 1255 = .ok (.iconst 1, 1) := by decide +kernel
theorem dL_law_1256 : decode cL_law 1256 = .ok (.iconst 1, 1) := by decide +kernel
theorem dL_law_1257 : decode cL_law 1257 = .ok (.invokevirtual 62, 3) := by decide +kernel
theorem dL_law_1260 : decode cL_law 1260 = .ok (.iload 4, 2) := by decide +kernel
theorem dL_law_1262 : decode cL_law 1262 = .ok (.if_icmp .ne 68, 3) := by decide +kernel
theorem dL_law_1265 : decode cL_law 1265 = .ok (.iload 4, 2) := by decide +kernel
theorem dL_law_1267 : decode cL_law 1267 = .ok (.bipush 20, 2) := by decide +kernel
theorem dL_law_1269 : decode cL_law 1269 = .ok (.if_icmp .lt 30, 3) := by decide +kernel
theorem dL_law_1272 : decode cL_law 1272 = .ok (.aload_n 1, 1) := by decide +kernel
theorem dL_law_1273 : decode cL_law 1273 = .ok (.iconst 1, 1) := by decide +kernel
theorem dL_law_1274 : decode cL_law 1274 = .ok (.bipush 97, 2) := by decide +kernel
theorem dL_law_1276 : decode cL_law 1276 = .ok (.iconst 0, 1) := by decide +kernel
theorem dL_law_1277 : decode cL_law 1277 = .ok (.iconst 0, 1) := by decide +kernel
theorem dL_law_1278 : decode cL_law 1278 = .ok (.iconst 0, 1) := by decide +kernel
theorem dL_law_1279 : decode cL_law 1279 = .ok (.iconst 0, 1) := by decide +kernel
theorem dL_law_1280 : decode cL_law 1280 = .ok (.invokevirtual 19, 3) := by decide +kernel
theorem dL_law_1283 : decode cL_law 1283 = .ok (.iconst 3, 1) := by decide +kernel
theorem dL_law_1284 : decode cL_law 1284 = .ok (.if_icmp .ne 46, 3) := by decide +kernel
theorem dL_law_1287 : decode cL_law 1287 = .ok (.aload_n 1, 1) := by decide +kernel
theorem dL_law_1288 : decode cL_law 1288 = .ok (.iconst 1, 1) := by decide +kernel
theorem dL_law_1289 : decode cL_law 1289 = .ok (.iconst 1, 1) := by decide +kernel
theorem dL_law_1290 : decode cL_law 1290 = .ok (.iconst 1, 1) := by decide +kernel
theorem dL_law_1291 : decode cL_law 1291 = .ok (.invokevirtual 62, 3) := by decide +kernel
theorem dL_law_1294 : decode cL_law 1294 = .ok (.bipush (-4), 2) := by decide +kernel
theorem dL_law_1296 : decode cL_law 1296 = .ok (.if_icmp .ne 34, 3) := by decide +kernel
theorem dL_law_1299 : decode cL_law 1299 = .ok (.aload_n 1, 1) := by decide +kernel
theorem dL_law_1300 : decode cL_law 1300 = .ok (.iconst 0, 1) := by decide +kernel
theorem dL_law_1301 : decode cL_law 1301 = .ok (.iconst 3, 1) := by decide +kernel
theorem dL_law_1302 : decode cL_law 1302 = .ok (.invokevirtual 71, 3) := by decide +kernel
theorem dL_law_1305 : decode cL_law 1305 = .ok (.iconst 4, 1) := by decide +kernel
theorem dL_law_1306 : decode cL_law 1306 = .ok (.if_icmp .ne 24, 3) := by decide +kernel
theorem dL_law_1309 : decode cL_law 1309 = .ok (.aload_n 1, 1) := by decide +kernel
theorem dL_law_1310 : decode cL_law 1310 = .ok (.ldc 119, 2) := by decide +kernel
theorem dL_law_1312 : decode cL_law 1312 = .ok (.invokestatic 58, 3) := by decide +kernel
theorem dL_law_1315 : decode cL_law 1315 = .ok (.ifCond .eq 15, 3) := by decide +kernel
theorem dL_law_1318 : decode cL_law 1318 = .ok (.aload_n 1, 1) := by decide +kernel
theorem dL_law_1319 : decode cL_law 1319 = .ok (.invokevirtual 121, 3) := by decide +kernel
theorem dL_law_1322 : decode cL_law 1322 = .ok (.iconst 2, 1) := by decide +kernel
theorem dL_law_1323 : decode cL_law 1323 = .ok (.if_icmp .ne 7, 3) := by decide +kernel
theorem dL_law_1326 : decode cL_law 1326 = .ok (.iconst 1, 1) := by decide +kernel
theorem dL_law_1327 : decode cL_law 1327 = .ok (.goto 4, 3) := by decide +kernel
theorem dL_law_1330 : decode cL_law 1330 = .ok (.iconst 0, 1) := by decide +kernel
theorem dL_law_1331 : decode cL_law 1331 = .ok (.iand, 1) := by decide +kernel
theorem dL_law_1332 : decode cL_law 1332 = .ok (.istore_n 2, 1) := by decide +kernel
theorem dL_law_1333 : decode cL_law 1333 = .ok (.iload_n 2, 1) := by decide +kernel
theorem dL_law_1334 : decode cL_law 1334 = .ok (.aload_n 1, 1) := by decide +kernel
theorem dL_law_1335 : decode cL_law 1335 = .ok (.invokevirtual 124, 3) := by decide +kernel
theorem dL_law_1338 : decode cL_law 1338 = .ok (.iload 4, 2) := by decide +kernel
theorem dL_law_1340 : decode cL_law 1340 = .ok (.if_icmp .ne 34, 3) := by decide +kernel
theorem dL_law_1343 : decode cL_law 1343 = .ok (.aload_n 1, 1) := by decide +kernel
theorem dL_law_1344 : decode cL_law 1344 = .ok (.iconst 0, 1) := by decide +kernel
theorem dL_law_1345 : decode cL_law 1345 = .ok (.invokevirtual 127, 3) := by decide +kernel
theorem dL_law_1348 : decode cL_law 1348 = .ok (.iload 4, 2) := by decide +kernel
theorem dL_law_1350 : decode cL_law 1350 = .ok (.if_icmp .ne 24, 3) := by decide +kernel
theorem dL_law_1353 : decode cL_law 1353 = .ok (.aload_n 1, 1) := by decide +kernel
theorem dL_law_1354 : decode cL_law 1354 = .ok (.iconst 1, 1) := by decide +kernel
theorem dL_law_1355 : decode cL_law 1355 = .ok (.invokevirtual 127, 3) := by decide +kernel
theorem dL_law_1358 : decode cL_law 1358 = .ok (.iconst 1, 1) := by decide +kernel
theorem dL_law_1359 : decode cL_law 1359 = .ok (.if_icmp .ne 15, 3) := by decide +kernel
theorem dL_law_1362 : decode cL_law 1362 = .ok (.aload_n 1, 1) := by decide +kernel
theorem dL_law_1363 : decode cL_law 1363 = .ok (.iconst 2, 1) := by decide +kernel
theorem dL_law_1364 : decode cL_law 1364 = .ok (.invokevirtual 127, 3) := by decide +kernel
theorem dL_law_1367 : decode cL_law 1367 = .ok (.ifCond .ne 7, 3) := by decide +kernel
theorem dL_law_1370 : decode cL_law 1370 = .ok (.iconst 1, 1) := by decide +kernel
theorem dL_law_1371 : decode cL_law 1371 = .ok (.goto 4, 3) := by decide +kernel
theorem dL_law_1374 : decode cL_law 1374 = .ok (.iconst 0, 1) := by decide +kernel
theorem dL_law_1375 : decode cL_law 1375 = .ok (.iand, 1) := by decide +kernel
theorem dL_law_1376 : decode cL_law 1376 = .ok (.istore_n 2, 1) := by decide +kernel
theorem dL_law_1377 : decode cL_law 1377 = .ok (.aload_n 1, 1) := by decide +kernel
theorem dL_law_1378 : decode cL_law 1378 = .ok (.invokestatic 75, 3) := by decide +kernel
theorem dL_law_1381 : decode cL_law 1381 = .ok (.astore 14, 2) := by decide +kernel
theorem dL_law_1383 : decode cL_law 1383 = .ok (.iload_n 2, 1) := by decide +kernel
theorem dL_law_1384 : decode cL_law 1384 = .ok (.aload 14, 2) := by decide +kernel
theorem dL_law_1386 : decode cL_law 1386 = .ok (.invokevirtual 9, 3) := by decide +kernel
theorem dL_law_1389 : decode cL_law 1389 = .ok (.aload 13, 2) := by decide +kernel
theorem dL_law_1391 : decode cL_law 1391 = .ok (.invokevirtual 9, 3) := by decide +kernel
theorem dL_law_1394 : decode cL_law 1394 = .ok (.if_icmp .ne 7, 3) := by decide +kernel
theorem dL_law_1397 : decode cL_law 1397 = .ok (.iconst 1, 1) := by decide +kernel
theorem dL_law_1398 : decode cL_law 1398 = .ok (.goto 4, 3) := by decide +kernel
theorem dL_law_1401 : decode cL_law 1401 = .ok (.iconst 0, 1) := by decide +kernel
theorem dL_law_1402 : decode cL_law 1402 = .ok (.iand, 1) := by decide +kernel
theorem dL_law_1403 : decode cL_law 1403 = .ok (.istore_n 2, 1) := by decide +kernel
theorem dL_law_1404 : decode cL_law 1404 = .ok (.iconst 0, 1) := by decide +kernel
theorem dL_law_1405 : decode cL_law 1405 = .ok (.istore 15, 2) := by decide +kernel
theorem dL_law_1407 : decode cL_law 1407 = .ok (.iload 15, 2) := by decide +kernel
theorem dL_law_1409 : decode cL_law 1409 = .ok (.aload 13, 2) := by decide +kernel
theorem dL_law_1411 : decode cL_law 1411 = .ok (.invokevirtual 9, 3) := by decide +kernel
theorem dL_law_1414 : decode cL_law 1414 = .ok (.if_icmp .ge 36, 3) := by decide +kernel
theorem dL_law_1417 : decode cL_law 1417 = .ok (.iload_n 2, 1) := by decide +kernel
theorem dL_law_1418 : decode cL_law 1418 = .ok (.ifCond .eq 32, 3) := by decide +kernel
theorem dL_law_1421 : decode cL_law 1421 = .ok (.aload 13, 2) := by decide +kernel
theorem dL_law_1423 : decode cL_law 1423 = .ok (.iload 15, 2) := by decide +kernel
theorem dL_law_1425 : decode cL_law 1425 = .ok (.invokevirtual 15, 3) := by decide +kernel
theorem dL_law_1428 : decode cL_law 1428 = .ok (.aload 14, 2) := by decide +kernel
theorem dL_law_1430 : decode cL_law 1430 = .ok (.iload 15, 2) := by decide +kernel
theorem dL_law_1432 : decode cL_law 1432 = .ok (.invokevirtual 15, 3) := by decide +kernel
theorem dL_law_1435 : decode cL_law 1435 = .ok (.if_icmp .ne 7, 3) := by decide +kernel
theorem dL_law_1438 : decode cL_law 1438 = .ok (.iconst 1, 1) := by decide +kernel
theorem dL_law_1439 : decode cL_law 1439 = .ok (.goto 4, 3) := by decide +kernel
theorem dL_law_1442 : decode cL_law 1442 = .ok (.iconst 0, 1) := by decide +kernel
theorem dL_law_1443 : decode cL_law 1443 = .ok (.istore_n 2, 1) := by decide +kernel
theorem dL_law_1444 : decode cL_law 1444 = .ok (.iinc 15 1, 3) := by decide +kernel
theorem dL_law_1447 : decode cL_law 1447 = .ok (.goto (-40), 3) := by decide +kernel
theorem dL_law_1450 : decode cL_law 1450 = .ok (.iconst (-1), 1) := by decide +kernel
theorem dL_law_1451 : decode cL_law 1451 = .ok (.istore 15, 2) := by decide +kernel
theorem dL_law_1453 : decode cL_law 1453 = .ok (.iload 15, 2) := by decide +kernel
theorem dL_law_1455 : decode cL_law 1455 = .ok (.bipush 21, 2) := by decide +kernel
theorem dL_law_1457 : decode cL_law 1457 = .ok (.if_icmp .ge 74, 3) := by decide +kernel
theorem dL_law_1460 : decode cL_law 1460 = .ok (.iload_n 2, 1) := by decide +kernel
theorem dL_law_1461 : decode cL_law 1461 = .ok (.ifCond .eq 70, 3) := by decide +kernel
theorem dL_law_1464 : decode cL_law 1464 = .ok (.aload_n 1, 1) := by decide +kernel
theorem dL_law_1465 : decode cL_law 1465 = .ok (.iload 10, 2) := by decide +kernel
theorem dL_law_1467 : decode cL_law 1467 = .ok (.iload 15, 2) := by decide +kernel
theorem dL_law_1469 : decode cL_law 1469 = .ok (.invokevirtual 130, 3) := by decide +kernel
theorem dL_law_1472 : decode cL_law 1472 = .ok (.aload 5, 2) := by decide +kernel
theorem dL_law_1474 : decode cL_law 1474 = .ok (.iload 10, 2) := by decide +kernel
theorem dL_law_1476 : decode cL_law 1476 = .ok (.iaload, 1) := by decide +kernel
theorem dL_law_1477 : decode cL_law 1477 = .ok (.ifCond .ge 8, 3) := by decide +kernel
theorem dL_law_1480 : decode cL_law 1480 = .ok (.bipush (-11), 2) := by decide +kernel
theorem dL_law_1482 : decode cL_law 1482 = .ok (.goto 34, 3) := by decide +kernel
theorem dL_law_1485 : decode cL_law 1485 = .ok (.iload 15, 2) := by decide +kernel
theorem dL_law_1487 : decode cL_law 1487 = .ok (.ifCond .lt 13, 3) := by decide +kernel
theorem dL_law_1490 : decode cL_law 1490 = .ok (.iload 15, 2) := by decide +kernel
theorem dL_law_1492 : decode cL_law 1492 = .ok (.aload 6, 2) := by decide +kernel
theorem dL_law_1494 : decode cL_law 1494 = .ok (.iload 10, 2) := by decide +kernel
theorem dL_law_1496 : decode cL_law 1496 = .ok (.iaload, 1) := by decide +kernel
theorem dL_law_1497 : decode cL_law 1497 = .ok (.if_icmp .lt 8, 3) := by decide +kernel
theorem dL_law_1500 : decode cL_law 1500 = .ok (.bipush (-12), 2) := by decide +kernel
theorem dL_law_1502 : decode cL_law 1502 = .ok (.goto 14, 3) := by decide +kernel
theorem dL_law_1505 : decode cL_law 1505 = .ok (.aload 7, 2) := by decide +kernel
theorem dL_law_1507 : decode cL_law 1507 = .ok (.bipush 20, 2) := by decide +kernel
theorem dL_law_1509 : decode cL_law 1509 = .ok (.iload 10, 2) := by decide +kernel
theorem dL_law_1511 : decode cL_law 1511 = .ok (.imul, 1) := by decide +kernel
theorem dL_law_1512 : decode cL_law 1512 = .ok (.iload 15, 2) := by decide +kernel
theorem dL_law_1514 : decode cL_law 1514 = .ok (.iadd, 1) := by decide +kernel
theorem dL_law_1515 : decode cL_law 1515 = .ok (.iaload, 1) := by decide +kernel
theorem dL_law_1516 : decode cL_law 1516 = .ok (.if_icmp .ne 7, 3) := by decide +kernel
theorem dL_law_1519 : decode cL_law 1519 = .ok (.iconst 1, 1) := by decide +kernel
theorem dL_law_1520 : decode cL_law 1520 = .ok (.goto 4, 3) := by decide +kernel
theorem dL_law_1523 : decode cL_law 1523 = .ok (.iconst 0, 1) := by decide +kernel
theorem dL_law_1524 : decode cL_law 1524 = .ok (.istore_n 2, 1) := by decide +kernel
theorem dL_law_1525 : decode cL_law 1525 = .ok (.iinc 15 1, 3) := by decide +kernel
theorem dL_law_1528 : decode cL_law 1528 = .ok (.goto (-75), 3) := by decide +kernel
theorem dL_law_1531 : decode cL_law 1531 = .ok (.iload_n 2, 1) := by decide +kernel
theorem dL_law_1532 : decode cL_law 1532 = .ok (.ifCond .ne 5, 3) := by decide +kernel
theorem dL_law_1535 : decode cL_law 1535 = .ok (.iconst 0, 1) := by decide +kernel
theorem dL_law_1536 : decode cL_law 1536 = .ok (.ireturn, 1) := by decide +kernel
theorem dL_law_1537 : decode cL_law 1537 = .ok (.iinc 8 1, 3) := by decide +kernel
theorem dL_law_1540 : decode cL_law 1540 = .ok (.goto (-1367), 3) := by decide +kernel
theorem dL_law_1543 : decode cL_law 1543 = .ok (.aload_n 1, 1) := by decide +kernel
theorem dL_law_1544 : decode cL_law 1544 = .ok (.iconst 4, 1) := by decide +kernel
theorem dL_law_1545 : decode cL_law 1545 = .ok (.iconst 0, 1) := by decide +kernel
theorem dL_law_1546 : decode cL_law 1546 = .ok (.invokevirtual 130, 3) := by decide +kernel
theorem dL_law_1549 : decode cL_law 1549 = .ok (.bipush (-2), 2) := by decide +kernel
theorem dL_law_1551 : decode cL_law 1551 = .ok (.if_icmp .ne 149, 3) := by decide +kernel
theorem dL_law_1554 : decode cL_law 1554 = .ok (.aload_n 1, 1) := by decide +kernel
theorem dL_law_1555 : decode cL_law 1555 = .ok (.iconst 0, 1) := by decide +kernel
theorem dL_law_1556 : decode cL_law 1556 = .ok (.bipush 6, 2) := by decide +kernel
theorem dL_law_1558 : decode cL_law 1558 = .ok (.iconst 1, 1) := by decide +kernel
theorem dL_law_1559 : decode cL_law 1559 = .ok (.invokevirtual 78, 3) := by decide +kernel
theorem dL_law_1562 : decode cL_law 1562 = .ok (.bipush (-2), 2) := by decide +kernel
theorem dL_law_1564 : decode cL_law 1564 = .ok (.if_icmp .ne 136, 3) := by decide +kernel
theorem dL_law_1567 : decode cL_law 1567 = .ok (.aload_n 1, 1) := by decide +kernel
theorem dL_law_1568 : decode cL_law 1568 = .ok (.iconst 0, 1) := by decide +kernel
theorem dL_law_1569 : decode cL_law 1569 = .ok (.iconst 0, 1) := by decide +kernel
theorem dL_law_1570 : decode cL_law 1570 = .ok (.iload 4, 2) := by decide +kernel
theorem dL_law_1572 : decode cL_law 1572 = .ok (.invokevirtual 81, 3) := by decide +kernel
theorem dL_law_1575 : decode cL_law 1575 = .ok (.bipush (-2), 2) := by decide +kernel
theorem dL_law_1577 : decode cL_law 1577 = .ok (.if_icmp .ne 123, 3) := by decide +kernel
theorem dL_law_1580 : decode cL_law 1580 = .ok (.aload_n 1, 1) := by decide +kernel
theorem dL_law_1581 : decode cL_law 1581 = .ok (.iconst 0, 1) := by decide +kernel
theorem dL_law_1582 : decode cL_law 1582 = .ok (.iconst 4, 1) := by decide +kernel
theorem dL_law_1583 : decode cL_law 1583 = .ok (.invokevirtual 93, 3) := by decide +kernel
theorem dL_law_1586 : decode cL_law 1586 = .ok (.bipush (-2), 2) := by decide +kernel
theorem dL_law_1588 : decode cL_law 1588 = .ok (.if_icmp .ne 112, 3) := by decide +kernel
theorem dL_law_1591 : decode cL_law 1591 = .ok (.aload_n 1, 1) := by decide +kernel
theorem dL_law_1592 : decode cL_law 1592 = .ok (.iconst 0, 1) := by decide +kernel
theorem dL_law_1593 : decode cL_law 1593 = .ok (.iconst 2, 1) := by decide +kernel
theorem dL_law_1594 : decode cL_law 1594 = .ok (.iconst 1, 1) := by decide +kernel
theorem dL_law_1595 : decode cL_law 1595 = .ok (.invokevirtual 96, 3) := by decide +kernel
theorem dL_law_1598 : decode cL_law 1598 = .ok (.bipush (-2), 2) := by decide +kernel
theorem dL_law_1600 : decode cL_law 1600 = .ok (.if_icmp .ne 100, 3) := by decide +kernel
theorem dL_law_1603 : decode cL_law 1603 = .ok (.aload_n 1, 1) := by decide +kernel
theorem dL_law_1604 : decode cL_law 1604 = .ok (.iconst 0, 1) := by decide +kernel
theorem dL_law_1605 : decode cL_law 1605 = .ok (.iconst 0, 1) := by decide +kernel
theorem dL_law_1606 : decode cL_law 1606 = .ok (.bipush 41, 2) := by decide +kernel
theorem dL_law_1608 : decode cL_law 1608 = .ok (.invokevirtual 96, 3) := by decide +kernel
theorem dL_law_1611 : decode cL_law 1611 = .ok (.bipush (-2), 2) := by decide +kernel
theorem dL_law_1613 : decode cL_law 1613 = .ok (.if_icmp .ne 87, 3) := by decide +kernel
theorem dL_law_1616 : decode cL_law 1616 = .ok (.aload_n 1, 1) := by decide +kernel
theorem dL_law_1617 : decode cL_law 1617 = .ok (.iconst 0, 1) := by decide +kernel
theorem dL_law_1618 : decode cL_law 1618 = .ok (.iconst 0, 1) := by decide +kernel
theorem dL_law_1619 : decode cL_law 1619 = .ok (.iconst (-1), 1) := by decide +kernel
theorem dL_law_1620 : decode cL_law 1620 = .ok (.invokevirtual 96, 3) := by decide +kernel
theorem dL_law_1623 : decode cL_law 1623 = .ok (.bipush (-14), 2) := by decide +kernel
theorem dL_law_1625 : decode cL_law 1625 = .ok (.if_icmp .ne 75, 3) := by decide +kernel
theorem dL_law_1628 : decode cL_law 1628 = .ok (.aload_n 1, 1) := by decide +kernel
theorem dL_law_1629 : decode cL_law 1629 = .ok (.iconst 4, 1) := by decide +kernel
theorem dL_law_1630 : decode cL_law 1630 = .ok (.iconst 0, 1) := by decide +kernel
theorem dL_law_1631 : decode cL_law 1631 = .ok (.iconst 0, 1) := by decide +kernel
theorem dL_law_1632 : decode cL_law 1632 = .ok (.invokevirtual 99, 3) := by decide +kernel
theorem dL_law_1635 : decode cL_law 1635 = .ok (.bipush (-2), 2) := by decide +kernel
theorem dL_law_1637 : decode cL_law 1637 = .ok (.if_icmp .ne 63, 3) := by decide +kernel
theorem dL_law_1640 : decode cL_law 1640 = .ok (.aload_n 1, 1) := by decide +kernel
theorem dL_law_1641 : decode cL_law 1641 = .ok (.iconst 5, 1) := by decide +kernel
theorem dL_law_1642 : decode cL_law 1642 = .ok (.invokevirtual 127, 3) := by decide +kernel
theorem dL_law_1645 : decode cL_law 1645 = .ok (.bipush (-2), 2) := by decide +kernel
theorem dL_law_1647 : decode cL_law 1647 = .ok (.if_icmp .ne 53, 3) := by decide +kernel
theorem dL_law_1650 : decode cL_law 1650 = .ok (.aload_n 1, 1) := by decide +kernel
theorem dL_law_1651 : decode cL_law 1651 = .ok (.iconst 0, 1) := by decide +kernel
theorem dL_law_1652 : decode cL_law 1652 = .ok (.bipush 6, 2) := by decide +kernel
theorem dL_law_1654 : decode cL_law 1654 = .ok (.invokevirtual 84, 3) := by decide +kernel
theorem dL_law_1657 : decode cL_law 1657 = .ok (.bipush (-2), 2) := by decide +kernel
theorem dL_law_1659 : decode cL_law 1659 = .ok (.if_icmp .ne 41, 3) := by decide +kernel
theorem dL_law_1662 : decode cL_law 1662 = .ok (.aload_n 1, 1) := by decide +kernel
theorem dL_law_1663 : decode cL_law 1663 = .ok (.iload 4, 2) := by decide +kernel
theorem dL_law_1665 : decode cL_law 1665 = .ok (.iconst 0, 1) := by decide +kernel
theorem dL_law_1666 : decode cL_law 1666 = .ok (.invokevirtual 87, 3) := by decide +kernel
theorem dL_law_1669 : decode cL_law 1669 = .ok (.bipush (-2), 2) := by decide +kernel
theorem dL_law_1671 : decode cL_law 1671 = .ok (.if_icmp .ne 29, 3) := by decide +kernel
theorem dL_law_1674 : decode cL_law 1674 = .ok (.aload_n 1, 1) := by decide +kernel
theorem dL_law_1675 : decode cL_law 1675 = .ok (.iconst 0, 1) := by decide +kernel
theorem dL_law_1676 : decode cL_law 1676 = .ok (.iconst 4, 1) := by decide +kernel
theorem dL_law_1677 : decode cL_law 1677 = .ok (.invokevirtual 87, 3) := by decide +kernel
theorem dL_law_1680 : decode cL_law 1680 = .ok (.bipush (-2), 2) := by decide +kernel
theorem dL_law_1682 : decode cL_law 1682 = .ok (.if_icmp .ne 18, 3) := by decide +kernel
theorem dL_law_1685 : decode cL_law 1685 = .ok (.aload_n 1, 1) := by decide +kernel
theorem dL_law_1686 : decode cL_law 1686 = .ok (.iconst 0, 1) := by decide +kernel
theorem dL_law_1687 : decode cL_law 1687 = .ok (.iconst 3, 1) := by decide +kernel
theorem dL_law_1688 : decode cL_law 1688 = .ok (.invokevirtual 102, 3) := by decide +kernel
theorem dL_law_1691 : decode cL_law 1691 = .ok (.bipush (-2), 2) := by decide +kernel
theorem dL_law_1693 : decode cL_law 1693 = .ok (.if_icmp .ne 7, 3) := by decide +kernel
theorem dL_law_1696 : decode cL_law 1696 = .ok (.iconst 1, 1) := by decide +kernel
theorem dL_law_1697 : decode cL_law 1697 = .ok (.goto 4, 3) := by decide +kernel
theorem dL_law_1700 : decode cL_law 1700 = .ok (.iconst 0, 1) := by decide +kernel
theorem dL_law_1701 : decode cL_law 1701 = .ok (.ireturn, 1) := by decide +kernel
