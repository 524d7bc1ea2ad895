theorem dX0_init_0 : decode cX0_init 0 = .ok (.aload_n 0, 1) := by decide +kernel
theorem dX0_init_1 : decode cX0_init 1 = .ok (.invokespecial 3, 3) := by decide +kernel
theorem dX0_init_4 : decode cX0_init 4 = .ok (.aload_n 0, 1) := by decide +kernel
theorem dX0_init_5 : decode cX0_init 5 = .ok (.bipush 20, 2) := by decide +kernel
theorem dX0_init_7 : decode cX0_init 7 = .ok (.anewarray 9, 3) := by decide +kernel
theorem dX0_init_10 : decode cX0_init 10 = .ok (.putfield 11, 3) := by decide +kernel
theorem dX0_init_13 : decode cX0_init 13 = .ok (.aload_n 0, 1) := by decide +kernel
theorem dX0_init_14 : decode cX0_init 14 = .ok (.bipush 32, 2) := by decide +kernel
theorem dX0_init_16 : decode cX0_init 16 = .ok (.anewarray 17, 3) := by decide +kernel
theorem dX0_init_19 : decode cX0_init 19 = .ok (.putfield 19, 3) := by decide +kernel
theorem dX0_init_22 : decode cX0_init 22 = .ok (.aload_n 0, 1) := by decide +kernel
theorem dX0_init_23 : decode cX0_init 23 = .ok (.iconst 3, 1) := by decide +kernel
theorem dX0_init_24 : decode cX0_init 24 = .ok (.anewarray 17, 3) := by decide +kernel
theorem dX0_init_27 : decode cX0_init 27 = .ok (.putfield 23, 3) := by decide +kernel
theorem dX0_init_30 : decode cX0_init 30 = .ok (.aload_n 0, 1) := by decide +kernel
theorem dX0_init_31 : decode cX0_init 31 = .ok (.iconst 5, 1) := by decide +kernel
theorem dX0_init_32 : decode cX0_init 32 = .ok (.anewarray 26, 3) := by decide +kernel
theorem dX0_init_35 : decode cX0_init 35 = .ok (.putfield 28, 3) := by decide +kernel
theorem dX0_init_38 : decode cX0_init 38 = .ok (.aload_n 0, 1) := by decide +kernel
theorem dX0_init_39 : decode cX0_init 39 = .ok (.new 17, 3) := by decide +kernel
theorem dX0_init_42 : decode cX0_init 42 = .ok (.dup, 1) := by decide +kernel
theorem dX0_init_43 : decode cX0_init 43 = .ok (.bipush 50, 2) := by decide +kernel
theorem dX0_init_45 : decode cX0_init 45 = .ok (.invokespecial 32, 3) := by decide +kernel
theorem dX0_init_48 : decode cX0_init 48 = .ok (.putfield 35, 3) := by decide +kernel
theorem dX0_init_51 : decode cX0_init 51 = .ok (.aload_n 0, 1) := by decide +kernel
theorem dX0_init_52 : decode cX0_init 52 = .ok (.new 39, 3) := by decide +kernel
theorem dX0_init_55 : decode cX0_init 55 = .ok (.dup, 1) := by decide +kernel
theorem dX0_init_56 : decode cX0_init 56 = .ok (.invokespecial 41, 3) := by decide +kernel
theorem dX0_init_59 : decode cX0_init 59 = .ok (.putfield 42, 3) := by decide +kernel
theorem dX0_init_62 : decode cX0_init 62 = .ok (.iconst 0, 1) := by decide +kernel
theorem dX0_init_63 : decode cX0_init 63 = .ok (.istore_n 1, 1) := by decide +kernel
theorem dX0_init_64 : decode cX0_init 64 = .ok (.iload_n 1, 1) := by decide +kernel
theorem dX0_init_65 : decode cX0_init 65 = .ok (.aload_n 0, 1) := by decide +kernel
theorem dX0_init_66 : decode cX0_init 66 = .ok (.getfield 11, 3) := by decide +kernel
theorem dX0_init_69 : decode cX0_init 69 = .ok (.arraylength, 1) := by decide +kernel
theorem dX0_init_70 : decode cX0_init 70 = .ok (.if_icmp .ge 23, 3) := by decide +kernel
theorem dX0_init_73 : decode cX0_init 73 = .ok (.aload_n 0, 1) := by decide +kernel
theorem dX0_init_74 : decode cX0_init 74 = .ok (.getfield 11, 3) := by decide +kernel
theorem dX0_init_77 : decode cX0_init 77 = .ok (.iload_n 1, 1) := by decide +kernel
theorem dX0_init_78 : decode cX0_init 78 = .ok (.new 9, 3) := by decide +kernel
theorem dX0_init_81 : decode cX0_init 81 = .ok (.dup, 1) := by decide +kernel
theorem dX0_init_82 : decode cX0_init 82 = .ok (.iload_n 1, 1) := by decide +kernel
theorem dX0_init_83 : decode cX0_init 83 = .ok (.invokespecial 46, 3) := by decide +kernel
theorem dX0_init_86 : decode cX0_init 86 = .ok (.aastore, 1) := by decide +kernel
theorem dX0_init_87 : decode cX0_init 87 = .ok (.iinc 1 1, 3) := by decide +kernel
theorem dX0_init_90 : decode cX0_init 90 = .ok (.goto (-26), 3) := by decide +kernel
theorem dX0_init_93 : decode cX0_init 93 = .ok (.iconst 0, 1) := by decide +kernel
theorem dX0_init_94 : decode cX0_init 94 = .ok (.istore_n 1, 1) := by decide +kernel
theorem dX0_init_95 : decode cX0_init 95 = .ok (.iload_n 1, 1) := by decide +kernel
theorem dX0_init_96 : decode cX0_init 96 = .ok (.aload_n 0, 1) := by decide +kernel
theorem dX0_init_97 : decode cX0_init 97 = .ok (.getfield 19, 3) := by decide +kernel
theorem dX0_init_100 : decode cX0_init 100 = .ok (.arraylength, 1) := by decide +kernel
theorem dX0_init_101 : decode cX0_init 101 = .ok (.if_icmp .ge 23, 3) := by decide +kernel
theorem dX0_init_104 : decode cX0_init 104 = .ok (.aload_n 0, 1) := by decide +kernel
theorem dX0_init_105 : decode cX0_init 105 = .ok (.getfield 19, 3) := by decide +kernel
theorem dX0_init_108 : decode cX0_init 108 = .ok (.iload_n 1, 1) := by decide +kernel
theorem dX0_init_109 : decode cX0_init 109 = .ok (.new 17, 3) := by decide +kernel
theorem dX0_init_112 : decode cX0_init 112 = .ok (.dup, 1) := by decide +kernel
theorem dX0_init_113 : decode cX0_init 113 = .ok (.iconst 3, 1) := by decide +kernel
theorem dX0_init_114 : decode cX0_init 114 = .ok (.invokespecial 32, 3) := by decide +kernel
theorem dX0_init_117 : decode cX0_init 117 = .ok (.aastore, 1) := by decide +kernel
theorem dX0_init_118 : decode cX0_init 118 = .ok (.iinc 1 1, 3) := by decide +kernel
theorem dX0_init_121 : decode cX0_init 121 = .ok (.goto (-26), 3) := by decide +kernel
theorem dX0_init_124 : decode cX0_init 124 = .ok (.iconst 0, 1) := by decide +kernel
theorem dX0_init_125 : decode cX0_init 125 = .ok (.istore_n 1, 1) := by decide +kernel
theorem dX0_init_126 : decode cX0_init 126 = .ok (.iload_n 1, 1) := by decide +kernel
theorem dX0_init_127 : decode cX0_init 127 = .ok (.aload_n 0, 1) := by decide +kernel
theorem dX0_init_128 : decode cX0_init 128 = .ok (.getfield 23, 3) := by decide +kernel
theorem dX0_init_131 : decode cX0_init 131 = .ok (.arraylength, 1) := by decide +kernel
theorem dX0_init_132 : decode cX0_init 132 = .ok (.if_icmp .ge 53, 3) := by decide +kernel
theorem dX0_init_135 : decode cX0_init 135 = .ok (.aload_n 0, 1) := by decide +kernel
theorem dX0_init_136 : decode cX0_init 136 = .ok (.getfield 23, 3) := by decide +kernel
theorem dX0_init_139 : decode cX0_init 139 = .ok (.iload_n 1, 1) := by decide +kernel
theorem dX0_init_140 : decode cX0_init 140 = .ok (.new 17, 3) := by decide +kernel
theorem dX0_init_143 : decode cX0_init 143 = .ok (.dup, 1) := by decide +kernel
theorem dX0_init_144 : decode cX0_init 144 = .ok (.iconst 1, 1) := by decide +kernel
theorem dX0_init_145 : decode cX0_init 145 = .ok (.invokespecial 32, 3) := by decide +kernel
theorem dX0_init_148 : decode cX0_init 148 = .ok (.aastore, 1) := by decide +kernel
theorem dX0_init_149 : decode cX0_init 149 = .ok (.aload_n 0, 1) := by decide +kernel
theorem dX0_init_150 : decode cX0_init 150 = .ok (.getfield 23, 3) := by decide +kernel
theorem dX0_init_153 : decode cX0_init 153 = .ok (.iload_n 1, 1) := by decide +kernel
theorem dX0_init_154 : decode cX0_init 154 = .ok (.aaload, 1) := by decide +kernel
theorem dX0_init_155 : decode cX0_init 155 = .ok (.iload_n 1, 1) := by decide +kernel
theorem dX0_init_156 : decode cX0_init 156 = .ok (.ifCond .ne 8, 3) := by decide +kernel
theorem dX0_init_159 : decode cX0_init 159 = .ok (.bipush 111, 2) := by decide +kernel
theorem dX0_init_161 : decode cX0_init 161 = .ok (.goto 15, 3) := by decide +kernel
theorem dX0_init_164 : decode cX0_init 164 = .ok (.iload_n 1, 1) := by decide +kernel
theorem dX0_init_165 : decode cX0_init 165 = .ok (.iconst 1, 1) := by decide +kernel
theorem dX0_init_166 : decode cX0_init 166 = .ok (.if_icmp .ne 8, 3) := by decide +kernel
theorem dX0_init_169 : decode cX0_init 169 = .ok (.bipush 97, 2) := by decide +kernel
theorem dX0_init_171 : decode cX0_init 171 = .ok (.goto 5, 3) := by decide +kernel
theorem dX0_init_174 : decode cX0_init 174 = .ok (.bipush 101, 2) := by decide +kernel
theorem dX0_init_176 : decode cX0_init 176 = .ok (.invokevirtual 47, 3) := by decide +kernel
theorem dX0_init_179 : decode cX0_init 179 = .ok (.iinc 1 1, 3) := by decide +kernel
theorem dX0_init_182 : decode cX0_init 182 = .ok (.goto (-56), 3) := by decide +kernel
theorem dX0_init_185 : decode cX0_init 185 = .ok (.iconst 0, 1) := by decide +kernel
theorem dX0_init_186 : decode cX0_init 186 = .ok (.istore_n 1, 1) := by decide +kernel
theorem dX0_init_187 : decode cX0_init 187 = .ok (.iload_n 1, 1) := by decide +kernel
theorem dX0_init_188 : decode cX0_init 188 = .ok (.aload_n 0, 1) := by decide +kernel
theorem dX0_init_189 : decode cX0_init 189 = .ok (.getfield 28, 3) := by decide +kernel
theorem dX0_init_192 : decode cX0_init 192 = .ok (.arraylength, 1) := by decide +kernel
theorem dX0_init_193 : decode cX0_init 193 = .ok (.if_icmp .ge 22, 3) := by decide +kernel
theorem dX0_init_196 : decode cX0_init 196 = .ok (.aload_n 0, 1) := by decide +kernel
theorem dX0_init_197 : decode cX0_init 197 = .ok (.getfield 28, 3) := by decide +kernel
theorem dX0_init_200 : decode cX0_init 200 = .ok (.iload_n 1, 1) := by decide +kernel
theorem dX0_init_201 : decode cX0_init 201 = .ok (.new 26, 3) := by decide +kernel
theorem dX0_init_204 : decode cX0_init 204 = .ok (.dup, 1) := by decide +kernel
theorem dX0_init_205 : decode cX0_init 205 = .ok (.invokespecial 50, 3) := by decide +kernel
theorem dX0_init_208 : decode cX0_init 208 = .ok (.aastore, 1) := by decide +kernel
theorem dX0_init_209 : decode cX0_init 209 = .ok (.iinc 1 1, 3) := by decide +kernel
theorem dX0_init_212 : decode cX0_init 212 = .ok (.goto (-25), 3) := by decide +kernel
theorem dX0_init_215 : decode cX0_init 215 = .ok (.return_, 1) := by decide +kernel
theorem dX0_become_0 : decode cX0_become 0 = .ok (.iconst 0, 1) := by decide +kernel
theorem dX0_become_1 : decode cX0_become 1 = .ok (.istore_n 2, 1) := by decide +kernel
theorem dX0_become_2 : decode cX0_become 2 = .ok (.iload_n 2, 1) := by decide +kernel
theorem dX0_become_3 : decode cX0_become 3 = .ok (.aload_n 0, 1) := by decide +kernel
theorem dX0_become_4 : decode cX0_become 4 = .ok (.getfield 11, 3) := by decide +kernel
theorem dX0_become_7 : decode cX0_become 7 = .ok (.arraylength, 1) := by decide +kernel
theorem dX0_become_8 : decode cX0_become 8 = .ok (.if_icmp .ge 24, 3) := by decide +kernel
theorem dX0_become_11 : decode cX0_become 11 = .ok (.aload_n 0, 1) := by decide +kernel
theorem dX0_become_12 : decode cX0_become 12 = .ok (.getfield 11, 3) := by decide +kernel
theorem dX0_become_15 : decode cX0_become 15 = .ok (.iload_n 2, 1) := by decide +kernel
theorem dX0_become_16 : decode cX0_become 16 = .ok (.aaload, 1) := by decide +kernel
theorem dX0_become_17 : decode cX0_become 17 = .ok (.aload_n 1, 1) := by decide +kernel
theorem dX0_become_18 : decode cX0_become 18 = .ok (.getfield 11, 3) := by decide +kernel
theorem dX0_become_21 : decode cX0_become 21 = .ok (.iload_n 2, 1) := by decide +kernel
theorem dX0_become_22 : decode cX0_become 22 = .ok (.aaload, 1) := by decide +kernel
theorem dX0_become_23 : decode cX0_become 23 = .ok (.invokevirtual 51, 3) := by decide +kernel
theorem dX0_become_26 : decode cX0_become 26 = .ok (.iinc 2 1, 3) := by decide +kernel
theorem dX0_become_29 : decode cX0_become 29 = .ok (.goto (-27), 3) := by decide +kernel
theorem dX0_become_32 : decode cX0_become 32 = .ok (.aload_n 0, 1) := by decide +kernel
theorem dX0_become_33 : decode cX0_become 33 = .ok (.aload_n 1, 1) := by decide +kernel
theorem dX0_become_34 : decode cX0_become 34 = .ok (.getfield 55, 3) := by decide +kernel
theorem dX0_become_37 : decode cX0_become 37 = .ok (.putfield 55, 3) := by decide +kernel
theorem dX0_become_40 : decode cX0_become 40 = .ok (.iconst 0, 1) := by decide +kernel
theorem dX0_become_41 : decode cX0_become 41 = .ok (.istore_n 2, 1) := by decide +kernel
theorem dX0_become_42 : decode cX0_become 42 = .ok (.iload_n 2, 1) := by decide +kernel
theorem dX0_become_43 : decode cX0_become 43 = .ok (.aload_n 0, 1) := by decide +kernel
theorem dX0_become_44 : decode cX0_become 44 = .ok (.getfield 19, 3) := by decide +kernel
theorem dX0_become_47 : decode cX0_become 47 = .ok (.arraylength, 1) := by decide +kernel
theorem dX0_become_48 : decode cX0_become 48 = .ok (.if_icmp .ge 24, 3) := by decide +kernel
theorem dX0_become_51 : decode cX0_become 51 = .ok (.aload_n 0, 1) := by decide +kernel
theorem dX0_become_52 : decode cX0_become 52 = .ok (.getfield 19, 3) := by decide +kernel
theorem dX0_become_55 : decode cX0_become 55 = .ok (.iload_n 2, 1) := by decide +kernel
theorem dX0_become_56 : decode cX0_become 56 = .ok (.aaload, 1) := by decide +kernel
theorem dX0_become_57 : decode cX0_become 57 = .ok (.aload_n 1, 1) := by decide +kernel
theorem dX0_become_58 : decode cX0_become 58 = .ok (.getfield 19, 3) := by decide +kernel
theorem dX0_become_61 : decode cX0_become 61 = .ok (.iload_n 2, 1) := by decide +kernel
theorem dX0_become_62 : decode cX0_become 62 = .ok (.aaload, 1) := by decide +kernel
theorem dX0_become_63 : decode cX0_become 63 = .ok (.invokevirtual 59, 3) := by decide +kernel
theorem dX0_become_66 : decode cX0_become 66 = .ok (.iinc 2 1, 3) := by decide +kernel
theorem dX0_become_69 : decode cX0_become 69 = .ok (.goto (-27), 3) := by decide +kernel
theorem dX0_become_72 : decode cX0_become 72 = .ok (.iconst 0, 1) := by decide +kernel
theorem dX0_become_73 : decode cX0_become 73 = .ok (.istore_n 2, 1) := by decide +kernel
theorem dX0_become_74 : decode cX0_become 74 = .ok (.iload_n 2, 1) := by decide +kernel
theorem dX0_become_75 : decode cX0_become 75 = .ok (.aload_n 0, 1) := by decide +kernel
theorem dX0_become_76 : decode cX0_become 76 = .ok (.getfield 28, 3) := by decide +kernel
theorem dX0_become_79 : decode cX0_become 79 = .ok (.arraylength, 1) := by decide +kernel
theorem dX0_become_80 : decode cX0_become 80 = .ok (.if_icmp .ge 24, 3) := by decide +kernel
theorem dX0_become_83 : decode cX0_become 83 = .ok (.aload_n 0, 1) := by decide +kernel
theorem dX0_become_84 : decode cX0_become 84 = .ok (.getfield 28, 3) := by decide +kernel
theorem dX0_become_87 : decode cX0_become 87 = .ok (.iload_n 2, 1) := by decide +kernel
theorem dX0_become_88 : decode cX0_become 88 = .ok (.aaload, 1) := by decide +kernel
theorem dX0_become_89 : decode cX0_become 89 = .ok (.aload_n 1, 1) := by decide +kernel
theorem dX0_become_90 : decode cX0_become 90 = .ok (.getfield 28, 3) := by decide +kernel
theorem dX0_become_93 : decode cX0_become 93 = .ok (.iload_n 2, 1) := by decide +kernel
theorem dX0_become_94 : decode cX0_become 94 = .ok (.aaload, 1) := by decide +kernel
theorem dX0_become_95 : decode cX0_become 95 = .ok (.invokevirtual 62, 3) := by decide +kernel
theorem dX0_become_98 : decode cX0_become 98 = .ok (.iinc 2 1, 3) := by decide +kernel
theorem dX0_become_101 : decode cX0_become 101 = .ok (.goto (-27), 3) := by decide +kernel
theorem dX0_become_104 : decode cX0_become 104 = .ok (.aload_n 0, 1) := by decide +kernel
theorem dX0_become_105 : decode cX0_become 105 = .ok (.aload_n 1, 1) := by decide +kernel
theorem dX0_become_106 : decode cX0_become 106 = .ok (.getfield 65, 3) := by decide +kernel
theorem dX0_become_109 : decode cX0_become 109 = .ok (.putfield 65, 3) := by decide +kernel
theorem dX0_become_112 : decode cX0_become 112 = .ok (.aload_n 0, 1) := by decide +kernel
theorem dX0_become_113 : decode cX0_become 113 = .ok (.getfield 35, 3) := by decide +kernel
theorem dX0_become_116 : decode cX0_become 116 = .ok (.aload_n 1, 1) := by decide +kernel
theorem dX0_become_117 : decode cX0_become 117 = .ok (.getfield 35, 3) := by decide +kernel
theorem dX0_become_120 : decode cX0_become 120 = .ok (.invokevirtual 59, 3) := by decide +kernel
theorem dX0_become_123 : decode cX0_become 123 = .ok (.aload_n 0, 1) := by decide +kernel
theorem dX0_become_124 : decode cX0_become 124 = .ok (.getfield 42, 3) := by decide +kernel
theorem dX0_become_127 : decode cX0_become 127 = .ok (.aload_n 1, 1) := by decide +kernel
theorem dX0_become_128 : decode cX0_become 128 = .ok (.getfield 42, 3) := by decide +kernel
theorem dX0_become_131 : decode cX0_become 131 = .ok (.invokevirtual 68, 3) := by decide +kernel
theorem dX0_become_134 : decode cX0_become 134 = .ok (.return_, 1) := by decide +kernel
theorem dX0_wordAt_0 : decode cX0_wordAt 0 = .ok (.iload_n 1, 1) := by decide +kernel
theorem dX0_wordAt_1 : decode cX0_wordAt 1 = .ok (.ifCond .lt 20, 3) := by decide +kernel
theorem dX0_wordAt_4 : decode cX0_wordAt 4 = .ok (.iload_n 1, 1) := by decide +kernel
theorem dX0_wordAt_5 : decode cX0_wordAt 5 = .ok (.aload_n 0, 1) := by decide +kernel
theorem dX0_wordAt_6 : decode cX0_wordAt 6 = .ok (.getfield 55, 3) := by decide +kernel
theorem dX0_wordAt_9 : decode cX0_wordAt 9 = .ok (.if_icmp .ge 12, 3) := by decide +kernel
theorem dX0_wordAt_12 : decode cX0_wordAt 12 = .ok (.aload_n 0, 1) := by decide +kernel
theorem dX0_wordAt_13 : decode cX0_wordAt 13 = .ok (.getfield 11, 3) := by decide +kernel
theorem dX0_wordAt_16 : decode cX0_wordAt 16 = .ok (.iload_n 1, 1) := by decide +kernel
theorem dX0_wordAt_17 : decode cX0_wordAt 17 = .ok (.aaload, 1) := by decide +kernel
theorem dX0_wordAt_18 : decode cX0_wordAt 18 = .ok (.goto 4, 3) := by decide +kernel
theorem dX0_wordAt_21 : decode cX0_wordAt 21 = .ok (.aconst_null, 1) := by decide +kernel
theorem dX0_wordAt_22 : decode cX0_wordAt 22 = .ok (.areturn, 1) := by decide +kernel
theorem dX0_frameAt_0 : decode cX0_frameAt 0 = .ok (.iload_n 1, 1) := by decide +kernel
theorem dX0_frameAt_1 : decode cX0_frameAt 1 = .ok (.ifCond .lt 20, 3) := by decide +kernel
theorem dX0_frameAt_4 : decode cX0_frameAt 4 = .ok (.iload_n 1, 1) := by decide +kernel
theorem dX0_frameAt_5 : decode cX0_frameAt 5 = .ok (.aload_n 0, 1) := by decide +kernel
theorem dX0_frameAt_6 : decode cX0_frameAt 6 = .ok (.getfield 65, 3) := by decide +kernel
theorem dX0_frameAt_9 : decode cX0_frameAt 9 = .ok (.if_icmp .ge 12, 3) := by decide +kernel
theorem dX0_frameAt_12 : decode cX0_frameAt 12 = .ok (.aload_n 0, 1) := by decide +kernel
theorem dX0_frameAt_13 : decode cX0_frameAt 13 = .ok (.getfield 28, 3) := by decide +kernel
theorem dX0_frameAt_16 : decode cX0_frameAt 16 = .ok (.iload_n 1, 1) := by decide +kernel
theorem dX0_frameAt_17 : decode cX0_frameAt 17 = .ok (.aaload, 1) := by decide +kernel
theorem dX0_frameAt_18 : decode cX0_frameAt 18 = .ok (.goto 4, 3) := by decide +kernel
theorem dX0_frameAt_21 : decode cX0_frameAt 21 = .ok (.aconst_null, 1) := by decide +kernel
theorem dX0_frameAt_22 : decode cX0_frameAt 22 = .ok (.areturn, 1) := by decide +kernel
theorem dX0_endingAt_0 : decode cX0_endingAt 0 = .ok (.iload_n 1, 1) := by decide +kernel
theorem dX0_endingAt_1 : decode cX0_endingAt 1 = .ok (.iconst 4, 1) := by decide +kernel
theorem dX0_endingAt_2 : decode cX0_endingAt 2 = .ok (.invokestatic 71, 3) := by decide +kernel
theorem dX0_endingAt_5 : decode cX0_endingAt 5 = .ok (.ifCond .eq 23, 3) := by decide +kernel
theorem dX0_endingAt_8 : decode cX0_endingAt 8 = .ok (.iload_n 2, 1) := by decide +kernel
theorem dX0_endingAt_9 : decode cX0_endingAt 9 = .ok (.iconst 4, 1) := by decide +kernel
theorem dX0_endingAt_10 : decode cX0_endingAt 10 = .ok (.invokestatic 71, 3) := by decide +kernel
theorem dX0_endingAt_13 : decode cX0_endingAt 13 = .ok (.ifCond .eq 15, 3) := by decide +kernel
theorem dX0_endingAt_16 : decode cX0_endingAt 16 = .ok (.iload_n 3, 1) := by decide +kernel
theorem dX0_endingAt_17 : decode cX0_endingAt 17 = .ok (.iconst 2, 1) := by decide +kernel
theorem dX0_endingAt_18 : decode cX0_endingAt 18 = .ok (.invokestatic 71, 3) := by decide +kernel
theorem dX0_endingAt_21 : decode cX0_endingAt 21 = .ok (.ifCond .eq 7, 3) := by decide +kernel
theorem dX0_endingAt_24 : decode cX0_endingAt 24 = .ok (.iconst 1, 1) := by decide +kernel
theorem dX0_endingAt_25 : decode cX0_endingAt 25 = .ok (.goto 4, 3) := by decide +kernel
theorem dX0_endingAt_28 : decode cX0_endingAt 28 = .ok (.iconst 0, 1) := by decide +kernel
theorem dX0_endingAt_29 : decode cX0_endingAt 29 = .ok (.istore 4, 2) := by decide +kernel
theorem dX0_endingAt_31 : decode cX0_endingAt 31 = .ok (.iload 4, 2) := by decide +kernel
theorem dX0_endingAt_33 : decode cX0_endingAt 33 = .ok (.ifCond .eq 20, 3) := by decide +kernel
theorem dX0_endingAt_36 : decode cX0_endingAt 36 = .ok (.aload_n 0, 1) := by decide +kernel
theorem dX0_endingAt_37 : decode cX0_endingAt 37 = .ok (.getfield 19, 3) := by decide +kernel
theorem dX0_endingAt_40 : decode cX0_endingAt 40 = .ok (.iload_n 1, 1) := by decide +kernel
theorem dX0_endingAt_41 : decode cX0_endingAt 41 = .ok (.iconst 4, 1) := by decide +kernel
theorem dX0_endingAt_42 : decode cX0_endingAt 42 = .ok (.imul, 1) := by decide +kernel
theorem dX0_endingAt_43 : decode cX0_endingAt 43 = .ok (.iload_n 2, 1) := by decide +kernel
theorem dX0_endingAt_44 : decode cX0_endingAt 44 = .ok (.iadd, 1) := by decide +kernel
theorem dX0_endingAt_45 : decode cX0_endingAt 45 = .ok (.iconst 2, 1) := by decide +kernel
theorem dX0_endingAt_46 : decode cX0_endingAt 46 = .ok (.imul, 1) := by decide +kernel
theorem dX0_endingAt_47 : decode cX0_endingAt 47 = .ok (.iload_n 3, 1) := by decide +kernel
theorem dX0_endingAt_48 : decode cX0_endingAt 48 = .ok (.iadd, 1) := by decide +kernel
theorem dX0_endingAt_49 : decode cX0_endingAt 49 = .ok (.aaload, 1) := by decide +kernel
theorem dX0_endingAt_50 : decode cX0_endingAt 50 = .ok (.goto 4, 3) := by decide +kernel
theorem dX0_endingAt_53 : decode cX0_endingAt 53 = .ok (.aconst_null, 1) := by decide +kernel
theorem dX0_endingAt_54 : decode cX0_endingAt 54 = .ok (.areturn, 1) := by decide +kernel
theorem dX0_addWord_0 : decode cX0_addWord 0 = .ok (.aload_n 0, 1) := by decide +kernel
theorem dX0_addWord_1 : decode cX0_addWord 1 = .ok (.getfield 55, 3) := by decide +kernel
theorem dX0_addWord_4 : decode cX0_addWord 4 = .ok (.aload_n 0, 1) := by decide +kernel
theorem dX0_addWord_5 : decode cX0_addWord 5 = .ok (.getfield 11, 3) := by decide +kernel
theorem dX0_addWord_8 : decode cX0_addWord 8 = .ok (.arraylength, 1) := by decide +kernel
theorem dX0_addWord_9 : decode cX0_addWord 9 = .ok (.if_icmp .lt 6, 3) := by decide +kernel
theorem dX0_addWord_12 : decode cX0_addWord 12 = .ok (.bipush (-4), 2) := by decide +kernel
theorem dX0_addWord_14 : decode cX0_addWord 14 = .ok (.ireturn, 1) := by decide +kernel
theorem dX0_addWord_15 : decode cX0_addWord 15 = .ok (.aload_n 0, 1) := by decide +kernel
theorem dX0_addWord_16 : decode cX0_addWord 16 = .ok (.getfield 11, 3) := by decide +kernel
theorem dX0_addWord_19 : decode cX0_addWord 19 = .ok (.aload_n 0, 1) := by decide +kernel
theorem dX0_addWord_20 : decode cX0_addWord 20 = .ok (.getfield 55, 3) := by decide +kernel
theorem dX0_addWord_23 : decode cX0_addWord 23 = .ok (.aaload, 1) := by decide +kernel
theorem dX0_addWord_24 : decode cX0_addWord 24 = .ok (.aload_n 1, 1) := by decide +kernel
theorem dX0_addWord_25 : decode cX0_addWord 25 = .ok (.iload_n 2, 1) := by decide +kernel
theorem dX0_addWord_26 : decode cX0_addWord 26 = .ok (.iload_n 3, 1) := by decide +kernel
theorem dX0_addWord_27 : decode cX0_addWord 27 = .ok (.iload 4, 2) := by decide +kernel
theorem dX0_addWord_29 : decode cX0_addWord 29 = .ok (.invokevirtual 75, 3) := by decide +kernel
theorem dX0_addWord_32 : decode cX0_addWord 32 = .ok (.aload_n 0, 1) := by decide +kernel
theorem dX0_addWord_33 : decode cX0_addWord 33 = .ok (.dup, 1) := by decide +kernel
theorem dX0_addWord_34 : decode cX0_addWord 34 = .ok (.getfield 55, 3) := by decide +kernel
theorem dX0_addWord_37 : decode cX0_addWord 37 = .ok (.iconst 1, 1) := by decide +kernel
theorem dX0_addWord_38 : decode cX0_addWord 38 = .ok (.iadd, 1) := by decide +kernel
theorem dX0_addWord_39 : decode cX0_addWord 39 = .ok (.putfield 55, 3) := by decide +kernel
theorem dX0_addWord_42 : decode cX0_addWord 42 = .ok (.aload_n 0, 1) := by decide +kernel
theorem dX0_addWord_43 : decode cX0_addWord 43 = .ok (.getfield 55, 3) := by decide +kernel
theorem dX0_addWord_46 : decode cX0_addWord 46 = .ok (.iconst 1, 1) := by decide +kernel
theorem dX0_addWord_47 : decode cX0_addWord 47 = .ok (.isub, 1) := by decide +kernel
theorem dX0_addWord_48 : decode cX0_addWord 48 = .ok (.ireturn, 1) := by decide +kernel
theorem dX0_addFrame_0 : decode cX0_addFrame 0 = .ok (.aload_n 0, 1) := by decide +kernel
theorem dX0_addFrame_1 : decode cX0_addFrame 1 = .ok (.getfield 65, 3) := by decide +kernel
theorem dX0_addFrame_4 : decode cX0_addFrame 4 = .ok (.aload_n 0, 1) := by decide +kernel
theorem dX0_addFrame_5 : decode cX0_addFrame 5 = .ok (.getfield 28, 3) := by decide +kernel
theorem dX0_addFrame_8 : decode cX0_addFrame 8 = .ok (.arraylength, 1) := by decide +kernel
theorem dX0_addFrame_9 : decode cX0_addFrame 9 = .ok (.if_icmp .lt 6, 3) := by decide +kernel
theorem dX0_addFrame_12 : decode cX0_addFrame 12 = .ok (.bipush (-4), 2) := by decide +kernel
theorem dX0_addFrame_14 : decode cX0_addFrame 14 = .ok (.ireturn, 1) := by decide +kernel
theorem dX0_addFrame_15 : decode cX0_addFrame 15 = .ok (.aload_n 0, 1) := by decide +kernel
theorem dX0_addFrame_16 : decode cX0_addFrame 16 = .ok (.getfield 28, 3) := by decide +kernel
theorem dX0_addFrame_19 : decode cX0_addFrame 19 = .ok (.aload_n 0, 1) := by decide +kernel
theorem dX0_addFrame_20 : decode cX0_addFrame 20 = .ok (.getfield 65, 3) := by decide +kernel
theorem dX0_addFrame_23 : decode cX0_addFrame 23 = .ok (.aaload, 1) := by decide +kernel
theorem dX0_addFrame_24 : decode cX0_addFrame 24 = .ok (.aload_n 1, 1) := by decide +kernel
theorem dX0_addFrame_25 : decode cX0_addFrame 25 = .ok (.invokevirtual 62, 3) := by decide +kernel
theorem dX0_addFrame_28 : decode cX0_addFrame 28 = .ok (.aload_n 0, 1) := by decide +kernel
theorem dX0_addFrame_29 : decode cX0_addFrame 29 = .ok (.dup, 1) := by decide +kernel
theorem dX0_addFrame_30 : decode cX0_addFrame 30 = .ok (.getfield 65, 3) := by decide +kernel
theorem dX0_addFrame_33 : decode cX0_addFrame 33 = .ok (.iconst 1, 1) := by decide +kernel
theorem dX0_addFrame_34 : decode cX0_addFrame 34 = .ok (.iadd, 1) := by decide +kernel
theorem dX0_addFrame_35 : decode cX0_addFrame 35 = .ok (.putfield 65, 3) := by decide +kernel
theorem dX0_addFrame_38 : decode cX0_addFrame 38 = .ok (.aload_n 0, 1) := by decide +kernel
theorem dX0_addFrame_39 : decode cX0_addFrame 39 = .ok (.getfield 65, 3) := by decide +kernel
theorem dX0_addFrame_42 : decode cX0_addFrame 42 = .ok (.iconst 1, 1) := by decide +kernel
theorem dX0_addFrame_43 : decode cX0_addFrame 43 = .ok (.isub, 1) := by decide +kernel
theorem dX0_addFrame_44 : decode cX0_addFrame 44 = .ok (.ireturn, 1) := by decide +kernel
theorem dX0_wordFor_0 : decode cX0_wordFor 0 = .ok (.iload_n 3, 1) := by decide +kernel
theorem dX0_wordFor_1 : decode cX0_wordFor 1 = .ok (.istore 4, 2) := by decide +kernel
theorem dX0_wordFor_3 : decode cX0_wordFor 3 = .ok (.iconst 0, 1) := by decide +kernel
theorem dX0_wordFor_4 : decode cX0_wordFor 4 = .ok (.istore 5, 2) := by decide +kernel
theorem dX0_wordFor_6 : decode cX0_wordFor 6 = .ok (.iload 5, 2) := by decide +kernel
theorem dX0_wordFor_8 : decode cX0_wordFor 8 = .ok (.aload_n 0, 1) := by decide +kernel
theorem dX0_wordFor_9 : decode cX0_wordFor 9 = .ok (.getfield 55, 3) := by decide +kernel
theorem dX0_wordFor_12 : decode cX0_wordFor 12 = .ok (.if_icmp .ge 35, 3) := by decide +kernel
theorem dX0_wordFor_15 : decode cX0_wordFor 15 = .ok (.aload_n 1, 1) := by decide +kernel
theorem dX0_wordFor_16 : decode cX0_wordFor 16 = .ok (.iload_n 2, 1) := by decide +kernel
theorem dX0_wordFor_17 : decode cX0_wordFor 17 = .ok (.aload_n 0, 1) := by decide +kernel
theorem dX0_wordFor_18 : decode cX0_wordFor 18 = .ok (.getfield 11, 3) := by decide +kernel
theorem dX0_wordFor_21 : decode cX0_wordFor 21 = .ok (.iload 5, 2) := by decide +kernel
theorem dX0_wordFor_23 : decode cX0_wordFor 23 = .ok (.aaload, 1) := by decide +kernel
theorem dX0_wordFor_24 : decode cX0_wordFor 24 = .ok (.invokevirtual 79, 3) := by decide +kernel
theorem dX0_wordFor_27 : decode cX0_wordFor 27 = .ok (.ifCond .eq 14, 3) := by decide +kernel
theorem dX0_wordFor_30 : decode cX0_wordFor 30 = .ok (.iload 4, 2) := by decide +kernel
theorem dX0_wordFor_32 : decode cX0_wordFor 32 = .ok (.ifCond .ne 6, 3) := by decide +kernel
theorem dX0_wordFor_35 : decode cX0_wordFor 35 = .ok (.iload 5, 2) := by decide +kernel
theorem dX0_wordFor_37 : decode cX0_wordFor 37 = .ok (.ireturn, 1) := by decide +kernel
theorem dX0_wordFor_38 : decode cX0_wordFor 38 = .ok (.iinc 4 (-1), 3) := by decide +kernel
theorem dX0_wordFor_41 : decode cX0_wordFor 41 = .ok (.iinc 5 1, 3) := by decide +kernel
theorem dX0_wordFor_44 : decode cX0_wordFor 44 = .ok (.goto (-38), 3) := by decide +kernel
theorem dX0_wordFor_47 : decode cX0_wordFor 47 = .ok (.iconst (-1), 1) := by decide +kernel
theorem dX0_wordFor_48 : decode cX0_wordFor 48 = .ok (.ireturn, 1) := by decide +kernel
theorem dX0_spell_0 : decode cX0_spell 0 = .ok (.iload_n 2, 1) := by decide +kernel
theorem dX0_spell_1 : decode cX0_spell 1 = .ok (.iconst 4, 1) := by decide +kernel
theorem dX0_spell_2 : decode cX0_spell 2 = .ok (.irem, 1) := by decide +kernel
theorem dX0_spell_3 : decode cX0_spell 3 = .ok (.istore 4, 2) := by decide +kernel
theorem dX0_spell_5 : decode cX0_spell 5 = .ok (.iload_n 2, 1) := by decide +kernel
theorem dX0_spell_6 : decode cX0_spell 6 = .ok (.iconst 4, 1) := by decide +kernel
theorem dX0_spell_7 : decode cX0_spell 7 = .ok (.idiv, 1) := by decide +kernel
theorem dX0_spell_8 : decode cX0_spell 8 = .ok (.iconst 2, 1) := by decide +kernel
theorem dX0_spell_9 : decode cX0_spell 9 = .ok (.irem, 1) := by decide +kernel
theorem dX0_spell_10 : decode cX0_spell 10 = .ok (.istore 5, 2) := by decide +kernel
theorem dX0_spell_12 : decode cX0_spell 12 = .ok (.iload_n 2, 1) := by decide +kernel
theorem dX0_spell_13 : decode cX0_spell 13 = .ok (.bipush 8, 2) := by decide +kernel
theorem dX0_spell_15 : decode cX0_spell 15 = .ok (.idiv, 1) := by decide +kernel
theorem dX0_spell_16 : decode cX0_spell 16 = .ok (.iconst 3, 1) := by decide +kernel
theorem dX0_spell_17 : decode cX0_spell 17 = .ok (.irem, 1) := by decide +kernel
theorem dX0_spell_18 : decode cX0_spell 18 = .ok (.istore 6, 2) := by decide +kernel
theorem dX0_spell_20 : decode cX0_spell 20 = .ok (.iload_n 2, 1) := by decide +kernel
theorem dX0_spell_21 : decode cX0_spell 21 = .ok (.bipush 24, 2) := by decide +kernel
theorem dX0_spell_23 : decode cX0_spell 23 = .ok (.idiv, 1) := by decide +kernel
theorem dX0_spell_24 : decode cX0_spell 24 = .ok (.istore 7, 2) := by decide +kernel
theorem dX0_spell_26 : decode cX0_spell 26 = .ok (.aload_n 3, 1) := by decide +kernel
theorem dX0_spell_27 : decode cX0_spell 27 = .ok (.aload_n 1, 1) := by decide +kernel
theorem dX0_spell_28 : decode cX0_spell 28 = .ok (.getfield 83, 3) := by decide +kernel
theorem dX0_spell_31 : decode cX0_spell 31 = .ok (.invokevirtual 59, 3) := by decide +kernel
theorem dX0_spell_34 : decode cX0_spell 34 = .ok (.aload_n 1, 1) := by decide +kernel
theorem dX0_spell_35 : decode cX0_spell 35 = .ok (.getfield 86, 3) := by decide +kernel
theorem dX0_spell_38 : decode cX0_spell 38 = .ok (.ifCond .ne 4, 3) := by decide +kernel
theorem dX0_spell_41 : decode cX0_spell 41 = .ok (.return_, 1) := by decide +kernel
theorem dX0_spell_42 : decode cX0_spell 42 = .ok (.aload_n 0, 1) := by decide +kernel
theorem dX0_spell_43 : decode cX0_spell 43 = .ok (.aload_n 1, 1) := by decide +kernel
theorem dX0_spell_44 : decode cX0_spell 44 = .ok (.getfield 89, 3) := by decide +kernel
theorem dX0_spell_47 : decode cX0_spell 47 = .ok (.aload_n 1, 1) := by decide +kernel
theorem dX0_spell_48 : decode cX0_spell 48 = .ok (.iconst 2, 1) := by decide +kernel
theorem dX0_spell_49 : decode cX0_spell 49 = .ok (.invokevirtual 92, 3) := by decide +kernel
theorem dX0_spell_52 : decode cX0_spell 52 = .ok (.ifCond .eq 8, 3) := by decide +kernel
theorem dX0_spell_55 : decode cX0_spell 55 = .ok (.iload 7, 2) := by decide +kernel
theorem dX0_spell_57 : decode cX0_spell 57 = .ok (.goto 5, 3) := by decide +kernel
theorem dX0_spell_60 : decode cX0_spell 60 = .ok (.iload 4, 2) := by decide +kernel
theorem dX0_spell_62 : decode cX0_spell 62 = .ok (.aload_n 1, 1) := by decide +kernel
theorem dX0_spell_63 : decode cX0_spell 63 = .ok (.getfield 86, 3) := by decide +kernel
theorem dX0_spell_66 : decode cX0_spell 66 = .ok (.iconst 3, 1) := by decide +kernel
theorem dX0_spell_67 : decode cX0_spell 67 = .ok (.if_icmp .ne 7, 3) := by decide +kernel
theorem dX0_spell_70 : decode cX0_spell 70 = .ok (.iconst 0, 1) := by decide +kernel
theorem dX0_spell_71 : decode cX0_spell 71 = .ok (.goto 5, 3) := by decide +kernel
theorem dX0_spell_74 : decode cX0_spell 74 = .ok (.iload 5, 2) := by decide +kernel
theorem dX0_spell_76 : decode cX0_spell 76 = .ok (.invokevirtual 96, 3) := by decide +kernel
theorem dX0_spell_79 : decode cX0_spell 79 = .ok (.astore 8, 2) := by decide +kernel
theorem dX0_spell_81 : decode cX0_spell 81 = .ok (.aload 8, 2) := by decide +kernel
theorem dX0_spell_83 : decode cX0_spell 83 = .ok (.ifnull 9, 3) := by decide +kernel
theorem dX0_spell_86 : decode cX0_spell 86 = .ok (.aload_n 3, 1) := by decide +kernel
theorem dX0_spell_87 : decode cX0_spell 87 = .ok (.aload 8, 2) := by decide +kernel
theorem dX0_spell_89 : decode cX0_spell 89 = .ok (.invokevirtual 100, 3) := by decide +kernel
theorem dX0_spell_92 : decode cX0_spell 92 = .ok (.aload_n 1, 1) := by decide +kernel
theorem dX0_spell_93 : decode cX0_spell 93 = .ok (.getfield 86, 3) := by decide +kernel
theorem dX0_spell_96 : decode cX0_spell 96 = .ok (.iconst 4, 1) := by decide +kernel
theorem dX0_spell_97 : decode cX0_spell 97 = .ok (.if_icmp .ne 23, 3) := by decide +kernel
theorem dX0_spell_100 : decode cX0_spell 100 = .ok (.iload 6, 2) := by decide +kernel
theorem dX0_spell_102 : decode cX0_spell 102 = .ok (.iconst 3, 1) := by decide +kernel
theorem dX0_spell_103 : decode cX0_spell 103 = .ok (.invokestatic 71, 3) := by decide +kernel
theorem dX0_spell_106 : decode cX0_spell 106 = .ok (.ifCond .eq 14, 3) := by decide +kernel
theorem dX0_spell_109 : decode cX0_spell 109 = .ok (.aload_n 3, 1) := by decide +kernel
theorem dX0_spell_110 : decode cX0_spell 110 = .ok (.aload_n 0, 1) := by decide +kernel
theorem dX0_spell_111 : decode cX0_spell 111 = .ok (.getfield 23, 3) := by decide +kernel
theorem dX0_spell_114 : decode cX0_spell 114 = .ok (.iload 6, 2) := by decide +kernel
theorem dX0_spell_116 : decode cX0_spell 116 = .ok (.aaload, 1) := by decide +kernel
theorem dX0_spell_117 : decode cX0_spell 117 = .ok (.invokevirtual 100, 3) := by decide +kernel
theorem dX0_spell_120 : decode cX0_spell 120 = .ok (.aload_n 1, 1) := by decide +kernel
theorem dX0_spell_121 : decode cX0_spell 121 = .ok (.getfield 86, 3) := by decide +kernel
theorem dX0_spell_124 : decode cX0_spell 124 = .ok (.iconst 5, 1) := by decide +kernel
theorem dX0_spell_125 : decode cX0_spell 125 = .ok (.if_icmp .ne 22, 3) := by decide +kernel
theorem dX0_spell_128 : decode cX0_spell 128 = .ok (.iload 7, 2) := by decide +kernel
theorem dX0_spell_130 : decode cX0_spell 130 = .ok (.ifCond .eq 17, 3) := by decide +kernel
theorem dX0_spell_133 : decode cX0_spell 133 = .ok (.aload_n 3, 1) := by decide +kernel
theorem dX0_spell_134 : decode cX0_spell 134 = .ok (.aload_n 3, 1) := by decide +kernel
theorem dX0_spell_135 : decode cX0_spell 135 = .ok (.aload_n 3, 1) := by decide +kernel
theorem dX0_spell_136 : decode cX0_spell 136 = .ok (.getfield 103, 3) := by decide +kernel
theorem dX0_spell_139 : decode cX0_spell 139 = .ok (.iconst 1, 1) := by decide +kernel
theorem dX0_spell_140 : decode cX0_spell 140 = .ok (.isub, 1) := by decide +kernel
theorem dX0_spell_141 : decode cX0_spell 141 = .ok (.invokevirtual 106, 3) := by decide +kernel
theorem dX0_spell_144 : decode cX0_spell 144 = .ok (.invokevirtual 47, 3) := by decide +kernel
theorem dX0_spell_147 : decode cX0_spell 147 = .ok (.return_, 1) := by decide +kernel
theorem dX1_init_0 : decode cX1_init 0 = .ok (.aload_n 0, 1) := by decide +kernel
theorem dX1_init_1 : decode cX1_init 1 = .ok (.invokespecial 3, 3) := by decide +kernel
theorem dX1_init_4 : decode cX1_init 4 = .ok (.aload_n 0, 1) := by decide +kernel
theorem dX1_init_5 : decode cX1_init 5 = .ok (.new 9, 3) := by decide +kernel
theorem dX1_init_8 : decode cX1_init 8 = .ok (.dup, 1) := by decide +kernel
theorem dX1_init_9 : decode cX1_init 9 = .ok (.invokespecial 11, 3) := by decide +kernel
theorem dX1_init_12 : decode cX1_init 12 = .ok (.putfield 12, 3) := by decide +kernel
theorem dX1_init_15 : decode cX1_init 15 = .ok (.return_, 1) := by decide +kernel
theorem dX2_init_0 : decode cX2_init 0 = .ok (.aload_n 0, 1) := by decide +kernel
theorem dX2_init_1 : decode cX2_init 1 = .ok (.invokespecial 3, 3) := by decide +kernel
theorem dX2_init_4 : decode cX2_init 4 = .ok (.aload_n 0, 1) := by decide +kernel
theorem dX2_init_5 : decode cX2_init 5 = .ok (.iconst (-1), 1) := by decide +kernel
theorem dX2_init_6 : decode cX2_init 6 = .ok (.putfield 9, 3) := by decide +kernel
theorem dX2_init_9 : decode cX2_init 9 = .ok (.aload_n 0, 1) := by decide +kernel
theorem dX2_init_10 : decode cX2_init 10 = .ok (.bipush 6, 2) := by decide +kernel
theorem dX2_init_12 : decode cX2_init 12 = .ok (.newarray .int, 2) := by decide +kernel
theorem dX2_init_14 : decode cX2_init 14 = .ok (.putfield 15, 3) := by decide +kernel
theorem dX2_init_17 : decode cX2_init 17 = .ok (.return_, 1) := by decide +kernel
theorem dX2_begin_0 : decode cX2_begin 0 = .ok (.aload_n 0, 1) := by decide +kernel
theorem dX2_begin_1 : decode cX2_begin 1 = .ok (.iload_n 1, 1) := by decide +kernel
theorem dX2_begin_2 : decode cX2_begin 2 = .ok (.putfield 9, 3) := by decide +kernel
theorem dX2_begin_5 : decode cX2_begin 5 = .ok (.aload_n 0, 1) := by decide +kernel
theorem dX2_begin_6 : decode cX2_begin 6 = .ok (.iload_n 2, 1) := by decide +kernel
theorem dX2_begin_7 : decode cX2_begin 7 = .ok (.putfield 19, 3) := by decide +kernel
theorem dX2_begin_10 : decode cX2_begin 10 = .ok (.aload_n 0, 1) := by decide +kernel
theorem dX2_begin_11 : decode cX2_begin 11 = .ok (.iconst 0, 1) := by decide +kernel
theorem dX2_begin_12 : decode cX2_begin 12 = .ok (.putfield 22, 3) := by decide +kernel
theorem dX2_begin_15 : decode cX2_begin 15 = .ok (.aload_n 0, 1) := by decide +kernel
theorem dX2_begin_16 : decode cX2_begin 16 = .ok (.getfield 15, 3) := by decide +kernel
theorem dX2_begin_19 : decode cX2_begin 19 = .ok (.iconst (-1), 1) := by decide +kernel
theorem dX2_begin_20 : decode cX2_begin 20 = .ok (.invokestatic 25, 3) := by decide +kernel
theorem dX2_begin_23 : decode cX2_begin 23 = .ok (.return_, 1) := by decide +kernel
theorem dX2_become_0 : decode cX2_become 0 = .ok (.aload_n 0, 1) := by decide +kernel
theorem dX2_become_1 : decode cX2_become 1 = .ok (.aload_n 1, 1) := by decide +kernel
theorem dX2_become_2 : decode cX2_become 2 = .ok (.getfield 9, 3) := by decide +kernel
theorem dX2_become_5 : decode cX2_become 5 = .ok (.putfield 9, 3) := by decide +kernel
theorem dX2_become_8 : decode cX2_become 8 = .ok (.aload_n 0, 1) := by decide +kernel
theorem dX2_become_9 : decode cX2_become 9 = .ok (.aload_n 1, 1) := by decide +kernel
theorem dX2_become_10 : decode cX2_become 10 = .ok (.getfield 19, 3) := by decide +kernel
theorem dX2_become_13 : decode cX2_become 13 = .ok (.putfield 19, 3) := by decide +kernel
theorem dX2_become_16 : decode cX2_become 16 = .ok (.aload_n 0, 1) := by decide +kernel
theorem dX2_become_17 : decode cX2_become 17 = .ok (.aload_n 1, 1) := by decide +kernel
theorem dX2_become_18 : decode cX2_become 18 = .ok (.getfield 22, 3) := by decide +kernel
theorem dX2_become_21 : decode cX2_become 21 = .ok (.putfield 22, 3) := by decide +kernel
theorem dX2_become_24 : decode cX2_become 24 = .ok (.aload_n 1, 1) := by decide +kernel
theorem dX2_become_25 : decode cX2_become 25 = .ok (.getfield 15, 3) := by decide +kernel
theorem dX2_become_28 : decode cX2_become 28 = .ok (.iconst 0, 1) := by decide +kernel
theorem dX2_become_29 : decode cX2_become 29 = .ok (.aload_n 0, 1) := by decide +kernel
theorem dX2_become_30 : decode cX2_become 30 = .ok (.getfield 15, 3) := by decide +kernel
theorem dX2_become_33 : decode cX2_become 33 = .ok (.iconst 0, 1) := by decide +kernel
theorem dX2_become_34 : decode cX2_become 34 = .ok (.bipush 6, 2) := by decide +kernel
theorem dX2_become_36 : decode cX2_become 36 = .ok (.invokestatic 31, 3) := by decide +kernel
theorem dX2_become_39 : decode cX2_become 39 = .ok (.return_, 1) := by decide +kernel
theorem dX2_fill_0 : decode cX2_fill 0 = .ok (.iload_n 1, 1) := by decide +kernel
theorem dX2_fill_1 : decode cX2_fill 1 = .ok (.bipush 6, 2) := by decide +kernel
theorem dX2_fill_3 : decode cX2_fill 3 = .ok (.invokestatic 37, 3) := by decide +kernel
theorem dX2_fill_6 : decode cX2_fill 6 = .ok (.ifCond .eq 10, 3) := by decide +kernel
theorem dX2_fill_9 : decode cX2_fill 9 = .ok (.aload_n 0, 1) := by decide +kernel
theorem dX2_fill_10 : decode cX2_fill 10 = .ok (.getfield 15, 3) := by decide +kernel
theorem dX2_fill_13 : decode cX2_fill 13 = .ok (.iload_n 1, 1) := by decide +kernel
theorem dX2_fill_14 : decode cX2_fill 14 = .ok (.iload_n 2, 1) := by decide +kernel
theorem dX2_fill_15 : decode cX2_fill 15 = .ok (.iastore, 1) := by decide +kernel
theorem dX2_fill_16 : decode cX2_fill 16 = .ok (.return_, 1) := by decide +kernel
theorem dX2_wordIn_0 : decode cX2_wordIn 0 = .ok (.iload_n 1, 1) := by decide +kernel
theorem dX2_wordIn_1 : decode cX2_wordIn 1 = .ok (.bipush 6, 2) := by decide +kernel
theorem dX2_wordIn_3 : decode cX2_wordIn 3 = .ok (.invokestatic 37, 3) := by decide +kernel
theorem dX2_wordIn_6 : decode cX2_wordIn 6 = .ok (.ifCond .eq 12, 3) := by decide +kernel
theorem dX2_wordIn_9 : decode cX2_wordIn 9 = .ok (.aload_n 0, 1) := by decide +kernel
theorem dX2_wordIn_10 : decode cX2_wordIn 10 = .ok (.getfield 15, 3) := by decide +kernel
theorem dX2_wordIn_13 : decode cX2_wordIn 13 = .ok (.iload_n 1, 1) := by decide +kernel
theorem dX2_wordIn_14 : decode cX2_wordIn 14 = .ok (.iaload, 1) := by decide +kernel
theorem dX2_wordIn_15 : decode cX2_wordIn 15 = .ok (.goto 4, 3) := by decide +kernel
theorem dX2_wordIn_18 : decode cX2_wordIn 18 = .ok (.iconst (-1), 1) := by decide +kernel
theorem dX2_wordIn_19 : decode cX2_wordIn 19 = .ok (.ireturn, 1) := by decide +kernel
theorem dX3_init_0 : decode cX3_init 0 = .ok (.aload_n 0, 1) := by decide +kernel
theorem dX3_init_1 : decode cX3_init 1 = .ok (.invokespecial 3, 3) := by decide +kernel
theorem dX3_init_4 : decode cX3_init 4 = .ok (.aload_n 0, 1) := by decide +kernel
theorem dX3_init_5 : decode cX3_init 5 = .ok (.bipush 6, 2) := by decide +kernel
theorem dX3_init_7 : decode cX3_init 7 = .ok (.newarray .int, 2) := by decide +kernel
theorem dX3_init_9 : decode cX3_init 9 = .ok (.putfield 9, 3) := by decide +kernel
theorem dX3_init_12 : decode cX3_init 12 = .ok (.aload_n 0, 1) := by decide +kernel
theorem dX3_init_13 : decode cX3_init 13 = .ok (.bipush 6, 2) := by decide +kernel
theorem dX3_init_15 : decode cX3_init 15 = .ok (.newarray .int, 2) := by decide +kernel
theorem dX3_init_17 : decode cX3_init 17 = .ok (.putfield 15, 3) := by decide +kernel
theorem dX3_init_20 : decode cX3_init 20 = .ok (.aload_n 0, 1) := by decide +kernel
theorem dX3_init_21 : decode cX3_init 21 = .ok (.bipush 6, 2) := by decide +kernel
theorem dX3_init_23 : decode cX3_init 23 = .ok (.newarray .int, 2) := by decide +kernel
theorem dX3_init_25 : decode cX3_init 25 = .ok (.putfield 18, 3) := by decide +kernel
theorem dX3_init_28 : decode cX3_init 28 = .ok (.aload_n 0, 1) := by decide +kernel
theorem dX3_init_29 : decode cX3_init 29 = .ok (.bipush 6, 2) := by decide +kernel
theorem dX3_init_31 : decode cX3_init 31 = .ok (.newarray .int, 2) := by decide +kernel
theorem dX3_init_33 : decode cX3_init 33 = .ok (.putfield 21, 3) := by decide +kernel
theorem dX3_init_36 : decode cX3_init 36 = .ok (.aload_n 0, 1) := by decide +kernel
theorem dX3_init_37 : decode cX3_init 37 = .ok (.iconst 3, 1) := by decide +kernel
theorem dX3_init_38 : decode cX3_init 38 = .ok (.newarray .int, 2) := by decide +kernel
theorem dX3_init_40 : decode cX3_init 40 = .ok (.putfield 24, 3) := by decide +kernel
theorem dX3_init_43 : decode cX3_init 43 = .ok (.return_, 1) := by decide +kernel
theorem dX3_clear_0 : decode cX3_clear 0 = .ok (.aload_n 0, 1) := by decide +kernel
theorem dX3_clear_1 : decode cX3_clear 1 = .ok (.iconst 0, 1) := by decide +kernel
theorem dX3_clear_2 : decode cX3_clear 2 = .ok (.putfield 27, 3) := by decide +kernel
theorem dX3_clear_5 : decode cX3_clear 5 = .ok (.aload_n 0, 1) := by decide +kernel
theorem dX3_clear_6 : decode cX3_clear 6 = .ok (.getfield 24, 3) := by decide +kernel
theorem dX3_clear_9 : decode cX3_clear 9 = .ok (.iconst (-1), 1) := by decide +kernel
theorem dX3_clear_10 : decode cX3_clear 10 = .ok (.invokestatic 31, 3) := by decide +kernel
theorem dX3_clear_13 : decode cX3_clear 13 = .ok (.return_, 1) := by decide +kernel
theorem dX3_add_0 : decode cX3_add 0 = .ok (.aload_n 0, 1) := by decide +kernel
theorem dX3_add_1 : decode cX3_add 1 = .ok (.getfield 27, 3) := by decide +kernel
theorem dX3_add_4 : decode cX3_add 4 = .ok (.bipush 6, 2) := by decide +kernel
theorem dX3_add_6 : decode cX3_add 6 = .ok (.if_icmp .lt 4, 3) := by decide +kernel
theorem dX3_add_9 : decode cX3_add 9 = .ok (.return_, 1) := by decide +kernel
theorem dX3_add_10 : decode cX3_add 10 = .ok (.aload_n 0, 1) := by decide +kernel
theorem dX3_add_11 : decode cX3_add 11 = .ok (.getfield 9, 3) := by decide +kernel
theorem dX3_add_14 : decode cX3_add 14 = .ok (.aload_n 0, 1) := by decide +kernel
theorem dX3_add_15 : decode cX3_add 15 = .ok (.getfield 27, 3) := by decide +kernel
theorem dX3_add_18 : decode cX3_add 18 = .ok (.iload_n 1, 1) := by decide +kernel
theorem dX3_add_19 : decode cX3_add 19 = .ok (.iastore, 1) := by decide +kernel
theorem dX3_add_20 : decode cX3_add 20 = .ok (.aload_n 0, 1) := by decide +kernel
theorem dX3_add_21 : decode cX3_add 21 = .ok (.getfield 15, 3) := by decide +kernel
theorem dX3_add_24 : decode cX3_add 24 = .ok (.aload_n 0, 1) := by decide +kernel
theorem dX3_add_25 : decode cX3_add 25 = .ok (.getfield 27, 3) := by decide +kernel
theorem dX3_add_28 : decode cX3_add 28 = .ok (.iload_n 2, 1) := by decide +kernel
theorem dX3_add_29 : decode cX3_add 29 = .ok (.iastore, 1) := by decide +kernel
theorem dX3_add_30 : decode cX3_add 30 = .ok (.aload_n 0, 1) := by decide +kernel
theorem dX3_add_31 : decode cX3_add 31 = .ok (.getfield 18, 3) := by decide +kernel
theorem dX3_add_34 : decode cX3_add 34 = .ok (.aload_n 0, 1) := by decide +kernel
theorem dX3_add_35 : decode cX3_add 35 = .ok (.getfield 27, 3) := by decide +kernel
theorem dX3_add_38 : decode cX3_add 38 = .ok (.iload_n 3, 1) := by decide +kernel
theorem dX3_add_39 : decode cX3_add 39 = .ok (.iastore, 1) := by decide +kernel
theorem dX3_add_40 : decode cX3_add 40 = .ok (.aload_n 0, 1) := by decide +kernel
theorem dX3_add_41 : decode cX3_add 41 = .ok (.getfield 21, 3) := by decide +kernel
theorem dX3_add_44 : decode cX3_add 44 = .ok (.aload_n 0, 1) := by decide +kernel
theorem dX3_add_45 : decode cX3_add 45 = .ok (.getfield 27, 3) := by decide +kernel
theorem dX3_add_48 : decode cX3_add 48 = .ok (.iload 4, 2) := by decide +kernel
theorem dX3_add_50 : decode cX3_add 50 = .ok (.iastore, 1) := by decide +kernel
theorem dX3_add_51 : decode cX3_add 51 = .ok (.iload_n 1, 1) := by decide +kernel
theorem dX3_add_52 : decode cX3_add 52 = .ok (.ifCond .ne 21, 3) := by decide +kernel
theorem dX3_add_55 : decode cX3_add 55 = .ok (.iload_n 2, 1) := by decide +kernel
theorem dX3_add_56 : decode cX3_add 56 = .ok (.iconst 3, 1) := by decide +kernel
theorem dX3_add_57 : decode cX3_add 57 = .ok (.invokestatic 37, 3) := by decide +kernel
theorem dX3_add_60 : decode cX3_add 60 = .ok (.ifCond .eq 13, 3) := by decide +kernel
theorem dX3_add_63 : decode cX3_add 63 = .ok (.aload_n 0, 1) := by decide +kernel
theorem dX3_add_64 : decode cX3_add 64 = .ok (.getfield 24, 3) := by decide +kernel
theorem dX3_add_67 : decode cX3_add 67 = .ok (.iload_n 2, 1) := by decide +kernel
theorem dX3_add_68 : decode cX3_add 68 = .ok (.aload_n 0, 1) := by decide +kernel
theorem dX3_add_69 : decode cX3_add 69 = .ok (.getfield 27, 3) := by decide +kernel
theorem dX3_add_72 : decode cX3_add 72 = .ok (.iastore, 1) := by decide +kernel
theorem dX3_add_73 : decode cX3_add 73 = .ok (.aload_n 0, 1) := by decide +kernel
theorem dX3_add_74 : decode cX3_add 74 = .ok (.dup, 1) := by decide +kernel
theorem dX3_add_75 : decode cX3_add 75 = .ok (.getfield 27, 3) := by decide +kernel
theorem dX3_add_78 : decode cX3_add 78 = .ok (.iconst 1, 1) := by decide +kernel
theorem dX3_add_79 : decode cX3_add 79 = .ok (.iadd, 1) := by decide +kernel
theorem dX3_add_80 : decode cX3_add 80 = .ok (.putfield 27, 3) := by decide +kernel
theorem dX3_add_83 : decode cX3_add 83 = .ok (.return_, 1) := by decide +kernel
theorem dX3_become_0 : decode cX3_become 0 = .ok (.aload_n 0, 1) := by decide +kernel
theorem dX3_become_1 : decode cX3_become 1 = .ok (.aload_n 1, 1) := by decide +kernel
theorem dX3_become_2 : decode cX3_become 2 = .ok (.getfield 27, 3) := by decide +kernel
theorem dX3_become_5 : decode cX3_become 5 = .ok (.putfield 27, 3) := by decide +kernel
theorem dX3_become_8 : decode cX3_become 8 = .ok (.aload_n 1, 1) := by decide +kernel
theorem dX3_become_9 : decode cX3_become 9 = .ok (.getfield 9, 3) := by decide +kernel
theorem dX3_become_12 : decode cX3_become 12 = .ok (.iconst 0, 1) := by decide +kernel
theorem dX3_become_13 : decode cX3_become 13 = .ok (.aload_n 0, 1) := by decide +kernel
theorem dX3_become_14 : decode cX3_become 14 = .ok (.getfield 9, 3) := by decide +kernel
theorem dX3_become_17 : decode cX3_become 17 = .ok (.iconst 0, 1) := by decide +kernel
theorem dX3_become_18 : decode cX3_become 18 = .ok (.bipush 6, 2) := by decide +kernel
theorem dX3_become_20 : decode cX3_become 20 = .ok (.invokestatic 41, 3) := by decide +kernel
theorem dX3_become_23 : decode cX3_become 23 = .ok (.aload_n 1, 1) := by decide +kernel
theorem dX3_become_24 : decode cX3_become 24 = .ok (.getfield 15, 3) := by decide +kernel
theorem dX3_become_27 : decode cX3_become 27 = .ok (.iconst 0, 1) := by decide +kernel
theorem dX3_become_28 : decode cX3_become 28 = .ok (.aload_n 0, 1) := by decide +kernel
theorem dX3_become_29 : decode cX3_become 29 = .ok (.getfield 15, 3) := by decide +kernel
theorem dX3_become_32 : decode cX3_become 32 = .ok (.iconst 0, 1) := by decide +kernel
theorem dX3_become_33 : decode cX3_become 33 = .ok (.bipush 6, 2) := by decide +kernel
theorem dX3_become_35 : decode cX3_become 35 = .ok (.invokestatic 41, 3) := by decide +kernel
theorem dX3_become_38 : decode cX3_become 38 = .ok (.aload_n 1, 1) := by decide +kernel
theorem dX3_become_39 : decode cX3_become 39 = .ok (.getfield 18, 3) := by decide +kernel
theorem dX3_become_42 : decode cX3_become 42 = .ok (.iconst 0, 1) := by decide +kernel
theorem dX3_become_43 : decode cX3_become 43 = .ok (.aload_n 0, 1) := by decide +kernel
theorem dX3_become_44 : decode cX3_become 44 = .ok (.getfield 18, 3) := by decide +kernel
theorem dX3_become_47 : decode cX3_become 47 = .ok (.iconst 0, 1) := by decide +kernel
theorem dX3_become_48 : decode cX3_become 48 = .ok (.bipush 6, 2) := by decide +kernel
theorem dX3_become_50 : decode cX3_become 50 = .ok (.invokestatic 41, 3) := by decide +kernel
theorem dX3_become_53 : decode cX3_become 53 = .ok (.aload_n 1, 1) := by decide +kernel
theorem dX3_become_54 : decode cX3_become 54 = .ok (.getfield 21, 3) := by decide +kernel
theorem dX3_become_57 : decode cX3_become 57 = .ok (.iconst 0, 1) := by decide +kernel
theorem dX3_become_58 : decode cX3_become 58 = .ok (.aload_n 0, 1) := by decide +kernel
theorem dX3_become_59 : decode cX3_become 59 = .ok (.getfield 21, 3) := by decide +kernel
theorem dX3_become_62 : decode cX3_become 62 = .ok (.iconst 0, 1) := by decide +kernel
theorem dX3_become_63 : decode cX3_become 63 = .ok (.bipush 6, 2) := by decide +kernel
theorem dX3_become_65 : decode cX3_become 65 = .ok (.invokestatic 41, 3) := by decide +kernel
theorem dX3_become_68 : decode cX3_become 68 = .ok (.aload_n 1, 1) := by decide +kernel
theorem dX3_become_69 : decode cX3_become 69 = .ok (.getfield 24, 3) := by decide +kernel
theorem dX3_become_72 : decode cX3_become 72 = .ok (.iconst 0, 1) := by decide +kernel
theorem dX3_become_73 : decode cX3_become 73 = .ok (.aload_n 0, 1) := by decide +kernel
theorem dX3_become_74 : decode cX3_become 74 = .ok (.getfield 24, 3) := by decide +kernel
theorem dX3_become_77 : decode cX3_become 77 = .ok (.iconst 0, 1) := by decide +kernel
theorem dX3_become_78 : decode cX3_become 78 = .ok (.iconst 3, 1) := by decide +kernel
theorem dX3_become_79 : decode cX3_become 79 = .ok (.invokestatic 41, 3) := by decide +kernel
theorem dX3_become_82 : decode cX3_become 82 = .ok (.return_, 1) := by decide +kernel
theorem dX3_has_0 : decode cX3_has 0 = .ok (.iload_n 1, 1) := by decide +kernel
theorem dX3_has_1 : decode cX3_has 1 = .ok (.ifCond .lt 15, 3) := by decide +kernel
theorem dX3_has_4 : decode cX3_has 4 = .ok (.iload_n 1, 1) := by decide +kernel
theorem dX3_has_5 : decode cX3_has 5 = .ok (.aload_n 0, 1) := by decide +kernel
theorem dX3_has_6 : decode cX3_has 6 = .ok (.getfield 27, 3) := by decide +kernel
theorem dX3_has_9 : decode cX3_has 9 = .ok (.if_icmp .ge 7, 3) := by decide +kernel
theorem dX3_has_12 : decode cX3_has 12 = .ok (.iconst 1, 1) := by decide +kernel
theorem dX3_has_13 : decode cX3_has 13 = .ok (.goto 4, 3) := by decide +kernel
theorem dX3_has_16 : decode cX3_has 16 = .ok (.iconst 0, 1) := by decide +kernel
theorem dX3_has_17 : decode cX3_has 17 = .ok (.ireturn, 1) := by decide +kernel
theorem dX3_groupOf_0 : decode cX3_groupOf 0 = .ok (.aload_n 0, 1) := by decide +kernel
theorem dX3_groupOf_1 : decode cX3_groupOf 1 = .ok (.iload_n 1, 1) := by decide +kernel
theorem dX3_groupOf_2 : decode cX3_groupOf 2 = .ok (.invokevirtual 47, 3) := by decide +kernel
theorem dX3_groupOf_5 : decode cX3_groupOf 5 = .ok (.ifCond .eq 12, 3) := by decide +kernel
theorem dX3_groupOf_8 : decode cX3_groupOf 8 = .ok (.aload_n 0, 1) := by decide +kernel
theorem dX3_groupOf_9 : decode cX3_groupOf 9 = .ok (.getfield 15, 3) := by decide +kernel
theorem dX3_groupOf_12 : decode cX3_groupOf 12 = .ok (.iload_n 1, 1) := by decide +kernel
theorem dX3_groupOf_13 : decode cX3_groupOf 13 = .ok (.iaload, 1) := by decide +kernel
theorem dX3_groupOf_14 : decode cX3_groupOf 14 = .ok (.goto 4, 3) := by decide +kernel
theorem dX3_groupOf_17 : decode cX3_groupOf 17 = .ok (.iconst (-1), 1) := by decide +kernel
theorem dX3_groupOf_18 : decode cX3_groupOf 18 = .ok (.ireturn, 1) := by decide +kernel
theorem dX3_caseOf_0 : decode cX3_caseOf 0 = .ok (.aload_n 0, 1) := by decide +kernel
theorem dX3_caseOf_1 : decode cX3_caseOf 1 = .ok (.iload_n 1, 1) := by decide +kernel
theorem dX3_caseOf_2 : decode cX3_caseOf 2 = .ok (.invokevirtual 47, 3) := by decide +kernel
theorem dX3_caseOf_5 : decode cX3_caseOf 5 = .ok (.ifCond .eq 12, 3) := by decide +kernel
theorem dX3_caseOf_8 : decode cX3_caseOf 8 = .ok (.aload_n 0, 1) := by decide +kernel
theorem dX3_caseOf_9 : decode cX3_caseOf 9 = .ok (.getfield 18, 3) := by decide +kernel
theorem dX3_caseOf_12 : decode cX3_caseOf 12 = .ok (.iload_n 1, 1) := by decide +kernel
theorem dX3_caseOf_13 : decode cX3_caseOf 13 = .ok (.iaload, 1) := by decide +kernel
theorem dX3_caseOf_14 : decode cX3_caseOf 14 = .ok (.goto 4, 3) := by decide +kernel
theorem dX3_caseOf_17 : decode cX3_caseOf 17 = .ok (.iconst (-1), 1) := by decide +kernel
theorem dX3_caseOf_18 : decode cX3_caseOf 18 = .ok (.ireturn, 1) := by decide +kernel
theorem dX3_nounOf_0 : decode cX3_nounOf 0 = .ok (.iload_n 1, 1) := by decide +kernel
theorem dX3_nounOf_1 : decode cX3_nounOf 1 = .ok (.iconst 3, 1) := by decide +kernel
theorem dX3_nounOf_2 : decode cX3_nounOf 2 = .ok (.invokestatic 37, 3) := by decide +kernel
theorem dX3_nounOf_5 : decode cX3_nounOf 5 = .ok (.ifCond .eq 12, 3) := by decide +kernel
theorem dX3_nounOf_8 : decode cX3_nounOf 8 = .ok (.aload_n 0, 1) := by decide +kernel
theorem dX3_nounOf_9 : decode cX3_nounOf 9 = .ok (.getfield 24, 3) := by decide +kernel
theorem dX3_nounOf_12 : decode cX3_nounOf 12 = .ok (.iload_n 1, 1) := by decide +kernel
theorem dX3_nounOf_13 : decode cX3_nounOf 13 = .ok (.iaload, 1) := by decide +kernel
theorem dX3_nounOf_14 : decode cX3_nounOf 14 = .ok (.goto 4, 3) := by decide +kernel
theorem dX3_nounOf_17 : decode cX3_nounOf 17 = .ok (.iconst (-1), 1) := by decide +kernel
theorem dX3_nounOf_18 : decode cX3_nounOf 18 = .ok (.ireturn, 1) := by decide +kernel
theorem dX3_isWhole_0 : decode cX3_isWhole 0 = .ok (.iconst 0, 1) := by decide +kernel
theorem dX3_isWhole_1 : decode cX3_isWhole 1 = .ok (.istore_n 1, 1) := by decide +kernel
theorem dX3_isWhole_2 : decode cX3_isWhole 2 = .ok (.iload_n 1, 1) := by decide +kernel
theorem dX3_isWhole_3 : decode cX3_isWhole 3 = .ok (.aload_n 0, 1) := by decide +kernel
theorem dX3_isWhole_4 : decode cX3_isWhole 4 = .ok (.getfield 27, 3) := by decide +kernel
theorem dX3_isWhole_7 : decode cX3_isWhole 7 = .ok (.if_icmp .ge 33, 3) := by decide +kernel
theorem dX3_isWhole_10 : decode cX3_isWhole 10 = .ok (.aload_n 0, 1) := by decide +kernel
theorem dX3_isWhole_11 : decode cX3_isWhole 11 = .ok (.iload_n 1, 1) := by decide +kernel
theorem dX3_isWhole_12 : decode cX3_isWhole 12 = .ok (.invokevirtual 51, 3) := by decide +kernel
theorem dX3_isWhole_15 : decode cX3_isWhole 15 = .ok (.iconst (-1), 1) := by decide +kernel
theorem dX3_isWhole_16 : decode cX3_isWhole 16 = .ok (.if_icmp .eq 18, 3) := by decide +kernel
theorem dX3_isWhole_19 : decode cX3_isWhole 19 = .ok (.aload_n 0, 1) := by decide +kernel
theorem dX3_isWhole_20 : decode cX3_isWhole 20 = .ok (.aload_n 0, 1) := by decide +kernel
theorem dX3_isWhole_21 : decode cX3_isWhole 21 = .ok (.iload_n 1, 1) := by decide +kernel
theorem dX3_isWhole_22 : decode cX3_isWhole 22 = .ok (.invokevirtual 51, 3) := by decide +kernel
theorem dX3_isWhole_25 : decode cX3_isWhole 25 = .ok (.invokevirtual 55, 3) := by decide +kernel
theorem dX3_isWhole_28 : decode cX3_isWhole 28 = .ok (.iconst (-1), 1) := by decide +kernel
theorem dX3_isWhole_29 : decode cX3_isWhole 29 = .ok (.if_icmp .ne 5, 3) := by decide +kernel
theorem dX3_isWhole_32 : decode cX3_isWhole 32 = .ok (.iconst 0, 1) := by decide +kernel
theorem dX3_isWhole_33 : decode cX3_isWhole 33 = .ok (.ireturn, 1) := by decide +kernel
theorem dX3_isWhole_34 : decode cX3_isWhole 34 = .ok (.iinc 1 1, 3) := by decide +kernel
theorem dX3_isWhole_37 : decode cX3_isWhole 37 = .ok (.goto (-35), 3) := by decide +kernel
theorem dX3_isWhole_40 : decode cX3_isWhole 40 = .ok (.aload_n 0, 1) := by decide +kernel
theorem dX3_isWhole_41 : decode cX3_isWhole 41 = .ok (.getfield 27, 3) := by decide +kernel
theorem dX3_isWhole_44 : decode cX3_isWhole 44 = .ok (.ifCond .le 7, 3) := by decide +kernel
theorem dX3_isWhole_47 : decode cX3_isWhole 47 = .ok (.iconst 1, 1) := by decide +kernel
theorem dX3_isWhole_48 : decode cX3_isWhole 48 = .ok (.goto 4, 3) := by decide +kernel
theorem dX3_isWhole_51 : decode cX3_isWhole 51 = .ok (.iconst 0, 1) := by decide +kernel
theorem dX3_isWhole_52 : decode cX3_isWhole 52 = .ok (.ireturn, 1) := by decide +kernel
theorem dX3_takes_0 : decode cX3_takes 0 = .ok (.aload_n 0, 1) := by decide +kernel
theorem dX3_takes_1 : decode cX3_takes 1 = .ok (.iload_n 1, 1) := by decide +kernel
theorem dX3_takes_2 : decode cX3_takes 2 = .ok (.invokevirtual 47, 3) := by decide +kernel
theorem dX3_takes_5 : decode cX3_takes 5 = .ok (.ifCond .ne 5, 3) := by decide +kernel
theorem dX3_takes_8 : decode cX3_takes 8 = .ok (.iconst 0, 1) := by decide +kernel
theorem dX3_takes_9 : decode cX3_takes 9 = .ok (.ireturn, 1) := by decide +kernel
theorem dX3_takes_10 : decode cX3_takes 10 = .ok (.aload_n 0, 1) := by decide +kernel
theorem dX3_takes_11 : decode cX3_takes 11 = .ok (.getfield 9, 3) := by decide +kernel
theorem dX3_takes_14 : decode cX3_takes 14 = .ok (.iload_n 1, 1) := by decide +kernel
theorem dX3_takes_15 : decode cX3_takes 15 = .ok (.iaload, 1) := by decide +kernel
theorem dX3_takes_16 : decode cX3_takes 16 = .ok (.tableswitch 109 0 3 #[32, 54, 76, 90], 32) := by decide +kernel
theorem dX3_takes_48 : decode cX3_takes 48 = .ok (.aload_n 2, 1) := by decide +kernel
theorem dX3_takes_49 : decode cX3_takes 49 = .ok (.getfield 58, 3) := by decide +kernel
theorem dX3_takes_52 : decode cX3_takes 52 = .ok (.iconst 1, 1) := by decide +kernel
theorem dX3_takes_53 : decode cX3_takes 53 = .ok (.if_icmp .eq 11, 3) := by decide +kernel
theorem dX3_takes_56 : decode cX3_takes 56 = .ok (.aload_n 2, 1) := by decide +kernel
theorem dX3_takes_57 : decode cX3_takes 57 = .ok (.getfield 58, 3) := by decide +kernel
theorem dX3_takes_60 : decode cX3_takes 60 = .ok (.iconst 3, 1) := by decide +kernel
theorem dX3_takes_61 : decode cX3_takes 61 = .ok (.if_icmp .ne 7, 3) := by decide +kernel
theorem dX3_takes_64 : decode cX3_takes 64 = .ok (.iconst 1, 1) := by decide +kernel
theorem dX3_takes_65 : decode cX3_takes 65 = .ok (.goto 4, 3) := by decide +kernel
theorem dX3_takes_68 : decode cX3_takes 68 = .ok (.iconst 0, 1) := by decide +kernel
theorem dX3_takes_69 : decode cX3_takes 69 = .ok (.ireturn, 1) := by decide +kernel
theorem dX3_takes_70 : decode cX3_takes 70 = .ok (.aload_n 2, 1) := by decide +kernel
theorem dX3_takes_71 : decode cX3_takes 71 = .ok (.getfield 58, 3) := by decide +kernel
theorem dX3_takes_74 : decode cX3_takes 74 = .ok (.iconst 2, 1) := by decide +kernel
theorem dX3_takes_75 : decode cX3_takes 75 = .ok (.if_icmp .eq 11, 3) := by decide +kernel
theorem dX3_takes_78 : decode cX3_takes 78 = .ok (.aload_n 2, 1) := by decide +kernel
theorem dX3_takes_79 : decode cX3_takes 79 = .ok (.getfield 58, 3) := by decide +kernel
theorem dX3_takes_82 : decode cX3_takes 82 = .ok (.iconst 5, 1) := by decide +kernel
theorem dX3_takes_83 : decode cX3_takes 83 = .ok (.if_icmp .ne 7, 3) := by decide +kernel
theorem dX3_takes_86 : decode cX3_takes 86 = .ok (.iconst 1, 1) := by decide +kernel
theorem dX3_takes_87 : decode cX3_takes 87 = .ok (.goto 4, 3) := by decide +kernel
theorem dX3_takes_90 : decode cX3_takes 90 = .ok (.iconst 0, 1) := by decide +kernel
theorem dX3_takes_91 : decode cX3_takes 91 = .ok (.ireturn, 1) := by decide +kernel
theorem dX3_takes_92 : decode cX3_takes 92 = .ok (.aload_n 2, 1) := by decide +kernel
theorem dX3_takes_93 : decode cX3_takes 93 = .ok (.getfield 58, 3) := by decide +kernel
theorem dX3_takes_96 : decode cX3_takes 96 = .ok (.iconst 4, 1) := by decide +kernel
theorem dX3_takes_97 : decode cX3_takes 97 = .ok (.if_icmp .ne 7, 3) := by decide +kernel
theorem dX3_takes_100 : decode cX3_takes 100 = .ok (.iconst 1, 1) := by decide +kernel
theorem dX3_takes_101 : decode cX3_takes 101 = .ok (.goto 4, 3) := by decide +kernel
theorem dX3_takes_104 : decode cX3_takes 104 = .ok (.iconst 0, 1) := by decide +kernel
theorem dX3_takes_105 : decode cX3_takes 105 = .ok (.ireturn, 1) := by decide +kernel
theorem dX3_takes_106 : decode cX3_takes 106 = .ok (.aload_n 2, 1) := by decide +kernel
theorem dX3_takes_107 : decode cX3_takes 107 = .ok (.getfield 63, 3) := by decide +kernel
theorem dX3_takes_110 : decode cX3_takes 110 = .ok (.aload_n 0, 1) := by decide +kernel
theorem dX3_takes_111 : decode cX3_takes 111 = .ok (.getfield 21, 3) := by decide +kernel
theorem dX3_takes_114 : decode cX3_takes 114 = .ok (.iload_n 1, 1) := by decide +kernel
theorem dX3_takes_115 : decode cX3_takes 115 = .ok (.iaload, 1) := by decide +kernel
theorem dX3_takes_116 : decode cX3_takes 116 = .ok (.if_icmp .ne 7, 3) := by decide +kernel
theorem dX3_takes_119 : decode cX3_takes 119 = .ok (.iconst 1, 1) := by decide +kernel
theorem dX3_takes_120 : decode cX3_takes 120 = .ok (.goto 4, 3) := by decide +kernel
theorem dX3_takes_123 : decode cX3_takes 123 = .ok (.iconst 0, 1) := by decide +kernel
theorem dX3_takes_124 : decode cX3_takes 124 = .ok (.ireturn, 1) := by decide +kernel
theorem dX3_takes_125 : decode cX3_takes 125 = .ok (.iconst 0, 1) := by decide +kernel
theorem dX3_takes_126 : decode cX3_takes 126 = .ok (.ireturn, 1) := by decide +kernel
theorem dX4_init_0 : decode cX4_init 0 = .ok (.aload_n 0, 1) := by decide +kernel
theorem dX4_init_1 : decode cX4_init 1 = .ok (.invokespecial 3, 3) := by decide +kernel
theorem dX4_init_4 : decode cX4_init 4 = .ok (.aload_n 0, 1) := by decide +kernel
theorem dX4_init_5 : decode cX4_init 5 = .ok (.new 9, 3) := by decide +kernel
theorem dX4_init_8 : decode cX4_init 8 = .ok (.dup, 1) := by decide +kernel
theorem dX4_init_9 : decode cX4_init 9 = .ok (.invokespecial 11, 3) := by decide +kernel
theorem dX4_init_12 : decode cX4_init 12 = .ok (.putfield 12, 3) := by decide +kernel
theorem dX4_init_15 : decode cX4_init 15 = .ok (.return_, 1) := by decide +kernel
theorem dX4_read_0 : decode cX4_read 0 = .ok (.aload_n 0, 1) := by decide +kernel
theorem dX4_read_1 : decode cX4_read 1 = .ok (.getfield 12, 3) := by decide +kernel
theorem dX4_read_4 : decode cX4_read 4 = .ok (.invokevirtual 18, 3) := by decide +kernel
theorem dX4_read_7 : decode cX4_read 7 = .ok (.aload_n 0, 1) := by decide +kernel
theorem dX4_read_8 : decode cX4_read 8 = .ok (.iconst 0, 1) := by decide +kernel
theorem dX4_read_9 : decode cX4_read 9 = .ok (.putfield 21, 3) := by decide +kernel
theorem dX4_read_12 : decode cX4_read 12 = .ok (.aload_n 0, 1) := by decide +kernel
theorem dX4_read_13 : decode cX4_read 13 = .ok (.aload_n 2, 1) := by decide +kernel
theorem dX4_read_14 : decode cX4_read 14 = .ok (.invokevirtual 25, 3) := by decide +kernel
theorem dX4_read_17 : decode cX4_read 17 = .ok (.iconst 0, 1) := by decide +kernel
theorem dX4_read_18 : decode cX4_read 18 = .ok (.istore_n 3, 1) := by decide +kernel
theorem dX4_read_19 : decode cX4_read 19 = .ok (.iload_n 3, 1) := by decide +kernel
theorem dX4_read_20 : decode cX4_read 20 = .ok (.bipush 6, 2) := by decide +kernel
theorem dX4_read_22 : decode cX4_read 22 = .ok (.if_icmp .gt 39, 3) := by decide +kernel
theorem dX4_read_25 : decode cX4_read 25 = .ok (.aload_n 0, 1) := by decide +kernel
theorem dX4_read_26 : decode cX4_read 26 = .ok (.getfield 21, 3) := by decide +kernel
theorem dX4_read_29 : decode cX4_read 29 = .ok (.aload_n 2, 1) := by decide +kernel
theorem dX4_read_30 : decode cX4_read 30 = .ok (.getfield 29, 3) := by decide +kernel
theorem dX4_read_33 : decode cX4_read 33 = .ok (.if_icmp .ge 28, 3) := by decide +kernel
theorem dX4_read_36 : decode cX4_read 36 = .ok (.aload_n 0, 1) := by decide +kernel
theorem dX4_read_37 : decode cX4_read 37 = .ok (.aload_n 1, 1) := by decide +kernel
theorem dX4_read_38 : decode cX4_read 38 = .ok (.aload_n 2, 1) := by decide +kernel
theorem dX4_read_39 : decode cX4_read 39 = .ok (.invokevirtual 34, 3) := by decide +kernel
theorem dX4_read_42 : decode cX4_read 42 = .ok (.ifCond .ne 8, 3) := by decide +kernel
theorem dX4_read_45 : decode cX4_read 45 = .ok (.aload_n 0, 1) := by decide +kernel
theorem dX4_read_46 : decode cX4_read 46 = .ok (.getfield 21, 3) := by decide +kernel
theorem dX4_read_49 : decode cX4_read 49 = .ok (.ireturn, 1) := by decide +kernel
theorem dX4_read_50 : decode cX4_read 50 = .ok (.aload_n 0, 1) := by decide +kernel
theorem dX4_read_51 : decode cX4_read 51 = .ok (.aload_n 2, 1) := by decide +kernel
theorem dX4_read_52 : decode cX4_read 52 = .ok (.invokevirtual 25, 3) := by decide +kernel
theorem dX4_read_55 : decode cX4_read 55 = .ok (.iinc 3 1, 3) := by decide +kernel
theorem dX4_read_58 : decode cX4_read 58 = .ok (.goto (-39), 3) := by decide +kernel
theorem dX4_read_61 : decode cX4_read 61 = .ok (.aload_n 0, 1) := by decide +kernel
theorem dX4_read_62 : decode cX4_read 62 = .ok (.getfield 12, 3) := by decide +kernel
theorem dX4_read_65 : decode cX4_read 65 = .ok (.invokevirtual 38, 3) := by decide +kernel
theorem dX4_read_68 : decode cX4_read 68 = .ok (.ifCond .eq 7, 3) := by decide +kernel
theorem dX4_read_71 : decode cX4_read 71 = .ok (.iconst (-1), 1) := by decide +kernel
theorem dX4_read_72 : decode cX4_read 72 = .ok (.goto 7, 3) := by decide +kernel
theorem dX4_read_75 : decode cX4_read 75 = .ok (.aload_n 2, 1) := by decide +kernel
theorem dX4_read_76 : decode cX4_read 76 = .ok (.getfield 29, 3) := by decide +kernel
theorem dX4_read_79 : decode cX4_read 79 = .ok (.ireturn, 1) := by decide +kernel
theorem dX4_skipBlanks_0 : decode cX4_skipBlanks 0 = .ok (.aload_n 0, 1) := by decide +kernel
theorem dX4_skipBlanks_1 : decode cX4_skipBlanks 1 = .ok (.getfield 21, 3) := by decide +kernel
theorem dX4_skipBlanks_4 : decode cX4_skipBlanks 4 = .ok (.istore_n 2, 1) := by decide +kernel
theorem dX4_skipBlanks_5 : decode cX4_skipBlanks 5 = .ok (.iload_n 2, 1) := by decide +kernel
theorem dX4_skipBlanks_6 : decode cX4_skipBlanks 6 = .ok (.aload_n 1, 1) := by decide +kernel
theorem dX4_skipBlanks_7 : decode cX4_skipBlanks 7 = .ok (.getfield 29, 3) := by decide +kernel
theorem dX4_skipBlanks_10 : decode cX4_skipBlanks 10 = .ok (.if_icmp .ge 36, 3) := by decide +kernel
theorem dX4_skipBlanks_13 : decode cX4_skipBlanks 13 = .ok (.aload_n 1, 1) := by decide +kernel
theorem dX4_skipBlanks_14 : decode cX4_skipBlanks 14 = .ok (.iload_n 2, 1) := by decide +kernel
theorem dX4_skipBlanks_15 : decode cX4_skipBlanks 15 = .ok (.invokevirtual 42, 3) := by decide +kernel
theorem dX4_skipBlanks_18 : decode cX4_skipBlanks 18 = .ok (.bipush 32, 2) := by decide +kernel
theorem dX4_skipBlanks_20 : decode cX4_skipBlanks 20 = .ok (.if_icmp .eq 13, 3) := by decide +kernel
theorem dX4_skipBlanks_23 : decode cX4_skipBlanks 23 = .ok (.aload_n 1, 1) := by decide +kernel
theorem dX4_skipBlanks_24 : decode cX4_skipBlanks 24 = .ok (.iload_n 2, 1) := by decide +kernel
theorem dX4_skipBlanks_25 : decode cX4_skipBlanks 25 = .ok (.invokevirtual 42, 3) := by decide +kernel
theorem dX4_skipBlanks_28 : decode cX4_skipBlanks 28 = .ok (.bipush 10, 2) := by decide +kernel
theorem dX4_skipBlanks_30 : decode cX4_skipBlanks 30 = .ok (.if_icmp .ne 16, 3) := by decide +kernel
theorem dX4_skipBlanks_33 : decode cX4_skipBlanks 33 = .ok (.aload_n 0, 1) := by decide +kernel
theorem dX4_skipBlanks_34 : decode cX4_skipBlanks 34 = .ok (.iload_n 2, 1) := by decide +kernel
theorem dX4_skipBlanks_35 : decode cX4_skipBlanks 35 = .ok (.iconst 1, 1) := by decide +kernel
theorem dX4_skipBlanks_36 : decode cX4_skipBlanks 36 = .ok (.iadd, 1) := by decide +kernel
theorem dX4_skipBlanks_37 : decode cX4_skipBlanks 37 = .ok (.putfield 21, 3) := by decide +kernel
theorem dX4_skipBlanks_40 : decode cX4_skipBlanks 40 = .ok (.iinc 2 1, 3) := by decide +kernel
theorem dX4_skipBlanks_43 : decode cX4_skipBlanks 43 = .ok (.goto (-38), 3) := by decide +kernel
theorem dX4_skipBlanks_46 : decode cX4_skipBlanks 46 = .ok (.return_, 1) := by decide +kernel
theorem dX4_readHole_0 : decode cX4_readHole 0 = .ok (.aload_n 2, 1) := by decide +kernel
theorem dX4_readHole_1 : decode cX4_readHole 1 = .ok (.aload_n 0, 1) := by decide +kernel
theorem dX4_readHole_2 : decode cX4_readHole 2 = .ok (.getfield 21, 3) := by decide +kernel
theorem dX4_readHole_5 : decode cX4_readHole 5 = .ok (.invokevirtual 42, 3) := by decide +kernel
theorem dX4_readHole_8 : decode cX4_readHole 8 = .ok (.invokestatic 46, 3) := by decide +kernel
theorem dX4_readHole_11 : decode cX4_readHole 11 = .ok (.istore_n 3, 1) := by decide +kernel
theorem dX4_readHole_12 : decode cX4_readHole 12 = .ok (.iload_n 3, 1) := by decide +kernel
theorem dX4_readHole_13 : decode cX4_readHole 13 = .ok (.iconst (-1), 1) := by decide +kernel
theorem dX4_readHole_14 : decode cX4_readHole 14 = .ok (.if_icmp .eq 15, 3) := by decide +kernel
theorem dX4_readHole_17 : decode cX4_readHole 17 = .ok (.aload_n 0, 1) := by decide +kernel
theorem dX4_readHole_18 : decode cX4_readHole 18 = .ok (.getfield 12, 3) := by decide +kernel
theorem dX4_readHole_21 : decode cX4_readHole 21 = .ok (.getfield 49, 3) := by decide +kernel
theorem dX4_readHole_24 : decode cX4_readHole 24 = .ok (.bipush 6, 2) := by decide +kernel
theorem dX4_readHole_26 : decode cX4_readHole 26 = .ok (.if_icmp .lt 5, 3) := by decide +kernel
theorem dX4_readHole_29 : decode cX4_readHole 29 = .ok (.iconst 0, 1) := by decide +kernel
theorem dX4_readHole_30 : decode cX4_readHole 30 = .ok (.ireturn, 1) := by decide +kernel
theorem dX4_readHole_31 : decode cX4_readHole 31 = .ok (.aload_n 0, 1) := by decide +kernel
theorem dX4_readHole_32 : decode cX4_readHole 32 = .ok (.dup, 1) := by decide +kernel
theorem dX4_readHole_33 : decode cX4_readHole 33 = .ok (.getfield 21, 3) := by decide +kernel
theorem dX4_readHole_36 : decode cX4_readHole 36 = .ok (.iconst 1, 1) := by decide +kernel
theorem dX4_readHole_37 : decode cX4_readHole 37 = .ok (.iadd, 1) := by decide +kernel
theorem dX4_readHole_38 : decode cX4_readHole 38 = .ok (.putfield 21, 3) := by decide +kernel
theorem dX4_readHole_41 : decode cX4_readHole 41 = .ok (.iload_n 3, 1) := by decide +kernel
theorem dX4_readHole_42 : decode cX4_readHole 42 = .ok (.iconst 3, 1) := by decide +kernel
theorem dX4_readHole_43 : decode cX4_readHole 43 = .ok (.if_icmp .ne 12, 3) := by decide +kernel
theorem dX4_readHole_46 : decode cX4_readHole 46 = .ok (.aload_n 0, 1) := by decide +kernel
theorem dX4_readHole_47 : decode cX4_readHole 47 = .ok (.aload_n 1, 1) := by decide +kernel
theorem dX4_readHole_48 : decode cX4_readHole 48 = .ok (.aload_n 2, 1) := by decide +kernel
theorem dX4_readHole_49 : decode cX4_readHole 49 = .ok (.invokevirtual 50, 3) := by decide +kernel
theorem dX4_readHole_52 : decode cX4_readHole 52 = .ok (.goto 9, 3) := by decide +kernel
theorem dX4_readHole_55 : decode cX4_readHole 55 = .ok (.aload_n 0, 1) := by decide +kernel
theorem dX4_readHole_56 : decode cX4_readHole 56 = .ok (.iload_n 3, 1) := by decide +kernel
theorem dX4_readHole_57 : decode cX4_readHole 57 = .ok (.aload_n 2, 1) := by decide +kernel
theorem dX4_readHole_58 : decode cX4_readHole 58 = .ok (.invokevirtual 53, 3) := by decide +kernel
theorem dX4_readHole_61 : decode cX4_readHole 61 = .ok (.ireturn, 1) := by decide +kernel
theorem dX4_readGrouped_0 : decode cX4_readGrouped 0 = .ok (.aload_n 2, 1) := by decide +kernel
theorem dX4_readGrouped_1 : decode cX4_readGrouped 1 = .ok (.aload_n 0, 1) := by decide +kernel
theorem dX4_readGrouped_2 : decode cX4_readGrouped 2 = .ok (.getfield 21, 3) := by decide +kernel
theorem dX4_readGrouped_5 : decode cX4_readGrouped 5 = .ok (.iconst 3, 1) := by decide +kernel
theorem dX4_readGrouped_6 : decode cX4_readGrouped 6 = .ok (.invokestatic 57, 3) := by decide +kernel
theorem dX4_readGrouped_9 : decode cX4_readGrouped 9 = .ok (.istore_n 3, 1) := by decide +kernel
theorem dX4_readGrouped_10 : decode cX4_readGrouped 10 = .ok (.iload_n 3, 1) := by decide +kernel
theorem dX4_readGrouped_11 : decode cX4_readGrouped 11 = .ok (.iconst (-1), 1) := by decide +kernel
theorem dX4_readGrouped_12 : decode cX4_readGrouped 12 = .ok (.if_icmp .eq 19, 3) := by decide +kernel
theorem dX4_readGrouped_15 : decode cX4_readGrouped 15 = .ok (.iload_n 1, 1) := by decide +kernel
theorem dX4_readGrouped_16 : decode cX4_readGrouped 16 = .ok (.ifCond .ne 17, 3) := by decide +kernel
theorem dX4_readGrouped_19 : decode cX4_readGrouped 19 = .ok (.aload_n 0, 1) := by decide +kernel
theorem dX4_readGrouped_20 : decode cX4_readGrouped 20 = .ok (.getfield 12, 3) := by decide +kernel
theorem dX4_readGrouped_23 : decode cX4_readGrouped 23 = .ok (.iload_n 3, 1) := by decide +kernel
theorem dX4_readGrouped_24 : decode cX4_readGrouped 24 = .ok (.invokevirtual 61, 3) := by decide +kernel
theorem dX4_readGrouped_27 : decode cX4_readGrouped 27 = .ok (.iconst (-1), 1) := by decide +kernel
theorem dX4_readGrouped_28 : decode cX4_readGrouped 28 = .ok (.if_icmp .eq 5, 3) := by decide +kernel
theorem dX4_readGrouped_31 : decode cX4_readGrouped 31 = .ok (.iconst 0, 1) := by decide +kernel
theorem dX4_readGrouped_32 : decode cX4_readGrouped 32 = .ok (.ireturn, 1) := by decide +kernel
theorem dX4_readGrouped_33 : decode cX4_readGrouped 33 = .ok (.aload_n 0, 1) := by decide +kernel
theorem dX4_readGrouped_34 : decode cX4_readGrouped 34 = .ok (.dup, 1) := by decide +kernel
theorem dX4_readGrouped_35 : decode cX4_readGrouped 35 = .ok (.getfield 21, 3) := by decide +kernel
theorem dX4_readGrouped_38 : decode cX4_readGrouped 38 = .ok (.iconst 1, 1) := by decide +kernel
theorem dX4_readGrouped_39 : decode cX4_readGrouped 39 = .ok (.iadd, 1) := by decide +kernel
theorem dX4_readGrouped_40 : decode cX4_readGrouped 40 = .ok (.putfield 21, 3) := by decide +kernel
theorem dX4_readGrouped_43 : decode cX4_readGrouped 43 = .ok (.iconst (-1), 1) := by decide +kernel
theorem dX4_readGrouped_44 : decode cX4_readGrouped 44 = .ok (.istore 4, 2) := by decide +kernel
theorem dX4_readGrouped_46 : decode cX4_readGrouped 46 = .ok (.iload_n 1, 1) := by decide +kernel
theorem dX4_readGrouped_47 : decode cX4_readGrouped 47 = .ok (.iconst 1, 1) := by decide +kernel
theorem dX4_readGrouped_48 : decode cX4_readGrouped 48 = .ok (.if_icmp .eq 32, 3) := by decide +kernel
theorem dX4_readGrouped_51 : decode cX4_readGrouped 51 = .ok (.aload_n 2, 1) := by decide +kernel
theorem dX4_readGrouped_52 : decode cX4_readGrouped 52 = .ok (.aload_n 0, 1) := by decide +kernel
theorem dX4_readGrouped_53 : decode cX4_readGrouped 53 = .ok (.getfield 21, 3) := by decide +kernel
theorem dX4_readGrouped_56 : decode cX4_readGrouped 56 = .ok (.iconst 4, 1) := by decide +kernel
theorem dX4_readGrouped_57 : decode cX4_readGrouped 57 = .ok (.invokestatic 57, 3) := by decide +kernel
theorem dX4_readGrouped_60 : decode cX4_readGrouped 60 = .ok (.istore 4, 2) := by decide +kernel
theorem dX4_readGrouped_62 : decode cX4_readGrouped 62 = .ok (.iload 4, 2) := by decide +kernel
theorem dX4_readGrouped_64 : decode cX4_readGrouped 64 = .ok (.iconst (-1), 1) := by decide +kernel
theorem dX4_readGrouped_65 : decode cX4_readGrouped 65 = .ok (.if_icmp .ne 5, 3) := by decide +kernel
theorem dX4_readGrouped_68 : decode cX4_readGrouped 68 = .ok (.iconst 0, 1) := by decide +kernel
theorem dX4_readGrouped_69 : decode cX4_readGrouped 69 = .ok (.ireturn, 1) := by decide +kernel
theorem dX4_readGrouped_70 : decode cX4_readGrouped 70 = .ok (.aload_n 0, 1) := by decide +kernel
theorem dX4_readGrouped_71 : decode cX4_readGrouped 71 = .ok (.dup, 1) := by decide +kernel
theorem dX4_readGrouped_72 : decode cX4_readGrouped 72 = .ok (.getfield 21, 3) := by decide +kernel
theorem dX4_readGrouped_75 : decode cX4_readGrouped 75 = .ok (.iconst 1, 1) := by decide +kernel
theorem dX4_readGrouped_76 : decode cX4_readGrouped 76 = .ok (.iadd, 1) := by decide +kernel
theorem dX4_readGrouped_77 : decode cX4_readGrouped 77 = .ok (.putfield 21, 3) := by decide +kernel
theorem dX4_readGrouped_80 : decode cX4_readGrouped 80 = .ok (.aload_n 0, 1) := by decide +kernel
theorem dX4_readGrouped_81 : decode cX4_readGrouped 81 = .ok (.getfield 12, 3) := by decide +kernel
theorem dX4_readGrouped_84 : decode cX4_readGrouped 84 = .ok (.iload_n 1, 1) := by decide +kernel
theorem dX4_readGrouped_85 : decode cX4_readGrouped 85 = .ok (.iload_n 3, 1) := by decide +kernel
theorem dX4_readGrouped_86 : decode cX4_readGrouped 86 = .ok (.iload 4, 2) := by decide +kernel
theorem dX4_readGrouped_88 : decode cX4_readGrouped 88 = .ok (.iconst (-1), 1) := by decide +kernel
theorem dX4_readGrouped_89 : decode cX4_readGrouped 89 = .ok (.invokevirtual 64, 3) := by decide +kernel
theorem dX4_readGrouped_92 : decode cX4_readGrouped 92 = .ok (.iconst 1, 1) := by decide +kernel
theorem dX4_readGrouped_93 : decode cX4_readGrouped 93 = .ok (.ireturn, 1) := by decide +kernel
theorem dX4_readPlain_0 : decode cX4_readPlain 0 = .ok (.aload_n 2, 1) := by decide +kernel
theorem dX4_readPlain_1 : decode cX4_readPlain 1 = .ok (.aload_n 0, 1) := by decide +kernel
theorem dX4_readPlain_2 : decode cX4_readPlain 2 = .ok (.getfield 21, 3) := by decide +kernel
theorem dX4_readPlain_5 : decode cX4_readPlain 5 = .ok (.bipush 10, 2) := by decide +kernel
theorem dX4_readPlain_7 : decode cX4_readPlain 7 = .ok (.invokestatic 57, 3) := by decide +kernel
theorem dX4_readPlain_10 : decode cX4_readPlain 10 = .ok (.istore_n 3, 1) := by decide +kernel
theorem dX4_readPlain_11 : decode cX4_readPlain 11 = .ok (.aload_n 2, 1) := by decide +kernel
theorem dX4_readPlain_12 : decode cX4_readPlain 12 = .ok (.aload_n 0, 1) := by decide +kernel
theorem dX4_readPlain_13 : decode cX4_readPlain 13 = .ok (.getfield 21, 3) := by decide +kernel
theorem dX4_readPlain_16 : decode cX4_readPlain 16 = .ok (.iconst 1, 1) := by decide +kernel
theorem dX4_readPlain_17 : decode cX4_readPlain 17 = .ok (.iadd, 1) := by decide +kernel
theorem dX4_readPlain_18 : decode cX4_readPlain 18 = .ok (.bipush 10, 2) := by decide +kernel
theorem dX4_readPlain_20 : decode cX4_readPlain 20 = .ok (.invokestatic 57, 3) := by decide +kernel
theorem dX4_readPlain_23 : decode cX4_readPlain 23 = .ok (.istore 4, 2) := by decide +kernel
theorem dX4_readPlain_25 : decode cX4_readPlain 25 = .ok (.iload 4, 2) := by decide +kernel
theorem dX4_readPlain_27 : decode cX4_readPlain 27 = .ok (.iconst (-1), 1) := by decide +kernel
theorem dX4_readPlain_28 : decode cX4_readPlain 28 = .ok (.if_icmp .ne 7, 3) := by decide +kernel
theorem dX4_readPlain_31 : decode cX4_readPlain 31 = .ok (.iload_n 3, 1) := by decide +kernel
theorem dX4_readPlain_32 : decode cX4_readPlain 32 = .ok (.goto 10, 3) := by decide +kernel
theorem dX4_readPlain_35 : decode cX4_readPlain 35 = .ok (.bipush 10, 2) := by decide +kernel
theorem dX4_readPlain_37 : decode cX4_readPlain 37 = .ok (.iload_n 3, 1) := by decide +kernel
theorem dX4_readPlain_38 : decode cX4_readPlain 38 = .ok (.imul, 1) := by decide +kernel
theorem dX4_readPlain_39 : decode cX4_readPlain 39 = .ok (.iload 4, 2) := by decide +kernel
theorem dX4_readPlain_41 : decode cX4_readPlain 41 = .ok (.iadd, 1) := by decide +kernel
theorem dX4_readPlain_42 : decode cX4_readPlain 42 = .ok (.istore 5, 2) := by decide +kernel
theorem dX4_readPlain_44 : decode cX4_readPlain 44 = .ok (.aload_n 1, 1) := by decide +kernel
theorem dX4_readPlain_45 : decode cX4_readPlain 45 = .ok (.iload 5, 2) := by decide +kernel
theorem dX4_readPlain_47 : decode cX4_readPlain 47 = .ok (.invokevirtual 68, 3) := by decide +kernel
theorem dX4_readPlain_50 : decode cX4_readPlain 50 = .ok (.astore 6, 2) := by decide +kernel
theorem dX4_readPlain_52 : decode cX4_readPlain 52 = .ok (.iload_n 3, 1) := by decide +kernel
theorem dX4_readPlain_53 : decode cX4_readPlain 53 = .ok (.iconst (-1), 1) := by decide +kernel
theorem dX4_readPlain_54 : decode cX4_readPlain 54 = .ok (.if_icmp .eq 16, 3) := by decide +kernel
theorem dX4_readPlain_57 : decode cX4_readPlain 57 = .ok (.aload 6, 2) := by decide +kernel
theorem dX4_readPlain_59 : decode cX4_readPlain 59 = .ok (.ifnull 11, 3) := by decide +kernel
theorem dX4_readPlain_62 : decode cX4_readPlain 62 = .ok (.aload 6, 2) := by decide +kernel
theorem dX4_readPlain_64 : decode cX4_readPlain 64 = .ok (.getfield 74, 3) := by decide +kernel
theorem dX4_readPlain_67 : decode cX4_readPlain 67 = .ok (.ifCond .eq 5, 3) := by decide +kernel
theorem dX4_readPlain_70 : decode cX4_readPlain 70 = .ok (.iconst 0, 1) := by decide +kernel
theorem dX4_readPlain_71 : decode cX4_readPlain 71 = .ok (.ireturn, 1) := by decide +kernel
theorem dX4_readPlain_72 : decode cX4_readPlain 72 = .ok (.aload_n 0, 1) := by decide +kernel
theorem dX4_readPlain_73 : decode cX4_readPlain 73 = .ok (.dup, 1) := by decide +kernel
theorem dX4_readPlain_74 : decode cX4_readPlain 74 = .ok (.getfield 21, 3) := by decide +kernel
theorem dX4_readPlain_77 : decode cX4_readPlain 77 = .ok (.iload 4, 2) := by decide +kernel
theorem dX4_readPlain_79 : decode cX4_readPlain 79 = .ok (.iconst (-1), 1) := by decide +kernel
theorem dX4_readPlain_80 : decode cX4_readPlain 80 = .ok (.if_icmp .ne 7, 3) := by decide +kernel
theorem dX4_readPlain_83 : decode cX4_readPlain 83 = .ok (.iconst 1, 1) := by decide +kernel
theorem dX4_readPlain_84 : decode cX4_readPlain 84 = .ok (.goto 4, 3) := by decide +kernel
theorem dX4_readPlain_87 : decode cX4_readPlain 87 = .ok (.iconst 2, 1) := by decide +kernel
theorem dX4_readPlain_88 : decode cX4_readPlain 88 = .ok (.iadd, 1) := by decide +kernel
theorem dX4_readPlain_89 : decode cX4_readPlain 89 = .ok (.putfield 21, 3) := by decide +kernel
theorem dX4_readPlain_92 : decode cX4_readPlain 92 = .ok (.aload_n 0, 1) := by decide +kernel
theorem dX4_readPlain_93 : decode cX4_readPlain 93 = .ok (.getfield 12, 3) := by decide +kernel
theorem dX4_readPlain_96 : decode cX4_readPlain 96 = .ok (.iconst 3, 1) := by decide +kernel
theorem dX4_readPlain_97 : decode cX4_readPlain 97 = .ok (.iconst (-1), 1) := by decide +kernel
theorem dX4_readPlain_98 : decode cX4_readPlain 98 = .ok (.iconst (-1), 1) := by decide +kernel
theorem dX4_readPlain_99 : decode cX4_readPlain 99 = .ok (.iload 5, 2) := by decide +kernel
theorem dX4_readPlain_101 : decode cX4_readPlain 101 = .ok (.invokevirtual 64, 3) := by decide +kernel
theorem dX4_readPlain_104 : decode cX4_readPlain 104 = .ok (.iconst 1, 1) := by decide +kernel
theorem dX4_readPlain_105 : decode cX4_readPlain 105 = .ok (.ireturn, 1) := by decide +kernel
theorem dX4_sortBy_0 : decode cX4_sortBy 0 = .ok (.iload_n 0, 1) := by decide +kernel
theorem dX4_sortBy_1 : decode cX4_sortBy 1 = .ok (.lookupswitch 51 #[(102, 47), (110, 43), (112, 49), (118, 45)], 43) := by decide +kernel
theorem dX4_sortBy_44 : decode cX4_sortBy 44 = .ok (.iconst 0, 1) := by decide +kernel
theorem dX4_sortBy_45 : decode cX4_sortBy 45 = .ok (.ireturn, 1) := by decide +kernel
theorem dX4_sortBy_46 : decode cX4_sortBy 46 = .ok (.iconst 1, 1) := by decide +kernel
theorem dX4_sortBy_47 : decode cX4_sortBy 47 = .ok (.ireturn, 1) := by decide +kernel
theorem dX4_sortBy_48 : decode cX4_sortBy 48 = .ok (.iconst 2, 1) := by decide +kernel
theorem dX4_sortBy_49 : decode cX4_sortBy 49 = .ok (.ireturn, 1) := by decide +kernel
theorem dX4_sortBy_50 : decode cX4_sortBy 50 = .ok (.iconst 3, 1) := by decide +kernel
theorem dX4_sortBy_51 : decode cX4_sortBy 51 = .ok (.ireturn, 1) := by decide +kernel
theorem dX4_sortBy_52 : decode cX4_sortBy 52 = .ok (.iconst (-1), 1) := by decide +kernel
theorem dX4_sortBy_53 : decode cX4_sortBy 53 = .ok (.ireturn, 1) := by decide +kernel
theorem dX4_digit_0 : decode cX4_digit 0 = .ok (.aload_n 0, 1) := by decide +kernel
theorem dX4_digit_1 : decode cX4_digit 1 = .ok (.iload_n 1, 1) := by decide +kernel
theorem dX4_digit_2 : decode cX4_digit 2 = .ok (.invokevirtual 42, 3) := by decide +kernel
theorem dX4_digit_5 : decode cX4_digit 5 = .ok (.bipush 48, 2) := by decide +kernel
theorem dX4_digit_7 : decode cX4_digit 7 = .ok (.isub, 1) := by decide +kernel
theorem dX4_digit_8 : decode cX4_digit 8 = .ok (.istore_n 3, 1) := by decide +kernel
theorem dX4_digit_9 : decode cX4_digit 9 = .ok (.iload_n 3, 1) := by decide +kernel
theorem dX4_digit_10 : decode cX4_digit 10 = .ok (.iload_n 2, 1) := by decide +kernel
theorem dX4_digit_11 : decode cX4_digit 11 = .ok (.invokestatic 79, 3) := by decide +kernel
theorem dX4_digit_14 : decode cX4_digit 14 = .ok (.ifCond .eq 7, 3) := by decide +kernel
theorem dX4_digit_17 : decode cX4_digit 17 = .ok (.iload_n 3, 1) := by decide +kernel
theorem dX4_digit_18 : decode cX4_digit 18 = .ok (.goto 4, 3) := by decide +kernel
theorem dX4_digit_21 : decode cX4_digit 21 = .ok (.iconst (-1), 1) := by decide +kernel
theorem dX4_digit_22 : decode cX4_digit 22 = .ok (.ireturn, 1) := by decide +kernel
theorem dX5_init_0 : decode cX5_init 0 = .ok (.aload_n 0, 1) := by decide +kernel
theorem dX5_init_1 : decode cX5_init 1 = .ok (.invokespecial 3, 3) := by decide +kernel
theorem dX5_init_4 : decode cX5_init 4 = .ok (.aload_n 0, 1) := by decide +kernel
theorem dX5_init_5 : decode cX5_init 5 = .ok (.iload_n 1, 1) := by decide +kernel
theorem dX5_init_6 : decode cX5_init 6 = .ok (.iconst 0, 1) := by decide +kernel
theorem dX5_init_7 : decode cX5_init 7 = .ok (.invokestatic 9, 3) := by decide +kernel
theorem dX5_init_10 : decode cX5_init 10 = .ok (.newarray .byte, 2) := by decide +kernel
theorem dX5_init_12 : decode cX5_init 12 = .ok (.putfield 15, 3) := by decide +kernel
theorem dX5_init_15 : decode cX5_init 15 = .ok (.return_, 1) := by decide +kernel
theorem dX5_isLetter_0 : decode cX5_isLetter 0 = .ok (.iload_n 0, 1) := by decide +kernel
theorem dX5_isLetter_1 : decode cX5_isLetter 1 = .ok (.bipush 97, 2) := by decide +kernel
theorem dX5_isLetter_3 : decode cX5_isLetter 3 = .ok (.if_icmp .lt 13, 3) := by decide +kernel
theorem dX5_isLetter_6 : decode cX5_isLetter 6 = .ok (.iload_n 0, 1) := by decide +kernel
theorem dX5_isLetter_7 : decode cX5_isLetter 7 = .ok (.bipush 122, 2) := by decide +kernel
theorem dX5_isLetter_9 : decode cX5_isLetter 9 = .ok (.if_icmp .gt 7, 3) := by decide +kernel
theorem dX5_isLetter_12 : decode cX5_isLetter 12 = .ok (.iconst 1, 1) := by decide +kernel
theorem dX5_isLetter_13 : decode cX5_isLetter 13 = .ok (.goto 4, 3) := by decide +kernel
theorem dX5_isLetter_16 : decode cX5_isLetter 16 = .ok (.iconst 0, 1) := by decide +kernel
theorem dX5_isLetter_17 : decode cX5_isLetter 17 = .ok (.ireturn, 1) := by decide +kernel
theorem dX5_isVowel_0 : decode cX5_isVowel 0 = .ok (.iload_n 0, 1) := by decide +kernel
theorem dX5_isVowel_1 : decode cX5_isVowel 1 = .ok (.bipush 97, 2) := by decide +kernel
theorem dX5_isVowel_3 : decode cX5_isVowel 3 = .ok (.if_icmp .eq 27, 3) := by decide +kernel
theorem dX5_isVowel_6 : decode cX5_isVowel 6 = .ok (.iload_n 0, 1) := by decide +kernel
theorem dX5_isVowel_7 : decode cX5_isVowel 7 = .ok (.bipush 101, 2) := by decide +kernel
theorem dX5_isVowel_9 : decode cX5_isVowel 9 = .ok (.if_icmp .eq 21, 3) := by decide +kernel
theorem dX5_isVowel_12 : decode cX5_isVowel 12 = .ok (.iload_n 0, 1) := by decide +kernel
theorem dX5_isVowel_13 : decode cX5_isVowel 13 = .ok (.bipush 105, 2) := by decide +kernel
theorem dX5_isVowel_15 : decode cX5_isVowel 15 = .ok (.if_icmp .eq 15, 3) := by decide +kernel
theorem dX5_isVowel_18 : decode cX5_isVowel 18 = .ok (.iload_n 0, 1) := by decide +kernel
theorem dX5_isVowel_19 : decode cX5_isVowel 19 = .ok (.bipush 111, 2) := by decide +kernel
theorem dX5_isVowel_21 : decode cX5_isVowel 21 = .ok (.if_icmp .eq 9, 3) := by decide +kernel
theorem dX5_isVowel_24 : decode cX5_isVowel 24 = .ok (.iload_n 0, 1) := by decide +kernel
theorem dX5_isVowel_25 : decode cX5_isVowel 25 = .ok (.bipush 117, 2) := by decide +kernel
theorem dX5_isVowel_27 : decode cX5_isVowel 27 = .ok (.if_icmp .ne 7, 3) := by decide +kernel
theorem dX5_isVowel_30 : decode cX5_isVowel 30 = .ok (.iconst 1, 1) := by decide +kernel
theorem dX5_isVowel_31 : decode cX5_isVowel 31 = .ok (.goto 4, 3) := by decide +kernel
theorem dX5_isVowel_34 : decode cX5_isVowel 34 = .ok (.iconst 0, 1) := by decide +kernel
theorem dX5_isVowel_35 : decode cX5_isVowel 35 = .ok (.ireturn, 1) := by decide +kernel
theorem dX5_at_0 : decode cX5_at 0 = .ok (.iload_n 1, 1) := by decide +kernel
theorem dX5_at_1 : decode cX5_at 1 = .ok (.ifCond .lt 24, 3) := by decide +kernel
theorem dX5_at_4 : decode cX5_at 4 = .ok (.iload_n 1, 1) := by decide +kernel
theorem dX5_at_5 : decode cX5_at 5 = .ok (.aload_n 0, 1) := by decide +kernel
theorem dX5_at_6 : decode cX5_at 6 = .ok (.getfield 21, 3) := by decide +kernel
theorem dX5_at_9 : decode cX5_at 9 = .ok (.if_icmp .ge 16, 3) := by decide +kernel
theorem dX5_at_12 : decode cX5_at 12 = .ok (.aload_n 0, 1) := by decide +kernel
theorem dX5_at_13 : decode cX5_at 13 = .ok (.getfield 15, 3) := by decide +kernel
theorem dX5_at_16 : decode cX5_at 16 = .ok (.iload_n 1, 1) := by decide +kernel
theorem dX5_at_17 : decode cX5_at 17 = .ok (.baload, 1) := by decide +kernel
theorem dX5_at_18 : decode cX5_at 18 = .ok (.sipush 255, 3) := by decide +kernel
theorem dX5_at_21 : decode cX5_at 21 = .ok (.iand, 1) := by decide +kernel
theorem dX5_at_22 : decode cX5_at 22 = .ok (.goto 4, 3) := by decide +kernel
theorem dX5_at_25 : decode cX5_at 25 = .ok (.iconst (-1), 1) := by decide +kernel
theorem dX5_at_26 : decode cX5_at 26 = .ok (.ireturn, 1) := by decide +kernel
theorem dX5_clear_0 : decode cX5_clear 0 = .ok (.aload_n 0, 1) := by decide +kernel
theorem dX5_clear_1 : decode cX5_clear 1 = .ok (.iconst 0, 1) := by decide +kernel
theorem dX5_clear_2 : decode cX5_clear 2 = .ok (.putfield 21, 3) := by decide +kernel
theorem dX5_clear_5 : decode cX5_clear 5 = .ok (.return_, 1) := by decide +kernel
theorem dX5_add_0 : decode cX5_add 0 = .ok (.aload_n 0, 1) := by decide +kernel
theorem dX5_add_1 : decode cX5_add 1 = .ok (.getfield 21, 3) := by decide +kernel
theorem dX5_add_4 : decode cX5_add 4 = .ok (.aload_n 0, 1) := by decide +kernel
theorem dX5_add_5 : decode cX5_add 5 = .ok (.getfield 15, 3) := by decide +kernel
theorem dX5_add_8 : decode cX5_add 8 = .ok (.arraylength, 1) := by decide +kernel
theorem dX5_add_9 : decode cX5_add 9 = .ok (.if_icmp .ge 24, 3) := by decide +kernel
theorem dX5_add_12 : decode cX5_add 12 = .ok (.aload_n 0, 1) := by decide +kernel
theorem dX5_add_13 : decode cX5_add 13 = .ok (.getfield 15, 3) := by decide +kernel
theorem dX5_add_16 : decode cX5_add 16 = .ok (.aload_n 0, 1) := by decide +kernel
theorem dX5_add_17 : decode cX5_add 17 = .ok (.getfield 21, 3) := by decide +kernel
theorem dX5_add_20 : decode cX5_add 20 = .ok (.iload_n 1, 1) := by decide +kernel
theorem dX5_add_21 : decode cX5_add 21 = .ok (.i2b, 1) := by decide +kernel
theorem dX5_add_22 : decode cX5_add 22 = .ok (.bastore, 1) := by decide +kernel
theorem dX5_add_23 : decode cX5_add 23 = .ok (.aload_n 0, 1) := by decide +kernel
theorem dX5_add_24 : decode cX5_add 24 = .ok (.dup, 1) := by decide +kernel
theorem dX5_add_25 : decode cX5_add 25 = .ok (.getfield 21, 3) := by decide +kernel
theorem dX5_add_28 : decode cX5_add 28 = .ok (.iconst 1, 1) := by decide +kernel
theorem dX5_add_29 : decode cX5_add 29 = .ok (.iadd, 1) := by decide +kernel
theorem dX5_add_30 : decode cX5_add 30 = .ok (.putfield 21, 3) := by decide +kernel
theorem dX5_add_33 : decode cX5_add 33 = .ok (.return_, 1) := by decide +kernel
theorem dX5_become_0 : decode cX5_become 0 = .ok (.aload_n 0, 1) := by decide +kernel
theorem dX5_become_1 : decode cX5_become 1 = .ok (.aload_n 1, 1) := by decide +kernel
theorem dX5_become_2 : decode cX5_become 2 = .ok (.getfield 21, 3) := by decide +kernel
theorem dX5_become_5 : decode cX5_become 5 = .ok (.aload_n 0, 1) := by decide +kernel
theorem dX5_become_6 : decode cX5_become 6 = .ok (.getfield 15, 3) := by decide +kernel
theorem dX5_become_9 : decode cX5_become 9 = .ok (.arraylength, 1) := by decide +kernel
theorem dX5_become_10 : decode cX5_become 10 = .ok (.invokestatic 25, 3) := by decide +kernel
theorem dX5_become_13 : decode cX5_become 13 = .ok (.putfield 21, 3) := by decide +kernel
theorem dX5_become_16 : decode cX5_become 16 = .ok (.aload_n 1, 1) := by decide +kernel
theorem dX5_become_17 : decode cX5_become 17 = .ok (.getfield 15, 3) := by decide +kernel
theorem dX5_become_20 : decode cX5_become 20 = .ok (.iconst 0, 1) := by decide +kernel
theorem dX5_become_21 : decode cX5_become 21 = .ok (.aload_n 0, 1) := by decide +kernel
theorem dX5_become_22 : decode cX5_become 22 = .ok (.getfield 15, 3) := by decide +kernel
theorem dX5_become_25 : decode cX5_become 25 = .ok (.iconst 0, 1) := by decide +kernel
theorem dX5_become_26 : decode cX5_become 26 = .ok (.aload_n 0, 1) := by decide +kernel
theorem dX5_become_27 : decode cX5_become 27 = .ok (.getfield 21, 3) := by decide +kernel
theorem dX5_become_30 : decode cX5_become 30 = .ok (.invokestatic 28, 3) := by decide +kernel
theorem dX5_become_33 : decode cX5_become 33 = .ok (.return_, 1) := by decide +kernel
theorem dX5_join_0 : decode cX5_join 0 = .ok (.aload_n 0, 1) := by decide +kernel
theorem dX5_join_1 : decode cX5_join 1 = .ok (.aload_n 0, 1) := by decide +kernel
theorem dX5_join_2 : decode cX5_join 2 = .ok (.getfield 21, 3) := by decide +kernel
theorem dX5_join_5 : decode cX5_join 5 = .ok (.iconst 1, 1) := by decide +kernel
theorem dX5_join_6 : decode cX5_join 6 = .ok (.isub, 1) := by decide +kernel
theorem dX5_join_7 : decode cX5_join 7 = .ok (.invokevirtual 34, 3) := by decide +kernel
theorem dX5_join_10 : decode cX5_join 10 = .ok (.invokestatic 38, 3) := by decide +kernel
theorem dX5_join_13 : decode cX5_join 13 = .ok (.ifCond .eq 24, 3) := by decide +kernel
theorem dX5_join_16 : decode cX5_join 16 = .ok (.aload_n 1, 1) := by decide +kernel
theorem dX5_join_17 : decode cX5_join 17 = .ok (.iconst 0, 1) := by decide +kernel
theorem dX5_join_18 : decode cX5_join 18 = .ok (.invokevirtual 34, 3) := by decide +kernel
theorem dX5_join_21 : decode cX5_join 21 = .ok (.invokestatic 38, 3) := by decide +kernel
theorem dX5_join_24 : decode cX5_join 24 = .ok (.ifCond .eq 13, 3) := by decide +kernel
theorem dX5_join_27 : decode cX5_join 27 = .ok (.aload_n 0, 1) := by decide +kernel
theorem dX5_join_28 : decode cX5_join 28 = .ok (.dup, 1) := by decide +kernel
theorem dX5_join_29 : decode cX5_join 29 = .ok (.getfield 21, 3) := by decide +kernel
theorem dX5_join_32 : decode cX5_join 32 = .ok (.iconst 1, 1) := by decide +kernel
theorem dX5_join_33 : decode cX5_join 33 = .ok (.isub, 1) := by decide +kernel
theorem dX5_join_34 : decode cX5_join 34 = .ok (.putfield 21, 3) := by decide +kernel
theorem dX5_join_37 : decode cX5_join 37 = .ok (.iconst 0, 1) := by decide +kernel
theorem dX5_join_38 : decode cX5_join 38 = .ok (.istore_n 2, 1) := by decide +kernel
theorem dX5_join_39 : decode cX5_join 39 = .ok (.iload_n 2, 1) := by decide +kernel
theorem dX5_join_40 : decode cX5_join 40 = .ok (.aload_n 1, 1) := by decide +kernel
theorem dX5_join_41 : decode cX5_join 41 = .ok (.getfield 21, 3) := by decide +kernel
theorem dX5_join_44 : decode cX5_join 44 = .ok (.if_icmp .ge 18, 3) := by decide +kernel
theorem dX5_join_47 : decode cX5_join 47 = .ok (.aload_n 0, 1) := by decide +kernel
theorem dX5_join_48 : decode cX5_join 48 = .ok (.aload_n 1, 1) := by decide +kernel
theorem dX5_join_49 : decode cX5_join 49 = .ok (.iload_n 2, 1) := by decide +kernel
theorem dX5_join_50 : decode cX5_join 50 = .ok (.invokevirtual 34, 3) := by decide +kernel
theorem dX5_join_53 : decode cX5_join 53 = .ok (.invokevirtual 42, 3) := by decide +kernel
theorem dX5_join_56 : decode cX5_join 56 = .ok (.iinc 2 1, 3) := by decide +kernel
theorem dX5_join_59 : decode cX5_join 59 = .ok (.goto (-20), 3) := by decide +kernel
theorem dX5_join_62 : decode cX5_join 62 = .ok (.return_, 1) := by decide +kernel
theorem dX5_isAllLetters_0 : decode cX5_isAllLetters 0 = .ok (.iconst 0, 1) := by decide +kernel
theorem dX5_isAllLetters_1 : decode cX5_isAllLetters 1 = .ok (.istore_n 1, 1) := by decide +kernel
theorem dX5_isAllLetters_2 : decode cX5_isAllLetters 2 = .ok (.iload_n 1, 1) := by decide +kernel
theorem dX5_isAllLetters_3 : decode cX5_isAllLetters 3 = .ok (.aload_n 0, 1) := by decide +kernel
theorem dX5_isAllLetters_4 : decode cX5_isAllLetters 4 = .ok (.getfield 21, 3) := by decide +kernel
theorem dX5_isAllLetters_7 : decode cX5_isAllLetters 7 = .ok (.if_icmp .ge 22, 3) := by decide +kernel
theorem dX5_isAllLetters_10 : decode cX5_isAllLetters 10 = .ok (.aload_n 0, 1) := by decide +kernel
theorem dX5_isAllLetters_11 : decode cX5_isAllLetters 11 = .ok (.iload_n 1, 1) := by decide +kernel
theorem dX5_isAllLetters_12 : decode cX5_isAllLetters 12 = .ok (.invokevirtual 34, 3) := by decide +kernel
theorem dX5_isAllLetters_15 : decode cX5_isAllLetters 15 = .ok (.invokestatic 46, 3) := by decide +kernel
theorem dX5_isAllLetters_18 : decode cX5_isAllLetters 18 = .ok (.ifCond .ne 5, 3) := by decide +kernel
theorem dX5_isAllLetters_21 : decode cX5_isAllLetters 21 = .ok (.iconst 0, 1) := by decide +kernel
theorem dX5_isAllLetters_22 : decode cX5_isAllLetters 22 = .ok (.ireturn, 1) := by decide +kernel
theorem dX5_isAllLetters_23 : decode cX5_isAllLetters 23 = .ok (.iinc 1 1, 3) := by decide +kernel
theorem dX5_isAllLetters_26 : decode cX5_isAllLetters 26 = .ok (.goto (-24), 3) := by decide +kernel
theorem dX5_isAllLetters_29 : decode cX5_isAllLetters 29 = .ok (.iconst 1, 1) := by decide +kernel
theorem dX5_isAllLetters_30 : decode cX5_isAllLetters 30 = .ok (.ireturn, 1) := by decide +kernel
theorem dX5_isAllWords_0 : decode cX5_isAllWords 0 = .ok (.iconst 0, 1) := by decide +kernel
theorem dX5_isAllWords_1 : decode cX5_isAllWords 1 = .ok (.istore_n 1, 1) := by decide +kernel
theorem dX5_isAllWords_2 : decode cX5_isAllWords 2 = .ok (.iload_n 1, 1) := by decide +kernel
theorem dX5_isAllWords_3 : decode cX5_isAllWords 3 = .ok (.aload_n 0, 1) := by decide +kernel
theorem dX5_isAllWords_4 : decode cX5_isAllWords 4 = .ok (.getfield 21, 3) := by decide +kernel
theorem dX5_isAllWords_7 : decode cX5_isAllWords 7 = .ok (.if_icmp .ge 55, 3) := by decide +kernel
theorem dX5_isAllWords_10 : decode cX5_isAllWords 10 = .ok (.aload_n 0, 1) := by decide +kernel
theorem dX5_isAllWords_11 : decode cX5_isAllWords 11 = .ok (.iload_n 1, 1) := by decide +kernel
theorem dX5_isAllWords_12 : decode cX5_isAllWords 12 = .ok (.invokevirtual 34, 3) := by decide +kernel
theorem dX5_isAllWords_15 : decode cX5_isAllWords 15 = .ok (.bipush 32, 2) := by decide +kernel
theorem dX5_isAllWords_17 : decode cX5_isAllWords 17 = .ok (.if_icmp .ne 20, 3) := by decide +kernel
theorem dX5_isAllWords_20 : decode cX5_isAllWords 20 = .ok (.aload_n 0, 1) := by decide +kernel
theorem dX5_isAllWords_21 : decode cX5_isAllWords 21 = .ok (.iload_n 1, 1) := by decide +kernel
theorem dX5_isAllWords_22 : decode cX5_isAllWords 22 = .ok (.iconst 1, 1) := by decide +kernel
theorem dX5_isAllWords_23 : decode cX5_isAllWords 23 = .ok (.isub, 1) := by decide +kernel
theorem dX5_isAllWords_24 : decode cX5_isAllWords 24 = .ok (.invokevirtual 34, 3) := by decide +kernel
theorem dX5_isAllWords_27 : decode cX5_isAllWords 27 = .ok (.invokestatic 46, 3) := by decide +kernel
theorem dX5_isAllWords_30 : decode cX5_isAllWords 30 = .ok (.ifCond .eq 7, 3) := by decide +kernel
theorem dX5_isAllWords_33 : decode cX5_isAllWords 33 = .ok (.iconst 1, 1) := by decide +kernel
theorem dX5_isAllWords_34 : decode cX5_isAllWords 34 = .ok (.goto 4, 3) := by decide +kernel
theorem dX5_isAllWords_37 : decode cX5_isAllWords 37 = .ok (.iconst 0, 1) := by decide +kernel
theorem dX5_isAllWords_38 : decode cX5_isAllWords 38 = .ok (.istore_n 2, 1) := by decide +kernel
theorem dX5_isAllWords_39 : decode cX5_isAllWords 39 = .ok (.aload_n 0, 1) := by decide +kernel
theorem dX5_isAllWords_40 : decode cX5_isAllWords 40 = .ok (.iload_n 1, 1) := by decide +kernel
theorem dX5_isAllWords_41 : decode cX5_isAllWords 41 = .ok (.invokevirtual 34, 3) := by decide +kernel
theorem dX5_isAllWords_44 : decode cX5_isAllWords 44 = .ok (.invokestatic 46, 3) := by decide +kernel
theorem dX5_isAllWords_47 : decode cX5_isAllWords 47 = .ok (.ifCond .ne 9, 3) := by decide +kernel
theorem dX5_isAllWords_50 : decode cX5_isAllWords 50 = .ok (.iload_n 2, 1) := by decide +kernel
theorem dX5_isAllWords_51 : decode cX5_isAllWords 51 = .ok (.ifCond .ne 5, 3) := by decide +kernel
theorem dX5_isAllWords_54 : decode cX5_isAllWords 54 = .ok (.iconst 0, 1) := by decide +kernel
theorem dX5_isAllWords_55 : decode cX5_isAllWords 55 = .ok (.ireturn, 1) := by decide +kernel
theorem dX5_isAllWords_56 : decode cX5_isAllWords 56 = .ok (.iinc 1 1, 3) := by decide +kernel
theorem dX5_isAllWords_59 : decode cX5_isAllWords 59 = .ok (.goto (-57), 3) := by decide +kernel
theorem dX5_isAllWords_62 : decode cX5_isAllWords 62 = .ok (.aload_n 0, 1) := by decide +kernel
theorem dX5_isAllWords_63 : decode cX5_isAllWords 63 = .ok (.aload_n 0, 1) := by decide +kernel
theorem dX5_isAllWords_64 : decode cX5_isAllWords 64 = .ok (.getfield 21, 3) := by decide +kernel
theorem dX5_isAllWords_67 : decode cX5_isAllWords 67 = .ok (.iconst 1, 1) := by decide +kernel
theorem dX5_isAllWords_68 : decode cX5_isAllWords 68 = .ok (.isub, 1) := by decide +kernel
theorem dX5_isAllWords_69 : decode cX5_isAllWords 69 = .ok (.invokevirtual 34, 3) := by decide +kernel
theorem dX5_isAllWords_72 : decode cX5_isAllWords 72 = .ok (.invokestatic 46, 3) := by decide +kernel
theorem dX5_isAllWords_75 : decode cX5_isAllWords 75 = .ok (.ireturn, 1) := by decide +kernel
theorem dX5_words_0 : decode cX5_words 0 = .ok (.aload_n 0, 1) := by decide +kernel
theorem dX5_words_1 : decode cX5_words 1 = .ok (.getfield 21, 3) := by decide +kernel
theorem dX5_words_4 : decode cX5_words 4 = .ok (.ifCond .ne 7, 3) := by decide +kernel
theorem dX5_words_7 : decode cX5_words 7 = .ok (.iconst 0, 1) := by decide +kernel
theorem dX5_words_8 : decode cX5_words 8 = .ok (.goto 4, 3) := by decide +kernel
theorem dX5_words_11 : decode cX5_words 11 = .ok (.iconst 1, 1) := by decide +kernel
theorem dX5_words_12 : decode cX5_words 12 = .ok (.istore_n 1, 1) := by decide +kernel
theorem dX5_words_13 : decode cX5_words 13 = .ok (.iconst 0, 1) := by decide +kernel
theorem dX5_words_14 : decode cX5_words 14 = .ok (.istore_n 2, 1) := by decide +kernel
theorem dX5_words_15 : decode cX5_words 15 = .ok (.iload_n 2, 1) := by decide +kernel
theorem dX5_words_16 : decode cX5_words 16 = .ok (.aload_n 0, 1) := by decide +kernel
theorem dX5_words_17 : decode cX5_words 17 = .ok (.getfield 21, 3) := by decide +kernel
theorem dX5_words_20 : decode cX5_words 20 = .ok (.if_icmp .ge 27, 3) := by decide +kernel
theorem dX5_words_23 : decode cX5_words 23 = .ok (.iload_n 1, 1) := by decide +kernel
theorem dX5_words_24 : decode cX5_words 24 = .ok (.aload_n 0, 1) := by decide +kernel
theorem dX5_words_25 : decode cX5_words 25 = .ok (.iload_n 2, 1) := by decide +kernel
theorem dX5_words_26 : decode cX5_words 26 = .ok (.invokevirtual 34, 3) := by decide +kernel
theorem dX5_words_29 : decode cX5_words 29 = .ok (.bipush 32, 2) := by decide +kernel
theorem dX5_words_31 : decode cX5_words 31 = .ok (.if_icmp .ne 7, 3) := by decide +kernel
theorem dX5_words_34 : decode cX5_words 34 = .ok (.iconst 1, 1) := by decide +kernel
theorem dX5_words_35 : decode cX5_words 35 = .ok (.goto 4, 3) := by decide +kernel
theorem dX5_words_38 : decode cX5_words 38 = .ok (.iconst 0, 1) := by decide +kernel
theorem dX5_words_39 : decode cX5_words 39 = .ok (.iadd, 1) := by decide +kernel
theorem dX5_words_40 : decode cX5_words 40 = .ok (.istore_n 1, 1) := by decide +kernel
theorem dX5_words_41 : decode cX5_words 41 = .ok (.iinc 2 1, 3) := by decide +kernel
theorem dX5_words_44 : decode cX5_words 44 = .ok (.goto (-29), 3) := by decide +kernel
theorem dX5_words_47 : decode cX5_words 47 = .ok (.iload_n 1, 1) := by decide +kernel
theorem dX5_words_48 : decode cX5_words 48 = .ok (.ireturn, 1) := by decide +kernel
theorem dX6_init_0 : decode cX6_init 0 = .ok (.aload_n 0, 1) := by decide +kernel
theorem dX6_init_1 : decode cX6_init 1 = .ok (.invokespecial 3, 3) := by decide +kernel
theorem dX6_init_4 : decode cX6_init 4 = .ok (.aload_n 0, 1) := by decide +kernel
theorem dX6_init_5 : decode cX6_init 5 = .ok (.new 9, 3) := by decide +kernel
theorem dX6_init_8 : decode cX6_init 8 = .ok (.dup, 1) := by decide +kernel
theorem dX6_init_9 : decode cX6_init 9 = .ok (.bipush 10, 2) := by decide +kernel
theorem dX6_init_11 : decode cX6_init 11 = .ok (.invokespecial 11, 3) := by decide +kernel
theorem dX6_init_14 : decode cX6_init 14 = .ok (.putfield 14, 3) := by decide +kernel
theorem dX6_init_17 : decode cX6_init 17 = .ok (.aload_n 0, 1) := by decide +kernel
theorem dX6_init_18 : decode cX6_init 18 = .ok (.bipush 6, 2) := by decide +kernel
theorem dX6_init_20 : decode cX6_init 20 = .ok (.newarray .int, 2) := by decide +kernel
theorem dX6_init_22 : decode cX6_init 22 = .ok (.putfield 20, 3) := by decide +kernel
theorem dX6_init_25 : decode cX6_init 25 = .ok (.aload_n 0, 1) := by decide +kernel
theorem dX6_init_26 : decode cX6_init 26 = .ok (.bipush 6, 2) := by decide +kernel
theorem dX6_init_28 : decode cX6_init 28 = .ok (.newarray .int, 2) := by decide +kernel
theorem dX6_init_30 : decode cX6_init 30 = .ok (.putfield 24, 3) := by decide +kernel
theorem dX6_init_33 : decode cX6_init 33 = .ok (.aload_n 0, 1) := by decide +kernel
theorem dX6_init_34 : decode cX6_init 34 = .ok (.bipush 11, 2) := by decide +kernel
theorem dX6_init_36 : decode cX6_init 36 = .ok (.newarray .int, 2) := by decide +kernel
theorem dX6_init_38 : decode cX6_init 38 = .ok (.putfield 27, 3) := by decide +kernel
theorem dX6_init_41 : decode cX6_init 41 = .ok (.return_, 1) := by decide +kernel
theorem dX7_init_0 : decode cX7_init 0 = .ok (.aload_n 0, 1) := by decide +kernel
theorem dX7_init_1 : decode cX7_init 1 = .ok (.invokespecial 3, 3) := by decide +kernel
theorem dX7_init_4 : decode cX7_init 4 = .ok (.aload_n 0, 1) := by decide +kernel
theorem dX7_init_5 : decode cX7_init 5 = .ok (.iconst (-1), 1) := by decide +kernel
theorem dX7_init_6 : decode cX7_init 6 = .ok (.putfield 9, 3) := by decide +kernel
theorem dX7_init_9 : decode cX7_init 9 = .ok (.aload_n 0, 1) := by decide +kernel
theorem dX7_init_10 : decode cX7_init 10 = .ok (.bipush 40, 2) := by decide +kernel
theorem dX7_init_12 : decode cX7_init 12 = .ok (.newarray .int, 2) := by decide +kernel
theorem dX7_init_14 : decode cX7_init 14 = .ok (.putfield 15, 3) := by decide +kernel
theorem dX7_init_17 : decode cX7_init 17 = .ok (.return_, 1) := by decide +kernel
theorem dX7_begin_0 : decode cX7_begin 0 = .ok (.aload_n 0, 1) := by decide +kernel
theorem dX7_begin_1 : decode cX7_begin 1 = .ok (.iload_n 1, 1) := by decide +kernel
theorem dX7_begin_2 : decode cX7_begin 2 = .ok (.putfield 9, 3) := by decide +kernel
theorem dX7_begin_5 : decode cX7_begin 5 = .ok (.aload_n 0, 1) := by decide +kernel
theorem dX7_begin_6 : decode cX7_begin 6 = .ok (.iload_n 2, 1) := by decide +kernel
theorem dX7_begin_7 : decode cX7_begin 7 = .ok (.putfield 19, 3) := by decide +kernel
theorem dX7_begin_10 : decode cX7_begin 10 = .ok (.aload_n 0, 1) := by decide +kernel
theorem dX7_begin_11 : decode cX7_begin 11 = .ok (.getfield 15, 3) := by decide +kernel
theorem dX7_begin_14 : decode cX7_begin 14 = .ok (.iconst 0, 1) := by decide +kernel
theorem dX7_begin_15 : decode cX7_begin 15 = .ok (.invokestatic 22, 3) := by decide +kernel
theorem dX7_begin_18 : decode cX7_begin 18 = .ok (.return_, 1) := by decide +kernel
theorem dX7_isMissing_0 : decode cX7_isMissing 0 = .ok (.aload_n 0, 1) := by decide +kernel
theorem dX7_isMissing_1 : decode cX7_isMissing 1 = .ok (.getfield 9, 3) := by decide +kernel
theorem dX7_isMissing_4 : decode cX7_isMissing 4 = .ok (.iconst (-1), 1) := by decide +kernel
theorem dX7_isMissing_5 : decode cX7_isMissing 5 = .ok (.if_icmp .ne 7, 3) := by decide +kernel
theorem dX7_isMissing_8 : decode cX7_isMissing 8 = .ok (.iconst 1, 1) := by decide +kernel
theorem dX7_isMissing_9 : decode cX7_isMissing 9 = .ok (.goto 4, 3) := by decide +kernel
theorem dX7_isMissing_12 : decode cX7_isMissing 12 = .ok (.iconst 0, 1) := by decide +kernel
theorem dX7_isMissing_13 : decode cX7_isMissing 13 = .ok (.ireturn, 1) := by decide +kernel
theorem dX7_hasRun_0 : decode cX7_hasRun 0 = .ok (.iload_n 1, 1) := by decide +kernel
theorem dX7_hasRun_1 : decode cX7_hasRun 1 = .ok (.ifCond .lt 29, 3) := by decide +kernel
theorem dX7_hasRun_4 : decode cX7_hasRun 4 = .ok (.iload_n 2, 1) := by decide +kernel
theorem dX7_hasRun_5 : decode cX7_hasRun 5 = .ok (.ifCond .lt 25, 3) := by decide +kernel
theorem dX7_hasRun_8 : decode cX7_hasRun 8 = .ok (.iload_n 1, 1) := by decide +kernel
theorem dX7_hasRun_9 : decode cX7_hasRun 9 = .ok (.aload_n 0, 1) := by decide +kernel
theorem dX7_hasRun_10 : decode cX7_hasRun 10 = .ok (.getfield 19, 3) := by decide +kernel
theorem dX7_hasRun_13 : decode cX7_hasRun 13 = .ok (.if_icmp .gt 17, 3) := by decide +kernel
theorem dX7_hasRun_16 : decode cX7_hasRun 16 = .ok (.iload_n 2, 1) := by decide +kernel
theorem dX7_hasRun_17 : decode cX7_hasRun 17 = .ok (.aload_n 0, 1) := by decide +kernel
theorem dX7_hasRun_18 : decode cX7_hasRun 18 = .ok (.getfield 19, 3) := by decide +kernel
theorem dX7_hasRun_21 : decode cX7_hasRun 21 = .ok (.iload_n 1, 1) := by decide +kernel
theorem dX7_hasRun_22 : decode cX7_hasRun 22 = .ok (.isub, 1) := by decide +kernel
theorem dX7_hasRun_23 : decode cX7_hasRun 23 = .ok (.if_icmp .gt 7, 3) := by decide +kernel
theorem dX7_hasRun_26 : decode cX7_hasRun 26 = .ok (.iconst 1, 1) := by decide +kernel
theorem dX7_hasRun_27 : decode cX7_hasRun 27 = .ok (.goto 4, 3) := by decide +kernel
theorem dX7_hasRun_30 : decode cX7_hasRun 30 = .ok (.iconst 0, 1) := by decide +kernel
theorem dX7_hasRun_31 : decode cX7_hasRun 31 = .ok (.ireturn, 1) := by decide +kernel
theorem dX7_at_0 : decode cX7_at 0 = .ok (.aload_n 0, 1) := by decide +kernel
theorem dX7_at_1 : decode cX7_at 1 = .ok (.iload_n 1, 1) := by decide +kernel
theorem dX7_at_2 : decode cX7_at 2 = .ok (.iconst 1, 1) := by decide +kernel
theorem dX7_at_3 : decode cX7_at 3 = .ok (.invokevirtual 28, 3) := by decide +kernel
theorem dX7_at_6 : decode cX7_at 6 = .ok (.ifCond .eq 12, 3) := by decide +kernel
theorem dX7_at_9 : decode cX7_at 9 = .ok (.aload_n 0, 1) := by decide +kernel
theorem dX7_at_10 : decode cX7_at 10 = .ok (.getfield 15, 3) := by decide +kernel
theorem dX7_at_13 : decode cX7_at 13 = .ok (.iload_n 1, 1) := by decide +kernel
theorem dX7_at_14 : decode cX7_at 14 = .ok (.iaload, 1) := by decide +kernel
theorem dX7_at_15 : decode cX7_at 15 = .ok (.goto 4, 3) := by decide +kernel
theorem dX7_at_18 : decode cX7_at 18 = .ok (.iconst 0, 1) := by decide +kernel
theorem dX7_at_19 : decode cX7_at 19 = .ok (.ireturn, 1) := by decide +kernel
theorem dX7_set_0 : decode cX7_set 0 = .ok (.aload_n 0, 1) := by decide +kernel
theorem dX7_set_1 : decode cX7_set 1 = .ok (.iload_n 1, 1) := by decide +kernel
theorem dX7_set_2 : decode cX7_set 2 = .ok (.iconst 1, 1) := by decide +kernel
theorem dX7_set_3 : decode cX7_set 3 = .ok (.invokevirtual 28, 3) := by decide +kernel
theorem dX7_set_6 : decode cX7_set 6 = .ok (.ifCond .eq 22, 3) := by decide +kernel
theorem dX7_set_9 : decode cX7_set 9 = .ok (.aload_n 0, 1) := by decide +kernel
theorem dX7_set_10 : decode cX7_set 10 = .ok (.getfield 15, 3) := by decide +kernel
theorem dX7_set_13 : decode cX7_set 13 = .ok (.iload_n 1, 1) := by decide +kernel
theorem dX7_set_14 : decode cX7_set 14 = .ok (.aload_n 0, 1) := by decide +kernel
theorem dX7_set_15 : decode cX7_set 15 = .ok (.getfield 9, 3) := by decide +kernel
theorem dX7_set_18 : decode cX7_set 18 = .ok (.ifCond .ne 8, 3) := by decide +kernel
theorem dX7_set_21 : decode cX7_set 21 = .ok (.iload_n 2, 1) := by decide +kernel
theorem dX7_set_22 : decode cX7_set 22 = .ok (.i2s, 1) := by decide +kernel
theorem dX7_set_23 : decode cX7_set 23 = .ok (.goto 4, 3) := by decide +kernel
theorem dX7_set_26 : decode cX7_set 26 = .ok (.iload_n 2, 1) := by decide +kernel
theorem dX7_set_27 : decode cX7_set 27 = .ok (.iastore, 1) := by decide +kernel
theorem dX7_set_28 : decode cX7_set 28 = .ok (.return_, 1) := by decide +kernel
theorem dX7_take_0 : decode cX7_take 0 = .ok (.aload_n 2, 1) := by decide +kernel
theorem dX7_take_1 : decode cX7_take 1 = .ok (.iload_n 3, 1) := by decide +kernel
theorem dX7_take_2 : decode cX7_take 2 = .ok (.iload 4, 2) := by decide +kernel
theorem dX7_take_4 : decode cX7_take 4 = .ok (.invokevirtual 28, 3) := by decide +kernel
theorem dX7_take_7 : decode cX7_take 7 = .ok (.ifCond .eq 28, 3) := by decide +kernel
theorem dX7_take_10 : decode cX7_take 10 = .ok (.aload_n 0, 1) := by decide +kernel
theorem dX7_take_11 : decode cX7_take 11 = .ok (.iload_n 1, 1) := by decide +kernel
theorem dX7_take_12 : decode cX7_take 12 = .ok (.iload 4, 2) := by decide +kernel
theorem dX7_take_14 : decode cX7_take 14 = .ok (.invokevirtual 28, 3) := by decide +kernel
theorem dX7_take_17 : decode cX7_take 17 = .ok (.ifCond .eq 18, 3) := by decide +kernel
theorem dX7_take_20 : decode cX7_take 20 = .ok (.aload_n 2, 1) := by decide +kernel
theorem dX7_take_21 : decode cX7_take 21 = .ok (.getfield 15, 3) := by decide +kernel
theorem dX7_take_24 : decode cX7_take 24 = .ok (.iload_n 3, 1) := by decide +kernel
theorem dX7_take_25 : decode cX7_take 25 = .ok (.aload_n 0, 1) := by decide +kernel
theorem dX7_take_26 : decode cX7_take 26 = .ok (.getfield 15, 3) := by decide +kernel
theorem dX7_take_29 : decode cX7_take 29 = .ok (.iload_n 1, 1) := by decide +kernel
theorem dX7_take_30 : decode cX7_take 30 = .ok (.iload 4, 2) := by decide +kernel
theorem dX7_take_32 : decode cX7_take 32 = .ok (.invokestatic 32, 3) := by decide +kernel
theorem dX7_take_35 : decode cX7_take 35 = .ok (.return_, 1) := by decide +kernel
theorem dX8_init_0 : decode cX8_init 0 = .ok (.aload_n 0, 1) := by decide +kernel
theorem dX8_init_1 : decode cX8_init 1 = .ok (.invokespecial 3, 3) := by decide +kernel
theorem dX8_init_4 : decode cX8_init 4 = .ok (.aload_n 0, 1) := by decide +kernel
theorem dX8_init_5 : decode cX8_init 5 = .ok (.new 9, 3) := by decide +kernel
theorem dX8_init_8 : decode cX8_init 8 = .ok (.dup, 1) := by decide +kernel
theorem dX8_init_9 : decode cX8_init 9 = .ok (.bipush 10, 2) := by decide +kernel
theorem dX8_init_11 : decode cX8_init 11 = .ok (.invokespecial 11, 3) := by decide +kernel
theorem dX8_init_14 : decode cX8_init 14 = .ok (.putfield 14, 3) := by decide +kernel
theorem dX8_init_17 : decode cX8_init 17 = .ok (.aload_n 0, 1) := by decide +kernel
theorem dX8_init_18 : decode cX8_init 18 = .ok (.new 9, 3) := by decide +kernel
theorem dX8_init_21 : decode cX8_init 21 = .ok (.dup, 1) := by decide +kernel
theorem dX8_init_22 : decode cX8_init 22 = .ok (.bipush 66, 2) := by decide +kernel
theorem dX8_init_24 : decode cX8_init 24 = .ok (.invokespecial 11, 3) := by decide +kernel
theorem dX8_init_27 : decode cX8_init 27 = .ok (.putfield 20, 3) := by decide +kernel
theorem dX8_init_30 : decode cX8_init 30 = .ok (.aload_n 0, 1) := by decide +kernel
theorem dX8_init_31 : decode cX8_init 31 = .ok (.bipush 6, 2) := by decide +kernel
theorem dX8_init_33 : decode cX8_init 33 = .ok (.newarray .int, 2) := by decide +kernel
theorem dX8_init_35 : decode cX8_init 35 = .ok (.putfield 23, 3) := by decide +kernel
theorem dX8_init_38 : decode cX8_init 38 = .ok (.return_, 1) := by decide +kernel
theorem dX8_say_0 : decode cX8_say 0 = .ok (.aload_n 0, 1) := by decide +kernel
theorem dX8_say_1 : decode cX8_say 1 = .ok (.getfield 20, 3) := by decide +kernel
theorem dX8_say_4 : decode cX8_say 4 = .ok (.invokevirtual 27, 3) := by decide +kernel
theorem dX8_say_7 : decode cX8_say 7 = .ok (.aload_n 0, 1) := by decide +kernel
theorem dX8_say_8 : decode cX8_say 8 = .ok (.iconst 0, 1) := by decide +kernel
theorem dX8_say_9 : decode cX8_say 9 = .ok (.putfield 30, 3) := by decide +kernel
theorem dX8_say_12 : decode cX8_say 12 = .ok (.aload_n 1, 1) := by decide +kernel
theorem dX8_say_13 : decode cX8_say 13 = .ok (.aload_n 2, 1) := by decide +kernel
theorem dX8_say_14 : decode cX8_say 14 = .ok (.getfield 34, 3) := by decide +kernel
theorem dX8_say_17 : decode cX8_say 17 = .ok (.invokevirtual 39, 3) := by decide +kernel
theorem dX8_say_20 : decode cX8_say 20 = .ok (.astore 5, 2) := by decide +kernel
theorem dX8_say_22 : decode cX8_say 22 = .ok (.aload 5, 2) := by decide +kernel
theorem dX8_say_24 : decode cX8_say 24 = .ok (.ifnonnull 5, 3) := by decide +kernel
theorem dX8_say_27 : decode cX8_say 27 = .ok (.iconst 0, 1) := by decide +kernel
theorem dX8_say_28 : decode cX8_say 28 = .ok (.ireturn, 1) := by decide +kernel
theorem dX8_say_29 : decode cX8_say 29 = .ok (.iconst 0, 1) := by decide +kernel
theorem dX8_say_30 : decode cX8_say 30 = .ok (.istore 6, 2) := by decide +kernel
theorem dX8_say_32 : decode cX8_say 32 = .ok (.iload 6, 2) := by decide +kernel
theorem dX8_say_34 : decode cX8_say 34 = .ok (.aload 5, 2) := by decide +kernel
theorem dX8_say_36 : decode cX8_say 36 = .ok (.getfield 45, 3) := by decide +kernel
theorem dX8_say_39 : decode cX8_say 39 = .ok (.if_icmp .ge 68, 3) := by decide +kernel
theorem dX8_say_42 : decode cX8_say 42 = .ok (.aload_n 1, 1) := by decide +kernel
theorem dX8_say_43 : decode cX8_say 43 = .ok (.aload_n 2, 1) := by decide +kernel
theorem dX8_say_44 : decode cX8_say 44 = .ok (.iload 6, 2) := by decide +kernel
theorem dX8_say_46 : decode cX8_say 46 = .ok (.invokevirtual 50, 3) := by decide +kernel
theorem dX8_say_49 : decode cX8_say 49 = .ok (.invokevirtual 54, 3) := by decide +kernel
theorem dX8_say_52 : decode cX8_say 52 = .ok (.astore 7, 2) := by decide +kernel
theorem dX8_say_54 : decode cX8_say 54 = .ok (.aload 7, 2) := by decide +kernel
theorem dX8_say_56 : decode cX8_say 56 = .ok (.ifnonnull 17, 3) := by decide +kernel
theorem dX8_say_59 : decode cX8_say 59 = .ok (.aload_n 0, 1) := by decide +kernel
theorem dX8_say_60 : decode cX8_say 60 = .ok (.getfield 20, 3) := by decide +kernel
theorem dX8_say_63 : decode cX8_say 63 = .ok (.invokevirtual 27, 3) := by decide +kernel
theorem dX8_say_66 : decode cX8_say 66 = .ok (.aload_n 0, 1) := by decide +kernel
theorem dX8_say_67 : decode cX8_say 67 = .ok (.iconst 0, 1) := by decide +kernel
theorem dX8_say_68 : decode cX8_say 68 = .ok (.putfield 30, 3) := by decide +kernel
theorem dX8_say_71 : decode cX8_say 71 = .ok (.iconst 0, 1) := by decide +kernel
theorem dX8_say_72 : decode cX8_say 72 = .ok (.ireturn, 1) := by decide +kernel
theorem dX8_say_73 : decode cX8_say 73 = .ok (.aload_n 1, 1) := by decide +kernel
theorem dX8_say_74 : decode cX8_say 74 = .ok (.aload 7, 2) := by decide +kernel
theorem dX8_say_76 : decode cX8_say 76 = .ok (.aload_n 1, 1) := by decide +kernel
theorem dX8_say_77 : decode cX8_say 77 = .ok (.aload_n 2, 1) := by decide +kernel
theorem dX8_say_78 : decode cX8_say 78 = .ok (.iload 6, 2) := by decide +kernel
theorem dX8_say_80 : decode cX8_say 80 = .ok (.iload 4, 2) := by decide +kernel
theorem dX8_say_82 : decode cX8_say 82 = .ok (.invokestatic 58, 3) := by decide +kernel
theorem dX8_say_85 : decode cX8_say 85 = .ok (.iload_n 3, 1) := by decide +kernel
theorem dX8_say_86 : decode cX8_say 86 = .ok (.bipush 24, 2) := by decide +kernel
theorem dX8_say_88 : decode cX8_say 88 = .ok (.imul, 1) := by decide +kernel
theorem dX8_say_89 : decode cX8_say 89 = .ok (.iadd, 1) := by decide +kernel
theorem dX8_say_90 : decode cX8_say 90 = .ok (.aload_n 0, 1) := by decide +kernel
theorem dX8_say_91 : decode cX8_say 91 = .ok (.getfield 14, 3) := by decide +kernel
theorem dX8_say_94 : decode cX8_say 94 = .ok (.invokevirtual 62, 3) := by decide +kernel
theorem dX8_say_97 : decode cX8_say 97 = .ok (.aload_n 0, 1) := by decide +kernel
theorem dX8_say_98 : decode cX8_say 98 = .ok (.invokevirtual 66, 3) := by decide +kernel
theorem dX8_say_101 : decode cX8_say 101 = .ok (.iinc 6 1, 3) := by decide +kernel
theorem dX8_say_104 : decode cX8_say 104 = .ok (.goto (-72), 3) := by decide +kernel
theorem dX8_say_107 : decode cX8_say 107 = .ok (.iconst 1, 1) := by decide +kernel
theorem dX8_say_108 : decode cX8_say 108 = .ok (.ireturn, 1) := by decide +kernel
theorem dX8_lengthOf_0 : decode cX8_lengthOf 0 = .ok (.iload_n 1, 1) := by decide +kernel
theorem dX8_lengthOf_1 : decode cX8_lengthOf 1 = .ok (.aload_n 0, 1) := by decide +kernel
theorem dX8_lengthOf_2 : decode cX8_lengthOf 2 = .ok (.getfield 30, 3) := by decide +kernel
theorem dX8_lengthOf_5 : decode cX8_lengthOf 5 = .ok (.invokestatic 69, 3) := by decide +kernel
theorem dX8_lengthOf_8 : decode cX8_lengthOf 8 = .ok (.ifCond .eq 18, 3) := by decide +kernel
theorem dX8_lengthOf_11 : decode cX8_lengthOf 11 = .ok (.iload_n 1, 1) := by decide +kernel
theorem dX8_lengthOf_12 : decode cX8_lengthOf 12 = .ok (.bipush 6, 2) := by decide +kernel
theorem dX8_lengthOf_14 : decode cX8_lengthOf 14 = .ok (.if_icmp .ge 12, 3) := by decide +kernel
theorem dX8_lengthOf_17 : decode cX8_lengthOf 17 = .ok (.aload_n 0, 1) := by decide +kernel
theorem dX8_lengthOf_18 : decode cX8_lengthOf 18 = .ok (.getfield 23, 3) := by decide +kernel
theorem dX8_lengthOf_21 : decode cX8_lengthOf 21 = .ok (.iload_n 1, 1) := by decide +kernel
theorem dX8_lengthOf_22 : decode cX8_lengthOf 22 = .ok (.iaload, 1) := by decide +kernel
theorem dX8_lengthOf_23 : decode cX8_lengthOf 23 = .ok (.goto 4, 3) := by decide +kernel
theorem dX8_lengthOf_26 : decode cX8_lengthOf 26 = .ok (.iconst (-1), 1) := by decide +kernel
theorem dX8_lengthOf_27 : decode cX8_lengthOf 27 = .ok (.ireturn, 1) := by decide +kernel
theorem dX8_addSpelled_0 : decode cX8_addSpelled 0 = .ok (.aload_n 0, 1) := by decide +kernel
theorem dX8_addSpelled_1 : decode cX8_addSpelled 1 = .ok (.getfield 30, 3) := by decide +kernel
theorem dX8_addSpelled_4 : decode cX8_addSpelled 4 = .ok (.ifCond .le 12, 3) := by decide +kernel
theorem dX8_addSpelled_7 : decode cX8_addSpelled 7 = .ok (.aload_n 0, 1) := by decide +kernel
theorem dX8_addSpelled_8 : decode cX8_addSpelled 8 = .ok (.getfield 20, 3) := by decide +kernel
theorem dX8_addSpelled_11 : decode cX8_addSpelled 11 = .ok (.bipush 32, 2) := by decide +kernel
theorem dX8_addSpelled_13 : decode cX8_addSpelled 13 = .ok (.invokevirtual 85, 3) := by decide +kernel
theorem dX8_addSpelled_16 : decode cX8_addSpelled 16 = .ok (.iconst 0, 1) := by decide +kernel
theorem dX8_addSpelled_17 : decode cX8_addSpelled 17 = .ok (.istore_n 1, 1) := by decide +kernel
theorem dX8_addSpelled_18 : decode cX8_addSpelled 18 = .ok (.iload_n 1, 1) := by decide +kernel
theorem dX8_addSpelled_19 : decode cX8_addSpelled 19 = .ok (.aload_n 0, 1) := by decide +kernel
theorem dX8_addSpelled_20 : decode cX8_addSpelled 20 = .ok (.getfield 14, 3) := by decide +kernel
theorem dX8_addSpelled_23 : decode cX8_addSpelled 23 = .ok (.getfield 73, 3) := by decide +kernel
theorem dX8_addSpelled_26 : decode cX8_addSpelled 26 = .ok (.if_icmp .ge 24, 3) := by decide +kernel
theorem dX8_addSpelled_29 : decode cX8_addSpelled 29 = .ok (.aload_n 0, 1) := by decide +kernel
theorem dX8_addSpelled_30 : decode cX8_addSpelled 30 = .ok (.getfield 20, 3) := by decide +kernel
theorem dX8_addSpelled_33 : decode cX8_addSpelled 33 = .ok (.aload_n 0, 1) := by decide +kernel
theorem dX8_addSpelled_34 : decode cX8_addSpelled 34 = .ok (.getfield 14, 3) := by decide +kernel
theorem dX8_addSpelled_37 : decode cX8_addSpelled 37 = .ok (.iload_n 1, 1) := by decide +kernel
theorem dX8_addSpelled_38 : decode cX8_addSpelled 38 = .ok (.invokevirtual 74, 3) := by decide +kernel
theorem dX8_addSpelled_41 : decode cX8_addSpelled 41 = .ok (.invokevirtual 85, 3) := by decide +kernel
theorem dX8_addSpelled_44 : decode cX8_addSpelled 44 = .ok (.iinc 1 1, 3) := by decide +kernel
theorem dX8_addSpelled_47 : decode cX8_addSpelled 47 = .ok (.goto (-29), 3) := by decide +kernel
theorem dX8_addSpelled_50 : decode cX8_addSpelled 50 = .ok (.aload_n 0, 1) := by decide +kernel
theorem dX8_addSpelled_51 : decode cX8_addSpelled 51 = .ok (.getfield 30, 3) := by decide +kernel
theorem dX8_addSpelled_54 : decode cX8_addSpelled 54 = .ok (.bipush 6, 2) := by decide +kernel
theorem dX8_addSpelled_56 : decode cX8_addSpelled 56 = .ok (.if_icmp .ge 29, 3) := by decide +kernel
theorem dX8_addSpelled_59 : decode cX8_addSpelled 59 = .ok (.aload_n 0, 1) := by decide +kernel
theorem dX8_addSpelled_60 : decode cX8_addSpelled 60 = .ok (.getfield 23, 3) := by decide +kernel
theorem dX8_addSpelled_63 : decode cX8_addSpelled 63 = .ok (.aload_n 0, 1) := by decide +kernel
theorem dX8_addSpelled_64 : decode cX8_addSpelled 64 = .ok (.getfield 30, 3) := by decide +kernel
theorem dX8_addSpelled_67 : decode cX8_addSpelled 67 = .ok (.aload_n 0, 1) := by decide +kernel
theorem dX8_addSpelled_68 : decode cX8_addSpelled 68 = .ok (.getfield 14, 3) := by decide +kernel
theorem dX8_addSpelled_71 : decode cX8_addSpelled 71 = .ok (.getfield 73, 3) := by decide +kernel
theorem dX8_addSpelled_74 : decode cX8_addSpelled 74 = .ok (.iastore, 1) := by decide +kernel
theorem dX8_addSpelled_75 : decode cX8_addSpelled 75 = .ok (.aload_n 0, 1) := by decide +kernel
theorem dX8_addSpelled_76 : decode cX8_addSpelled 76 = .ok (.dup, 1) := by decide +kernel
theorem dX8_addSpelled_77 : decode cX8_addSpelled 77 = .ok (.getfield 30, 3) := by decide +kernel
theorem dX8_addSpelled_80 : decode cX8_addSpelled 80 = .ok (.iconst 1, 1) := by decide +kernel
theorem dX8_addSpelled_81 : decode cX8_addSpelled 81 = .ok (.iadd, 1) := by decide +kernel
theorem dX8_addSpelled_82 : decode cX8_addSpelled 82 = .ok (.putfield 30, 3) := by decide +kernel
theorem dX8_addSpelled_85 : decode cX8_addSpelled 85 = .ok (.return_, 1) := by decide +kernel
theorem dX8_agreement_0 : decode cX8_agreement 0 = .ok (.aload_n 0, 1) := by decide +kernel
theorem dX8_agreement_1 : decode cX8_agreement 1 = .ok (.aload_n 1, 1) := by decide +kernel
theorem dX8_agreement_2 : decode cX8_agreement 2 = .ok (.getfield 34, 3) := by decide +kernel
theorem dX8_agreement_5 : decode cX8_agreement 5 = .ok (.invokevirtual 39, 3) := by decide +kernel
theorem dX8_agreement_8 : decode cX8_agreement 8 = .ok (.astore 4, 2) := by decide +kernel
theorem dX8_agreement_10 : decode cX8_agreement 10 = .ok (.aload 4, 2) := by decide +kernel
theorem dX8_agreement_12 : decode cX8_agreement 12 = .ok (.ifnull 13, 3) := by decide +kernel
theorem dX8_agreement_15 : decode cX8_agreement 15 = .ok (.aload 4, 2) := by decide +kernel
theorem dX8_agreement_17 : decode cX8_agreement 17 = .ok (.iload_n 2, 1) := by decide +kernel
theorem dX8_agreement_18 : decode cX8_agreement 18 = .ok (.invokevirtual 88, 3) := by decide +kernel
theorem dX8_agreement_21 : decode cX8_agreement 21 = .ok (.iconst (-1), 1) := by decide +kernel
theorem dX8_agreement_22 : decode cX8_agreement 22 = .ok (.if_icmp .ne 5, 3) := by decide +kernel
theorem dX8_agreement_25 : decode cX8_agreement 25 = .ok (.iconst 0, 1) := by decide +kernel
theorem dX8_agreement_26 : decode cX8_agreement 26 = .ok (.ireturn, 1) := by decide +kernel
theorem dX8_agreement_27 : decode cX8_agreement 27 = .ok (.aload 4, 2) := by decide +kernel
theorem dX8_agreement_29 : decode cX8_agreement 29 = .ok (.iload_n 2, 1) := by decide +kernel
theorem dX8_agreement_30 : decode cX8_agreement 30 = .ok (.invokevirtual 88, 3) := by decide +kernel
theorem dX8_agreement_33 : decode cX8_agreement 33 = .ok (.istore 5, 2) := by decide +kernel
theorem dX8_agreement_35 : decode cX8_agreement 35 = .ok (.aload_n 0, 1) := by decide +kernel
theorem dX8_agreement_36 : decode cX8_agreement 36 = .ok (.aload_n 1, 1) := by decide +kernel
theorem dX8_agreement_37 : decode cX8_agreement 37 = .ok (.aload 4, 2) := by decide +kernel
theorem dX8_agreement_39 : decode cX8_agreement 39 = .ok (.iload 5, 2) := by decide +kernel
theorem dX8_agreement_41 : decode cX8_agreement 41 = .ok (.invokevirtual 91, 3) := by decide +kernel
theorem dX8_agreement_44 : decode cX8_agreement 44 = .ok (.invokevirtual 50, 3) := by decide +kernel
theorem dX8_agreement_47 : decode cX8_agreement 47 = .ok (.invokevirtual 54, 3) := by decide +kernel
theorem dX8_agreement_50 : decode cX8_agreement 50 = .ok (.astore 6, 2) := by decide +kernel
theorem dX8_agreement_52 : decode cX8_agreement 52 = .ok (.aload 6, 2) := by decide +kernel
theorem dX8_agreement_54 : decode cX8_agreement 54 = .ok (.ifnonnull 5, 3) := by decide +kernel
theorem dX8_agreement_57 : decode cX8_agreement 57 = .ok (.iconst 0, 1) := by decide +kernel
theorem dX8_agreement_58 : decode cX8_agreement 58 = .ok (.ireturn, 1) := by decide +kernel
theorem dX8_agreement_59 : decode cX8_agreement 59 = .ok (.aload 6, 2) := by decide +kernel
theorem dX8_agreement_61 : decode cX8_agreement 61 = .ok (.getfield 94, 3) := by decide +kernel
theorem dX8_agreement_64 : decode cX8_agreement 64 = .ok (.iconst 3, 1) := by decide +kernel
theorem dX8_agreement_65 : decode cX8_agreement 65 = .ok (.if_icmp .ne 7, 3) := by decide +kernel
theorem dX8_agreement_68 : decode cX8_agreement 68 = .ok (.iconst 0, 1) := by decide +kernel
theorem dX8_agreement_69 : decode cX8_agreement 69 = .ok (.goto 9, 3) := by decide +kernel
theorem dX8_agreement_72 : decode cX8_agreement 72 = .ok (.iload_n 3, 1) := by decide +kernel
theorem dX8_agreement_73 : decode cX8_agreement 73 = .ok (.iload 5, 2) := by decide +kernel
theorem dX8_agreement_75 : decode cX8_agreement 75 = .ok (.ishr, 1) := by decide +kernel
theorem dX8_agreement_76 : decode cX8_agreement 76 = .ok (.iconst 1, 1) := by decide +kernel
theorem dX8_agreement_77 : decode cX8_agreement 77 = .ok (.iand, 1) := by decide +kernel
theorem dX8_agreement_78 : decode cX8_agreement 78 = .ok (.istore 7, 2) := by decide +kernel
theorem dX8_agreement_80 : decode cX8_agreement 80 = .ok (.aload 4, 2) := by decide +kernel
theorem dX8_agreement_82 : decode cX8_agreement 82 = .ok (.iload_n 2, 1) := by decide +kernel
theorem dX8_agreement_83 : decode cX8_agreement 83 = .ok (.invokevirtual 99, 3) := by decide +kernel
theorem dX8_agreement_86 : decode cX8_agreement 86 = .ok (.iconst 0, 1) := by decide +kernel
theorem dX8_agreement_87 : decode cX8_agreement 87 = .ok (.invokestatic 102, 3) := by decide +kernel
theorem dX8_agreement_90 : decode cX8_agreement 90 = .ok (.iload 7, 2) := by decide +kernel
theorem dX8_agreement_92 : decode cX8_agreement 92 = .ok (.iconst 4, 1) := by decide +kernel
theorem dX8_agreement_93 : decode cX8_agreement 93 = .ok (.imul, 1) := by decide +kernel
theorem dX8_agreement_94 : decode cX8_agreement 94 = .ok (.iadd, 1) := by decide +kernel
theorem dX8_agreement_95 : decode cX8_agreement 95 = .ok (.aload 6, 2) := by decide +kernel
theorem dX8_agreement_97 : decode cX8_agreement 97 = .ok (.getfield 108, 3) := by decide +kernel
theorem dX8_agreement_100 : decode cX8_agreement 100 = .ok (.bipush 8, 2) := by decide +kernel
theorem dX8_agreement_102 : decode cX8_agreement 102 = .ok (.imul, 1) := by decide +kernel
theorem dX8_agreement_103 : decode cX8_agreement 103 = .ok (.iadd, 1) := by decide +kernel
theorem dX8_agreement_104 : decode cX8_agreement 104 = .ok (.ireturn, 1) := by decide +kernel
theorem dX9_init_0 : decode cX9_init 0 = .ok (.aload_n 0, 1) := by decide +kernel
theorem dX9_init_1 : decode cX9_init 1 = .ok (.invokespecial 3, 3) := by decide +kernel
theorem dX9_init_4 : decode cX9_init 4 = .ok (.aload_n 0, 1) := by decide +kernel
theorem dX9_init_5 : decode cX9_init 5 = .ok (.iconst (-1), 1) := by decide +kernel
theorem dX9_init_6 : decode cX9_init 6 = .ok (.putfield 9, 3) := by decide +kernel
theorem dX9_init_9 : decode cX9_init 9 = .ok (.aload_n 0, 1) := by decide +kernel
theorem dX9_init_10 : decode cX9_init 10 = .ok (.bipush 20, 2) := by decide +kernel
theorem dX9_init_12 : decode cX9_init 12 = .ok (.newarray .int, 2) := by decide +kernel
theorem dX9_init_14 : decode cX9_init 14 = .ok (.putfield 15, 3) := by decide +kernel
theorem dX9_init_17 : decode cX9_init 17 = .ok (.return_, 1) := by decide +kernel
theorem dX9_begin_0 : decode cX9_begin 0 = .ok (.aload_n 0, 1) := by decide +kernel
theorem dX9_begin_1 : decode cX9_begin 1 = .ok (.iload_n 1, 1) := by decide +kernel
theorem dX9_begin_2 : decode cX9_begin 2 = .ok (.putfield 9, 3) := by decide +kernel
theorem dX9_begin_5 : decode cX9_begin 5 = .ok (.aload_n 0, 1) := by decide +kernel
theorem dX9_begin_6 : decode cX9_begin 6 = .ok (.iload_n 2, 1) := by decide +kernel
theorem dX9_begin_7 : decode cX9_begin 7 = .ok (.putfield 19, 3) := by decide +kernel
theorem dX9_begin_10 : decode cX9_begin 10 = .ok (.aload_n 0, 1) := by decide +kernel
theorem dX9_begin_11 : decode cX9_begin 11 = .ok (.getfield 15, 3) := by decide +kernel
theorem dX9_begin_14 : decode cX9_begin 14 = .ok (.iconst (-1), 1) := by decide +kernel
theorem dX9_begin_15 : decode cX9_begin 15 = .ok (.invokestatic 22, 3) := by decide +kernel
theorem dX9_begin_18 : decode cX9_begin 18 = .ok (.return_, 1) := by decide +kernel
theorem dX9_become_0 : decode cX9_become 0 = .ok (.aload_n 0, 1) := by decide +kernel
theorem dX9_become_1 : decode cX9_become 1 = .ok (.aload_n 1, 1) := by decide +kernel
theorem dX9_become_2 : decode cX9_become 2 = .ok (.getfield 9, 3) := by decide +kernel
theorem dX9_become_5 : decode cX9_become 5 = .ok (.putfield 9, 3) := by decide +kernel
theorem dX9_become_8 : decode cX9_become 8 = .ok (.aload_n 0, 1) := by decide +kernel
theorem dX9_become_9 : decode cX9_become 9 = .ok (.aload_n 1, 1) := by decide +kernel
theorem dX9_become_10 : decode cX9_become 10 = .ok (.getfield 19, 3) := by decide +kernel
theorem dX9_become_13 : decode cX9_become 13 = .ok (.putfield 19, 3) := by decide +kernel
theorem dX9_become_16 : decode cX9_become 16 = .ok (.aload_n 1, 1) := by decide +kernel
theorem dX9_become_17 : decode cX9_become 17 = .ok (.getfield 15, 3) := by decide +kernel
theorem dX9_become_20 : decode cX9_become 20 = .ok (.iconst 0, 1) := by decide +kernel
theorem dX9_become_21 : decode cX9_become 21 = .ok (.aload_n 0, 1) := by decide +kernel
theorem dX9_become_22 : decode cX9_become 22 = .ok (.getfield 15, 3) := by decide +kernel
theorem dX9_become_25 : decode cX9_become 25 = .ok (.iconst 0, 1) := by decide +kernel
theorem dX9_become_26 : decode cX9_become 26 = .ok (.bipush 20, 2) := by decide +kernel
theorem dX9_become_28 : decode cX9_become 28 = .ok (.invokestatic 28, 3) := by decide +kernel
theorem dX9_become_31 : decode cX9_become 31 = .ok (.return_, 1) := by decide +kernel
theorem dX9_isMissing_0 : decode cX9_isMissing 0 = .ok (.aload_n 0, 1) := by decide +kernel
theorem dX9_isMissing_1 : decode cX9_isMissing 1 = .ok (.getfield 9, 3) := by decide +kernel
theorem dX9_isMissing_4 : decode cX9_isMissing 4 = .ok (.iconst (-1), 1) := by decide +kernel
theorem dX9_isMissing_5 : decode cX9_isMissing 5 = .ok (.if_icmp .ne 7, 3) := by decide +kernel
theorem dX9_isMissing_8 : decode cX9_isMissing 8 = .ok (.iconst 1, 1) := by decide +kernel
theorem dX9_isMissing_9 : decode cX9_isMissing 9 = .ok (.goto 4, 3) := by decide +kernel
theorem dX9_isMissing_12 : decode cX9_isMissing 12 = .ok (.iconst 0, 1) := by decide +kernel
theorem dX9_isMissing_13 : decode cX9_isMissing 13 = .ok (.ireturn, 1) := by decide +kernel
theorem dX9_has_0 : decode cX9_has 0 = .ok (.iload_n 1, 1) := by decide +kernel
theorem dX9_has_1 : decode cX9_has 1 = .ok (.ifCond .lt 21, 3) := by decide +kernel
theorem dX9_has_4 : decode cX9_has 4 = .ok (.iload_n 1, 1) := by decide +kernel
theorem dX9_has_5 : decode cX9_has 5 = .ok (.aload_n 0, 1) := by decide +kernel
theorem dX9_has_6 : decode cX9_has 6 = .ok (.getfield 19, 3) := by decide +kernel
theorem dX9_has_9 : decode cX9_has 9 = .ok (.if_icmp .ge 13, 3) := by decide +kernel
theorem dX9_has_12 : decode cX9_has 12 = .ok (.iload_n 1, 1) := by decide +kernel
theorem dX9_has_13 : decode cX9_has 13 = .ok (.bipush 20, 2) := by decide +kernel
theorem dX9_has_15 : decode cX9_has 15 = .ok (.if_icmp .ge 7, 3) := by decide +kernel
theorem dX9_has_18 : decode cX9_has 18 = .ok (.iconst 1, 1) := by decide +kernel
theorem dX9_has_19 : decode cX9_has 19 = .ok (.goto 4, 3) := by decide +kernel
theorem dX9_has_22 : decode cX9_has 22 = .ok (.iconst 0, 1) := by decide +kernel
theorem dX9_has_23 : decode cX9_has 23 = .ok (.ireturn, 1) := by decide +kernel
theorem dX9_wordAt_0 : decode cX9_wordAt 0 = .ok (.aload_n 0, 1) := by decide +kernel
theorem dX9_wordAt_1 : decode cX9_wordAt 1 = .ok (.iload_n 1, 1) := by decide +kernel
theorem dX9_wordAt_2 : decode cX9_wordAt 2 = .ok (.invokevirtual 34, 3) := by decide +kernel
theorem dX9_wordAt_5 : decode cX9_wordAt 5 = .ok (.ifCond .eq 12, 3) := by decide +kernel
theorem dX9_wordAt_8 : decode cX9_wordAt 8 = .ok (.aload_n 0, 1) := by decide +kernel
theorem dX9_wordAt_9 : decode cX9_wordAt 9 = .ok (.getfield 15, 3) := by decide +kernel
theorem dX9_wordAt_12 : decode cX9_wordAt 12 = .ok (.iload_n 1, 1) := by decide +kernel
theorem dX9_wordAt_13 : decode cX9_wordAt 13 = .ok (.iaload, 1) := by decide +kernel
theorem dX9_wordAt_14 : decode cX9_wordAt 14 = .ok (.goto 4, 3) := by decide +kernel
theorem dX9_wordAt_17 : decode cX9_wordAt 17 = .ok (.iconst (-1), 1) := by decide +kernel
theorem dX9_wordAt_18 : decode cX9_wordAt 18 = .ok (.ireturn, 1) := by decide +kernel
theorem dX9_lay_0 : decode cX9_lay 0 = .ok (.aload_n 0, 1) := by decide +kernel
theorem dX9_lay_1 : decode cX9_lay 1 = .ok (.iload_n 1, 1) := by decide +kernel
theorem dX9_lay_2 : decode cX9_lay 2 = .ok (.invokevirtual 34, 3) := by decide +kernel
theorem dX9_lay_5 : decode cX9_lay 5 = .ok (.ifCond .eq 10, 3) := by decide +kernel
theorem dX9_lay_8 : decode cX9_lay 8 = .ok (.aload_n 0, 1) := by decide +kernel
theorem dX9_lay_9 : decode cX9_lay 9 = .ok (.getfield 15, 3) := by decide +kernel
theorem dX9_lay_12 : decode cX9_lay 12 = .ok (.iload_n 1, 1) := by decide +kernel
theorem dX9_lay_13 : decode cX9_lay 13 = .ok (.iload_n 2, 1) := by decide +kernel
theorem dX9_lay_14 : decode cX9_lay 14 = .ok (.iastore, 1) := by decide +kernel
theorem dX9_lay_15 : decode cX9_lay 15 = .ok (.return_, 1) := by decide +kernel
theorem dX10_init_0 : decode cX10_init 0 = .ok (.aload_n 0, 1) := by decide +kernel
theorem dX10_init_1 : decode cX10_init 1 = .ok (.invokespecial 3, 3) := by decide +kernel
theorem dX10_init_4 : decode cX10_init 4 = .ok (.aload_n 0, 1) := by decide +kernel
theorem dX10_init_5 : decode cX10_init 5 = .ok (.new 9, 3) := by decide +kernel
theorem dX10_init_8 : decode cX10_init 8 = .ok (.dup, 1) := by decide +kernel
theorem dX10_init_9 : decode cX10_init 9 = .ok (.bipush 6, 2) := by decide +kernel
theorem dX10_init_11 : decode cX10_init 11 = .ok (.invokespecial 11, 3) := by decide +kernel
theorem dX10_init_14 : decode cX10_init 14 = .ok (.putfield 14, 3) := by decide +kernel
theorem dX10_init_17 : decode cX10_init 17 = .ok (.aload_n 0, 1) := by decide +kernel
theorem dX10_init_18 : decode cX10_init 18 = .ok (.iload_n 1, 1) := by decide +kernel
theorem dX10_init_19 : decode cX10_init 19 = .ok (.putfield 20, 3) := by decide +kernel
theorem dX10_init_22 : decode cX10_init 22 = .ok (.return_, 1) := by decide +kernel
theorem dX10_become_0 : decode cX10_become 0 = .ok (.aload_n 0, 1) := by decide +kernel
theorem dX10_become_1 : decode cX10_become 1 = .ok (.aload_n 1, 1) := by decide +kernel
theorem dX10_become_2 : decode cX10_become 2 = .ok (.getfield 14, 3) := by decide +kernel
theorem dX10_become_5 : decode cX10_become 5 = .ok (.aload_n 1, 1) := by decide +kernel
theorem dX10_become_6 : decode cX10_become 6 = .ok (.getfield 24, 3) := by decide +kernel
theorem dX10_become_9 : decode cX10_become 9 = .ok (.aload_n 1, 1) := by decide +kernel
theorem dX10_become_10 : decode cX10_become 10 = .ok (.getfield 27, 3) := by decide +kernel
theorem dX10_become_13 : decode cX10_become 13 = .ok (.aload_n 1, 1) := by decide +kernel
theorem dX10_become_14 : decode cX10_become 14 = .ok (.getfield 30, 3) := by decide +kernel
theorem dX10_become_17 : decode cX10_become 17 = .ok (.invokevirtual 33, 3) := by decide +kernel
theorem dX10_become_20 : decode cX10_become 20 = .ok (.return_, 1) := by decide +kernel
theorem dX10_begin_0 : decode cX10_begin 0 = .ok (.aload_n 0, 1) := by decide +kernel
theorem dX10_begin_1 : decode cX10_begin 1 = .ok (.getfield 14, 3) := by decide +kernel
theorem dX10_begin_4 : decode cX10_begin 4 = .ok (.aload_n 1, 1) := by decide +kernel
theorem dX10_begin_5 : decode cX10_begin 5 = .ok (.invokevirtual 37, 3) := by decide +kernel
theorem dX10_begin_8 : decode cX10_begin 8 = .ok (.aload_n 0, 1) := by decide +kernel
theorem dX10_begin_9 : decode cX10_begin 9 = .ok (.iload_n 2, 1) := by decide +kernel
theorem dX10_begin_10 : decode cX10_begin 10 = .ok (.putfield 24, 3) := by decide +kernel
theorem dX10_begin_13 : decode cX10_begin 13 = .ok (.aload_n 0, 1) := by decide +kernel
theorem dX10_begin_14 : decode cX10_begin 14 = .ok (.iload_n 3, 1) := by decide +kernel
theorem dX10_begin_15 : decode cX10_begin 15 = .ok (.putfield 27, 3) := by decide +kernel
theorem dX10_begin_18 : decode cX10_begin 18 = .ok (.aload_n 0, 1) := by decide +kernel
theorem dX10_begin_19 : decode cX10_begin 19 = .ok (.iload 4, 2) := by decide +kernel
theorem dX10_begin_21 : decode cX10_begin 21 = .ok (.putfield 30, 3) := by decide +kernel
theorem dX10_begin_24 : decode cX10_begin 24 = .ok (.return_, 1) := by decide +kernel
theorem dX10_isOf_0 : decode cX10_isOf 0 = .ok (.aload_n 0, 1) := by decide +kernel
theorem dX10_isOf_1 : decode cX10_isOf 1 = .ok (.getfield 24, 3) := by decide +kernel
theorem dX10_isOf_4 : decode cX10_isOf 4 = .ok (.istore_n 2, 1) := by decide +kernel
theorem dX10_isOf_5 : decode cX10_isOf 5 = .ok (.iconst 0, 1) := by decide +kernel
theorem dX10_isOf_6 : decode cX10_isOf 6 = .ok (.istore_n 3, 1) := by decide +kernel
theorem dX10_isOf_7 : decode cX10_isOf 7 = .ok (.iload_n 3, 1) := by decide +kernel
theorem dX10_isOf_8 : decode cX10_isOf 8 = .ok (.bipush 6, 2) := by decide +kernel
theorem dX10_isOf_10 : decode cX10_isOf 10 = .ok (.if_icmp .ge 34, 3) := by decide +kernel
theorem dX10_isOf_13 : decode cX10_isOf 13 = .ok (.iload_n 2, 1) := by decide +kernel
theorem dX10_isOf_14 : decode cX10_isOf 14 = .ok (.ifCond .lt 30, 3) := by decide +kernel
theorem dX10_isOf_17 : decode cX10_isOf 17 = .ok (.iload_n 2, 1) := by decide +kernel
theorem dX10_isOf_18 : decode cX10_isOf 18 = .ok (.getstatic 41, 3) := by decide +kernel
theorem dX10_isOf_21 : decode cX10_isOf 21 = .ok (.arraylength, 1) := by decide +kernel
theorem dX10_isOf_22 : decode cX10_isOf 22 = .ok (.if_icmp .ge 22, 3) := by decide +kernel
theorem dX10_isOf_25 : decode cX10_isOf 25 = .ok (.iload_n 2, 1) := by decide +kernel
theorem dX10_isOf_26 : decode cX10_isOf 26 = .ok (.iload_n 1, 1) := by decide +kernel
theorem dX10_isOf_27 : decode cX10_isOf 27 = .ok (.if_icmp .ne 5, 3) := by decide +kernel
theorem dX10_isOf_30 : decode cX10_isOf 30 = .ok (.iconst 1, 1) := by decide +kernel
theorem dX10_isOf_31 : decode cX10_isOf 31 = .ok (.ireturn, 1) := by decide +kernel
theorem dX10_isOf_32 : decode cX10_isOf 32 = .ok (.getstatic 41, 3) := by decide +kernel
theorem dX10_isOf_35 : decode cX10_isOf 35 = .ok (.iload_n 2, 1) := by decide +kernel
theorem dX10_isOf_36 : decode cX10_isOf 36 = .ok (.iaload, 1) := by decide +kernel
theorem dX10_isOf_37 : decode cX10_isOf 37 = .ok (.istore_n 2, 1) := by decide +kernel
theorem dX10_isOf_38 : decode cX10_isOf 38 = .ok (.iinc 3 1, 3) := by decide +kernel
theorem dX10_isOf_41 : decode cX10_isOf 41 = .ok (.goto (-34), 3) := by decide +kernel
theorem dX10_isOf_44 : decode cX10_isOf 44 = .ok (.iconst 0, 1) := by decide +kernel
theorem dX10_isOf_45 : decode cX10_isOf 45 = .ok (.ireturn, 1) := by decide +kernel
theorem dX11_init_0 : decode cX11_init 0 = .ok (.aload_n 0, 1) := by decide +kernel
theorem dX11_init_1 : decode cX11_init 1 = .ok (.invokespecial 3, 3) := by decide +kernel
theorem dX11_init_4 : decode cX11_init 4 = .ok (.aload_n 0, 1) := by decide +kernel
theorem dX11_init_5 : decode cX11_init 5 = .ok (.new 9, 3) := by decide +kernel
theorem dX11_init_8 : decode cX11_init 8 = .ok (.dup, 1) := by decide +kernel
theorem dX11_init_9 : decode cX11_init 9 = .ok (.bipush 50, 2) := by decide +kernel
theorem dX11_init_11 : decode cX11_init 11 = .ok (.invokespecial 11, 3) := by decide +kernel
theorem dX11_init_14 : decode cX11_init 14 = .ok (.putfield 14, 3) := by decide +kernel
theorem dX11_init_17 : decode cX11_init 17 = .ok (.aload_n 0, 1) := by decide +kernel
theorem dX11_init_18 : decode cX11_init 18 = .ok (.new 18, 3) := by decide +kernel
theorem dX11_init_21 : decode cX11_init 21 = .ok (.dup, 1) := by decide +kernel
theorem dX11_init_22 : decode cX11_init 22 = .ok (.invokespecial 20, 3) := by decide +kernel
theorem dX11_init_25 : decode cX11_init 25 = .ok (.putfield 21, 3) := by decide +kernel
theorem dX11_init_28 : decode cX11_init 28 = .ok (.aload_n 0, 1) := by decide +kernel
theorem dX11_init_29 : decode cX11_init 29 = .ok (.new 18, 3) := by decide +kernel
theorem dX11_init_32 : decode cX11_init 32 = .ok (.dup, 1) := by decide +kernel
theorem dX11_init_33 : decode cX11_init 33 = .ok (.invokespecial 20, 3) := by decide +kernel
theorem dX11_init_36 : decode cX11_init 36 = .ok (.putfield 25, 3) := by decide +kernel
theorem dX11_init_39 : decode cX11_init 39 = .ok (.aload_n 0, 1) := by decide +kernel
theorem dX11_init_40 : decode cX11_init 40 = .ok (.new 28, 3) := by decide +kernel
theorem dX11_init_43 : decode cX11_init 43 = .ok (.dup, 1) := by decide +kernel
theorem dX11_init_44 : decode cX11_init 44 = .ok (.invokespecial 30, 3) := by decide +kernel
theorem dX11_init_47 : decode cX11_init 47 = .ok (.putfield 31, 3) := by decide +kernel
theorem dX11_init_50 : decode cX11_init 50 = .ok (.aload_n 0, 1) := by decide +kernel
theorem dX11_init_51 : decode cX11_init 51 = .ok (.new 9, 3) := by decide +kernel
theorem dX11_init_54 : decode cX11_init 54 = .ok (.dup, 1) := by decide +kernel
theorem dX11_init_55 : decode cX11_init 55 = .ok (.bipush 10, 2) := by decide +kernel
theorem dX11_init_57 : decode cX11_init 57 = .ok (.invokespecial 11, 3) := by decide +kernel
theorem dX11_init_60 : decode cX11_init 60 = .ok (.putfield 35, 3) := by decide +kernel
theorem dX11_init_63 : decode cX11_init 63 = .ok (.aload_n 0, 1) := by decide +kernel
theorem dX11_init_64 : decode cX11_init 64 = .ok (.new 38, 3) := by decide +kernel
theorem dX11_init_67 : decode cX11_init 67 = .ok (.dup, 1) := by decide +kernel
theorem dX11_init_68 : decode cX11_init 68 = .ok (.invokespecial 40, 3) := by decide +kernel
theorem dX11_init_71 : decode cX11_init 71 = .ok (.putfield 41, 3) := by decide +kernel
theorem dX11_init_74 : decode cX11_init 74 = .ok (.aload_n 0, 1) := by decide +kernel
theorem dX11_init_75 : decode cX11_init 75 = .ok (.new 45, 3) := by decide +kernel
theorem dX11_init_78 : decode cX11_init 78 = .ok (.dup, 1) := by decide +kernel
theorem dX11_init_79 : decode cX11_init 79 = .ok (.invokespecial 47, 3) := by decide +kernel
theorem dX11_init_82 : decode cX11_init 82 = .ok (.putfield 48, 3) := by decide +kernel
theorem dX11_init_85 : decode cX11_init 85 = .ok (.aload_n 0, 1) := by decide +kernel
theorem dX11_init_86 : decode cX11_init 86 = .ok (.new 52, 3) := by decide +kernel
theorem dX11_init_89 : decode cX11_init 89 = .ok (.dup, 1) := by decide +kernel
theorem dX11_init_90 : decode cX11_init 90 = .ok (.invokespecial 54, 3) := by decide +kernel
theorem dX11_init_93 : decode cX11_init 93 = .ok (.putfield 55, 3) := by decide +kernel
theorem dX11_init_96 : decode cX11_init 96 = .ok (.aload_n 0, 1) := by decide +kernel
theorem dX11_init_97 : decode cX11_init 97 = .ok (.iconst 4, 1) := by decide +kernel
theorem dX11_init_98 : decode cX11_init 98 = .ok (.anewarray 59, 3) := by decide +kernel
theorem dX11_init_101 : decode cX11_init 101 = .ok (.putfield 61, 3) := by decide +kernel
theorem dX11_init_104 : decode cX11_init 104 = .ok (.aload_n 0, 1) := by decide +kernel
theorem dX11_init_105 : decode cX11_init 105 = .ok (.iconst 4, 1) := by decide +kernel
theorem dX11_init_106 : decode cX11_init 106 = .ok (.anewarray 65, 3) := by decide +kernel
theorem dX11_init_109 : decode cX11_init 109 = .ok (.putfield 67, 3) := by decide +kernel
theorem dX11_init_112 : decode cX11_init 112 = .ok (.iconst 0, 1) := by decide +kernel
theorem dX11_init_113 : decode cX11_init 113 = .ok (.istore_n 1, 1) := by decide +kernel
theorem dX11_init_114 : decode cX11_init 114 = .ok (.iload_n 1, 1) := by decide +kernel
theorem dX11_init_115 : decode cX11_init 115 = .ok (.iconst 4, 1) := by decide +kernel
theorem dX11_init_116 : decode cX11_init 116 = .ok (.if_icmp .ge 22, 3) := by decide +kernel
theorem dX11_init_119 : decode cX11_init 119 = .ok (.aload_n 0, 1) := by decide +kernel
theorem dX11_init_120 : decode cX11_init 120 = .ok (.getfield 61, 3) := by decide +kernel
theorem dX11_init_123 : decode cX11_init 123 = .ok (.iload_n 1, 1) := by decide +kernel
theorem dX11_init_124 : decode cX11_init 124 = .ok (.new 59, 3) := by decide +kernel
theorem dX11_init_127 : decode cX11_init 127 = .ok (.dup, 1) := by decide +kernel
theorem dX11_init_128 : decode cX11_init 128 = .ok (.invokespecial 71, 3) := by decide +kernel
theorem dX11_init_131 : decode cX11_init 131 = .ok (.aastore, 1) := by decide +kernel
theorem dX11_init_132 : decode cX11_init 132 = .ok (.iinc 1 1, 3) := by decide +kernel
theorem dX11_init_135 : decode cX11_init 135 = .ok (.goto (-21), 3) := by decide +kernel
theorem dX11_init_138 : decode cX11_init 138 = .ok (.iconst 0, 1) := by decide +kernel
theorem dX11_init_139 : decode cX11_init 139 = .ok (.istore_n 1, 1) := by decide +kernel
theorem dX11_init_140 : decode cX11_init 140 = .ok (.iload_n 1, 1) := by decide +kernel
theorem dX11_init_141 : decode cX11_init 141 = .ok (.iconst 4, 1) := by decide +kernel
theorem dX11_init_142 : decode cX11_init 142 = .ok (.if_icmp .ge 22, 3) := by decide +kernel
theorem dX11_init_145 : decode cX11_init 145 = .ok (.aload_n 0, 1) := by decide +kernel
theorem dX11_init_146 : decode cX11_init 146 = .ok (.getfield 67, 3) := by decide +kernel
theorem dX11_init_149 : decode cX11_init 149 = .ok (.iload_n 1, 1) := by decide +kernel
theorem dX11_init_150 : decode cX11_init 150 = .ok (.new 65, 3) := by decide +kernel
theorem dX11_init_153 : decode cX11_init 153 = .ok (.dup, 1) := by decide +kernel
theorem dX11_init_154 : decode cX11_init 154 = .ok (.invokespecial 72, 3) := by decide +kernel
theorem dX11_init_157 : decode cX11_init 157 = .ok (.aastore, 1) := by decide +kernel
theorem dX11_init_158 : decode cX11_init 158 = .ok (.iinc 1 1, 3) := by decide +kernel
theorem dX11_init_161 : decode cX11_init 161 = .ok (.goto (-21), 3) := by decide +kernel
theorem dX11_init_164 : decode cX11_init 164 = .ok (.return_, 1) := by decide +kernel
theorem dX11_feed_0 : decode cX11_feed 0 = .ok (.iload_n 1, 1) := by decide +kernel
theorem dX11_feed_1 : decode cX11_feed 1 = .ok (.iconst 1, 1) := by decide +kernel
theorem dX11_feed_2 : decode cX11_feed 2 = .ok (.if_icmp .lt 22, 3) := by decide +kernel
theorem dX11_feed_5 : decode cX11_feed 5 = .ok (.iload_n 1, 1) := by decide +kernel
theorem dX11_feed_6 : decode cX11_feed 6 = .ok (.iconst 5, 1) := by decide +kernel
theorem dX11_feed_7 : decode cX11_feed 7 = .ok (.if_icmp .gt 17, 3) := by decide +kernel
theorem dX11_feed_10 : decode cX11_feed 10 = .ok (.iload_n 2, 1) := by decide +kernel
theorem dX11_feed_11 : decode cX11_feed 11 = .ok (.iload_n 3, 1) := by decide +kernel
theorem dX11_feed_12 : decode cX11_feed 12 = .ok (.iload 4, 2) := by decide +kernel
theorem dX11_feed_14 : decode cX11_feed 14 = .ok (.iload 5, 2) := by decide +kernel
theorem dX11_feed_16 : decode cX11_feed 16 = .ok (.iload 6, 2) := by decide +kernel
theorem dX11_feed_18 : decode cX11_feed 18 = .ok (.invokestatic 73, 3) := by decide +kernel
theorem dX11_feed_21 : decode cX11_feed 21 = .ok (.ifCond .ne 6, 3) := by decide +kernel
theorem dX11_feed_24 : decode cX11_feed 24 = .ok (.bipush (-2), 2) := by decide +kernel
theorem dX11_feed_26 : decode cX11_feed 26 = .ok (.ireturn, 1) := by decide +kernel
theorem dX11_feed_27 : decode cX11_feed 27 = .ok (.aload_n 0, 1) := by decide +kernel
theorem dX11_feed_28 : decode cX11_feed 28 = .ok (.getfield 14, 3) := by decide +kernel
theorem dX11_feed_31 : decode cX11_feed 31 = .ok (.getfield 77, 3) := by decide +kernel
theorem dX11_feed_34 : decode cX11_feed 34 = .ok (.iload_n 1, 1) := by decide +kernel
theorem dX11_feed_35 : decode cX11_feed 35 = .ok (.iadd, 1) := by decide +kernel
theorem dX11_feed_36 : decode cX11_feed 36 = .ok (.bipush 50, 2) := by decide +kernel
theorem dX11_feed_38 : decode cX11_feed 38 = .ok (.if_icmp .le 6, 3) := by decide +kernel
theorem dX11_feed_41 : decode cX11_feed 41 = .ok (.bipush (-4), 2) := by decide +kernel
theorem dX11_feed_43 : decode cX11_feed 43 = .ok (.ireturn, 1) := by decide +kernel
theorem dX11_feed_44 : decode cX11_feed 44 = .ok (.iconst 0, 1) := by decide +kernel
theorem dX11_feed_45 : decode cX11_feed 45 = .ok (.istore 7, 2) := by decide +kernel
theorem dX11_feed_47 : decode cX11_feed 47 = .ok (.iload 7, 2) := by decide +kernel
theorem dX11_feed_49 : decode cX11_feed 49 = .ok (.iload_n 1, 1) := by decide +kernel
theorem dX11_feed_50 : decode cX11_feed 50 = .ok (.if_icmp .ge 59, 3) := by decide +kernel
theorem dX11_feed_53 : decode cX11_feed 53 = .ok (.aload_n 0, 1) := by decide +kernel
theorem dX11_feed_54 : decode cX11_feed 54 = .ok (.getfield 14, 3) := by decide +kernel
theorem dX11_feed_57 : decode cX11_feed 57 = .ok (.iload 7, 2) := by decide +kernel
theorem dX11_feed_59 : decode cX11_feed 59 = .ok (.ifCond .ne 7, 3) := by decide +kernel
theorem dX11_feed_62 : decode cX11_feed 62 = .ok (.iload_n 2, 1) := by decide +kernel
theorem dX11_feed_63 : decode cX11_feed 63 = .ok (.goto 37, 3) := by decide +kernel
theorem dX11_feed_66 : decode cX11_feed 66 = .ok (.iload 7, 2) := by decide +kernel
theorem dX11_feed_68 : decode cX11_feed 68 = .ok (.iconst 1, 1) := by decide +kernel
theorem dX11_feed_69 : decode cX11_feed 69 = .ok (.if_icmp .ne 7, 3) := by decide +kernel
theorem dX11_feed_72 : decode cX11_feed 72 = .ok (.iload_n 3, 1) := by decide +kernel
theorem dX11_feed_73 : decode cX11_feed 73 = .ok (.goto 27, 3) := by decide +kernel
theorem dX11_feed_76 : decode cX11_feed 76 = .ok (.iload 7, 2) := by decide +kernel
theorem dX11_feed_78 : decode cX11_feed 78 = .ok (.iconst 2, 1) := by decide +kernel
theorem dX11_feed_79 : decode cX11_feed 79 = .ok (.if_icmp .ne 8, 3) := by decide +kernel
theorem dX11_feed_82 : decode cX11_feed 82 = .ok (.iload 4, 2) := by decide +kernel
theorem dX11_feed_84 : decode cX11_feed 84 = .ok (.goto 16, 3) := by decide +kernel
theorem dX11_feed_87 : decode cX11_feed 87 = .ok (.iload 7, 2) := by decide +kernel
theorem dX11_feed_89 : decode cX11_feed 89 = .ok (.iconst 3, 1) := by decide +kernel
theorem dX11_feed_90 : decode cX11_feed 90 = .ok (.if_icmp .ne 8, 3) := by decide +kernel
theorem dX11_feed_93 : decode cX11_feed 93 = .ok (.iload 5, 2) := by decide +kernel
theorem dX11_feed_95 : decode cX11_feed 95 = .ok (.goto 5, 3) := by decide +kernel
theorem dX11_feed_98 : decode cX11_feed 98 = .ok (.iload 6, 2) := by decide +kernel
theorem dX11_feed_100 : decode cX11_feed 100 = .ok (.invokevirtual 81, 3) := by decide +kernel
theorem dX11_feed_103 : decode cX11_feed 103 = .ok (.iinc 7 1, 3) := by decide +kernel
theorem dX11_feed_106 : decode cX11_feed 106 = .ok (.goto (-59), 3) := by decide +kernel
theorem dX11_feed_109 : decode cX11_feed 109 = .ok (.aload_n 0, 1) := by decide +kernel
theorem dX11_feed_110 : decode cX11_feed 110 = .ok (.getfield 14, 3) := by decide +kernel
theorem dX11_feed_113 : decode cX11_feed 113 = .ok (.getfield 77, 3) := by decide +kernel
theorem dX11_feed_116 : decode cX11_feed 116 = .ok (.ireturn, 1) := by decide +kernel
theorem dX11_word_0 : decode cX11_word 0 = .ok (.iload_n 1, 1) := by decide +kernel
theorem dX11_word_1 : decode cX11_word 1 = .ok (.bipush 6, 2) := by decide +kernel
theorem dX11_word_3 : decode cX11_word 3 = .ok (.invokestatic 84, 3) := by decide +kernel
theorem dX11_word_6 : decode cX11_word 6 = .ok (.ifCond .eq 19, 3) := by decide +kernel
theorem dX11_word_9 : decode cX11_word 9 = .ok (.iload_n 2, 1) := by decide +kernel
theorem dX11_word_10 : decode cX11_word 10 = .ok (.iconst 4, 1) := by decide +kernel
theorem dX11_word_11 : decode cX11_word 11 = .ok (.invokestatic 84, 3) := by decide +kernel
theorem dX11_word_14 : decode cX11_word 14 = .ok (.ifCond .eq 11, 3) := by decide +kernel
theorem dX11_word_17 : decode cX11_word 17 = .ok (.iload_n 3, 1) := by decide +kernel
theorem dX11_word_18 : decode cX11_word 18 = .ok (.iconst 3, 1) := by decide +kernel
theorem dX11_word_19 : decode cX11_word 19 = .ok (.invokestatic 84, 3) := by decide +kernel
theorem dX11_word_22 : decode cX11_word 22 = .ok (.ifCond .ne 6, 3) := by decide +kernel
theorem dX11_word_25 : decode cX11_word 25 = .ok (.bipush (-2), 2) := by decide +kernel
theorem dX11_word_27 : decode cX11_word 27 = .ok (.ireturn, 1) := by decide +kernel
theorem dX11_word_28 : decode cX11_word 28 = .ok (.aload_n 0, 1) := by decide +kernel
theorem dX11_word_29 : decode cX11_word 29 = .ok (.getfield 14, 3) := by decide +kernel
