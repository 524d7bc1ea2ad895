theorem dX0_init_0 : decode cX0_init 0 = .ok (.aload_n 0, 1) := by decide +kernel
theorem dX0_init_1 : decode cX0_init 1 = .ok (.invokespecial 3, 3) := by decide +kernel
theorem dX0_init_4 : decode cX0_init 4 = .ok (.aload_n 0, 1) := by decide +kernel
theorem dX0_init_5 : decode cX0_init 5 = .ok (.bipush 20, 2) := by decide +kernel
theorem dX0_init_7 : decode cX0_init 7 = .ok (.anewarray 9, 3) := by decide +kernel
theorem dX0_init_10 : decode cX0_init 10 = .ok (.putfield 11, 3) := by decide +kernel
theorem dX0_init_13 : decode cX0_init 13 = .ok (.aload_n 0, 1) := by decide +kernel
theorem dX0_init_14 : decode cX0_init 14 = .ok (.bipush 32, 2) := by decide +kernel
theorem dX0_init_16 : decode cX0_init 16 = .ok (.anewarray 17, 3) := by decide +kernel
theorem dX0_init_19 : decode cX0_init 19 = .ok (.putfield 19, 3) := by decide +kernel
theorem dX0_init_22 : decode cX0_init 22 = .ok (.aload_n 0, 1) := by decide +kernel
theorem dX0_init_23 : decode cX0_init 23 = .ok (.iconst 3, 1) := by decide +kernel
theorem dX0_init_24 : decode cX0_init 24 = .ok (.anewarray 17, 3) := by decide +kernel
theorem dX0_init_27 : decode cX0_init 27 = .ok (.putfield 23, 3) := by decide +kernel
theorem dX0_init_30 : decode cX0_init 30 = .ok (.aload_n 0, 1) := by decide +kernel
theorem dX0_init_31 : decode cX0_init 31 = .ok (.iconst 5, 1) := by decide +kernel
theorem dX0_init_32 : decode cX0_init 32 = .ok (.anewarray 26, 3) := by decide +kernel
theorem dX0_init_35 : decode cX0_init 35 = .ok (.putfield 28, 3) := by decide +kernel
theorem dX0_init_38 : decode cX0_init 38 = .ok (.aload_n 0, 1) := by decide +kernel
theorem dX0_init_39 : decode cX0_init 39 = .ok (.new 17, 3) := by decide +kernel
theorem dX0_init_42 : decode cX0_init 42 = .ok (.dup, 1) := by decide +kernel
theorem dX0_init_43 : decode cX0_init 43 = .ok (.bipush 50, 2) := by decide +kernel
theorem dX0_init_45 : decode cX0_init 45 = .ok (.invokespecial 32, 3) := by decide +kernel
theorem dX0_init_48 : decode cX0_init 48 = .ok (.putfield 35, 3) := by decide +kernel
theorem dX0_init_51 : decode cX0_init 51 = .ok (.aload_n 0, 1) := by decide +kernel
theorem dX0_init_52 : decode cX0_init 52 = .ok (.new 39, 3) := by decide +kernel
theorem dX0_init_55 : decode cX0_init 55 = .ok (.dup, 1) := by decide +kernel
theorem dX0_init_56 : decode cX0_init 56 = .ok (.invokespecial 41, 3) := by decide +kernel
theorem dX0_init_59 : decode cX0_init 59 = .ok (.putfield 42, 3) := by decide +kernel
theorem dX0_init_62 : decode cX0_init 62 = .ok (.iconst 0, 1) := by decide +kernel
theorem dX0_init_63 : decode cX0_init 63 = .ok (.istore_n 1, 1) := by decide +kernel
theorem dX0_init_64 : decode cX0_init 64 = .ok (.iload_n 1, 1) := by decide +kernel
theorem dX0_init_65 : decode cX0_init 65 = .ok (.aload_n 0, 1) := by decide +kernel
theorem dX0_init_66 : decode cX0_init 66 = .ok (.getfield 11, 3) := by decide +kernel
theorem dX0_init_69 : decode cX0_init 69 = .ok (.arraylength, 1) := by decide +kernel
theorem dX0_init_70 : decode cX0_init 70 = .ok (.if_icmp .ge 23, 3) := by decide +kernel
theorem dX0_init_73 : decode cX0_init 73 = .ok (.aload_n 0, 1) := by decide +kernel
theorem dX0_init_74 : decode cX0_init 74 = .ok (.getfield 11, 3) := by decide +kernel
theorem dX0_init_77 : decode cX0_init 77 = .ok (.iload_n 1, 1) := by decide +kernel
theorem dX0_init_78 : decode cX0_init 78 = .ok (.new 9, 3) := by decide +kernel
theorem dX0_init_81 : decode cX0_init 81 = .ok (.dup, 1) := by decide +kernel
theorem dX0_init_82 : decode cX0_init 82 = .ok (.iload_n 1, 1) := by decide +kernel
theorem dX0_init_83 : decode cX0_init 83 = .ok (.invokespecial 46, 3) := by decide +kernel
theorem dX0_init_86 : decode cX0_init 86 = .ok (.aastore, 1) := by decide +kernel
theorem dX0_init_87 : decode cX0_init 87 = .ok (.iinc 1 1, 3) := by decide +kernel
theorem dX0_init_90 : decode cX0_init 90 = .ok (.goto (-26), 3) := by decide +kernel
theorem dX0_init_93 : decode cX0_init 93 = .ok (.iconst 0, 1) := by decide +kernel
theorem dX0_init_94 : decode cX0_init 94 = .ok (.istore_n 1, 1) := by decide +kernel
theorem dX0_init_95 : decode cX0_init 95 = .ok (.iload_n 1, 1) := by decide +kernel
theorem dX0_init_96 : decode cX0_init 96 = .ok (.aload_n 0, 1) := by decide +kernel
theorem dX0_init_97 : decode cX0_init 97 = .ok (.getfield 19, 3) := by decide +kernel
theorem dX0_init_100 : decode cX0_init 100 = .ok (.arraylength, 1) := by decide +kernel
theorem dX0_init_101 : decode cX0_init 101 = .ok (.if_icmp .ge 23, 3) := by decide +kernel
theorem dX0_init_104 : decode cX0_init 104 = .ok (.aload_n 0, 1) := by decide +kernel
theorem dX0_init_105 : decode cX0_init 105 = .ok (.getfield 19, 3) := by decide +kernel
theorem dX0_init_108 : decode cX0_init 108 = .ok (.iload_n 1, 1) := by decide +kernel
theorem dX0_init_109 : decode cX0_init 109 = .ok (.new 17, 3) := by decide +kernel
theorem dX0_init_112 : decode cX0_init 112 = .ok (.dup, 1) := by decide +kernel
theorem dX0_init_113 : decode cX0_init 113 = .ok (.iconst 3, 1) := by decide +kernel
theorem dX0_init_114 : decode cX0_init 114 = .ok (.invokespecial 32, 3) := by decide +kernel
theorem dX0_init_117 : decode cX0_init 117 = .ok (.aastore, 1) := by decide +kernel
theorem dX0_init_118 : decode cX0_init 118 = .ok (.iinc 1 1, 3) := by decide +kernel
theorem dX0_init_121 : decode cX0_init 121 = .ok (.goto (-26), 3) := by decide +kernel
theorem dX0_init_124 : decode cX0_init 124 = .ok (.iconst 0, 1) := by decide +kernel
theorem dX0_init_125 : decode cX0_init 125 = .ok (.istore_n 1, 1) := by decide +kernel
theorem dX0_init_126 : decode cX0_init 126 = .ok (.iload_n 1, 1) := by decide +kernel
theorem dX0_init_127 : decode cX0_init 127 = .ok (.aload_n 0, 1) := by decide +kernel
theorem dX0_init_128 : decode cX0_init 128 = .ok (.getfield 23, 3) := by decide +kernel
theorem dX0_init_131 : decode cX0_init 131 = .ok (.arraylength, 1) := by decide +kernel
theorem dX0_init_132 : decode cX0_init 132 = .ok (.if_icmp .ge 53, 3) := by decide +kernel
theorem dX0_init_135 : decode cX0_init 135 = .ok (.aload_n 0, 1) := by decide +kernel
theorem dX0_init_136 : decode cX0_init 136 = .ok (.getfield 23, 3) := by decide +kernel
theorem dX0_init_139 : decode cX0_init 139 = .ok (.iload_n 1, 1) := by decide +kernel
theorem dX0_init_140 : decode cX0_init 140 = .ok (.new 17, 3) := by decide +kernel
theorem dX0_init_143 : decode cX0_init 143 = .ok (.dup, 1) := by decide +kernel
theorem dX0_init_144 : decode cX0_init 144 = .ok (.iconst 1, 1) := by decide +kernel
theorem dX0_init_145 : decode cX0_init 145 = .ok (.invokespecial 32, 3) := by decide +kernel
theorem dX0_init_148 : decode cX0_init 148 = .ok (.aastore, 1) := by decide +kernel
theorem dX0_init_149 : decode cX0_init 149 = .ok (.aload_n 0, 1) := by decide +kernel
theorem dX0_init_150 : decode cX0_init 150 = .ok (.getfield 23, 3) := by decide +kernel
theorem dX0_init_153 : decode cX0_init 153 = .ok (.iload_n 1, 1) := by decide +kernel
theorem dX0_init_154 : decode cX0_init 154 = .ok (.aaload, 1) := by decide +kernel
theorem dX0_init_155 : decode cX0_init 155 = .ok (.iload_n 1, 1) := by decide +kernel
theorem dX0_init_156 : decode cX0_init 156 = .ok (.ifCond .ne 8, 3) := by decide +kernel
theorem dX0_init_159 : decode cX0_init 159 = .ok (.bipush 111, 2) := by decide +kernel
theorem dX0_init_161 : decode cX0_init 161 = .ok (.goto 15, 3) := by decide +kernel
theorem dX0_init_164 : decode cX0_init 164 = .ok (.iload_n 1, 1) := by decide +kernel
theorem dX0_init_165 : decode cX0_init 165 = .ok (.iconst 1, 1) := by decide +kernel
theorem dX0_init_166 : decode cX0_init 166 = .ok (.if_icmp .ne 8, 3) := by decide +kernel
theorem dX0_init_169 : decode cX0_init 169 = .ok (.bipush 97, 2) := by decide +kernel
theorem dX0_init_171 : decode cX0_init 171 = .ok (.goto 5, 3) := by decide +kernel
theorem dX0_init_174 : decode cX0_init 174 = .ok (.bipush 101, 2) := by decide +kernel
theorem dX0_init_176 : decode cX0_init 176 = .ok (.invokevirtual 47, 3) := by decide +kernel
theorem dX0_init_179 : decode cX0_init 179 = .ok (.iinc 1 1, 3) := by decide +kernel
theorem dX0_init_182 : decode cX0_init 182 = .ok (.goto (-56), 3) := by decide +kernel
theorem dX0_init_185 : decode cX0_init 185 = .ok (.iconst 0, 1) := by decide +kernel
theorem dX0_init_186 : decode cX0_init 186 = .ok (.istore_n 1, 1) := by decide +kernel
theorem dX0_init_187 : decode cX0_init 187 = .ok (.iload_n 1, 1) := by decide +kernel
theorem dX0_init_188 : decode cX0_init 188 = .ok (.aload_n 0, 1) := by decide +kernel
theorem dX0_init_189 : decode cX0_init 189 = .ok (.getfield 28, 3) := by decide +kernel
theorem dX0_init_192 : decode cX0_init 192 = .ok (.arraylength, 1) := by decide +kernel
theorem dX0_init_193 : decode cX0_init 193 = .ok (.if_icmp .ge 22, 3) := by decide +kernel
theorem dX0_init_196 : decode cX0_init 196 = .ok (.aload_n 0, 1) := by decide +kernel
theorem dX0_init_197 : decode cX0_init 197 = .ok (.getfield 28, 3) := by decide +kernel
theorem dX0_init_200 : decode cX0_init 200 = .ok (.iload_n 1, 1) := by decide +kernel
theorem dX0_init_201 : decode cX0_init 201 = .ok (.new 26, 3) := by decide +kernel
theorem dX0_init_204 : decode cX0_init 204 = .ok (.dup, 1) := by decide +kernel
theorem dX0_init_205 : decode cX0_init 205 = .ok (.invokespecial 50, 3) := by decide +kernel
theorem dX0_init_208 : decode cX0_init 208 = .ok (.aastore, 1) := by decide +kernel
theorem dX0_init_209 : decode cX0_init 209 = .ok (.iinc 1 1, 3) := by decide +kernel
theorem dX0_init_212 : decode cX0_init 212 = .ok (.goto (-25), 3) := by decide +kernel
theorem dX0_init_215 : decode cX0_init 215 = .ok (.return_, 1) := by decide +kernel
theorem dX0_become_0 : decode cX0_become 0 = .ok (.iconst 0, 1) := by decide +kernel
theorem dX0_become_1 : decode cX0_become 1 = .ok (.istore_n 2, 1) := by decide +kernel
theorem dX0_become_2 : decode cX0_become 2 = .ok (.iload_n 2, 1) := by decide +kernel
theorem dX0_become_3 : decode cX0_become 3 = .ok (.aload_n 0, 1) := by decide +kernel
theorem dX0_become_4 : decode cX0_become 4 = .ok (.getfield 11, 3) := by decide +kernel
theorem dX0_become_7 : decode cX0_become 7 = .ok (.arraylength, 1) := by decide +kernel
theorem dX0_become_8 : decode cX0_become 8 = .ok (.if_icmp .ge 24, 3) := by decide +kernel
theorem dX0_become_11 : decode cX0_become 11 = .ok (.aload_n 0, 1) := by decide +kernel
theorem dX0_become_12 : decode cX0_become 12 = .ok (.getfield 11, 3) := by decide +kernel
theorem dX0_become_15 : decode cX0_become 15 = .ok (.iload_n 2, 1) := by decide +kernel
theorem dX0_become_16 : decode cX0_become 16 = .ok (.aaload, 1) := by decide +kernel
theorem dX0_become_17 : decode cX0_become 17 = .ok (.aload_n 1, 1) := by decide +kernel
theorem dX0_become_18 : decode cX0_become 18 = .ok (.getfield 11, 3) := by decide +kernel
theorem dX0_become_21 : decode cX0_become 21 = .ok (.iload_n 2, 1) := by decide +kernel
theorem dX0_become_22 : decode cX0_become 22 = .ok (.aaload, 1) := by decide +kernel
theorem dX0_become_23 : decode cX0_become 23 = .ok (.invokevirtual 51, 3) := by decide +kernel
theorem dX0_become_26 : decode cX0_become 26 = .ok (.iinc 2 1, 3) := by decide +kernel
theorem dX0_become_29 : decode cX0_become 29 = .ok (.goto (-27), 3) := by decide +kernel
theorem dX0_become_32 : decode cX0_become 32 = .ok (.aload_n 0, 1) := by decide +kernel
theorem dX0_become_33 : decode cX0_become 33 = .ok (.aload_n 1, 1) := by decide +kernel
theorem dX0_become_34 : decode cX0_become 34 = .ok (.getfield 55, 3) := by decide +kernel
theorem dX0_become_37 : decode cX0_become 37 = .ok (.putfield 55, 3) := by decide +kernel
theorem dX0_become_40 : decode cX0_become 40 = .ok (.iconst 0, 1) := by decide +kernel
theorem dX0_become_41 : decode cX0_become 41 = .ok (.istore_n 2, 1) := by decide +kernel
theorem dX0_become_42 : decode cX0_become 42 = .ok (.iload_n 2, 1) := by decide +kernel
theorem dX0_become_43 : decode cX0_become 43 = .ok (.aload_n 0, 1) := by decide +kernel
theorem dX0_become_44 : decode cX0_become 44 = .ok (.getfield 19, 3) := by decide +kernel
theorem dX0_become_47 : decode cX0_become 47 = .ok (.arraylength, 1) := by decide +kernel
theorem dX0_become_48 : decode cX0_become 48 = .ok (.if_icmp .ge 24, 3) := by decide +kernel
theorem dX0_become_51 : decode cX0_become 51 = .ok (.aload_n 0, 1) := by decide +kernel
theorem dX0_become_52 : decode cX0_become 52 = .ok (.getfield 19, 3) := by decide +kernel
theorem dX0_become_55 : decode cX0_become 55 = .ok (.iload_n 2, 1) := by decide +kernel
theorem dX0_become_56 : decode cX0_become 56 = .ok (.aaload, 1) := by decide +kernel
theorem dX0_become_57 : decode cX0_become 57 = .ok (.aload_n 1, 1) := by decide +kernel
theorem dX0_become_58 : decode cX0_become 58 = .ok (.getfield 19, 3) := by decide +kernel
theorem dX0_become_61 : decode cX0_become 61 = .ok (.iload_n 2, 1) := by decide +kernel
theorem dX0_become_62 : decode cX0_become 62 = .ok (.aaload, 1) := by decide +kernel
theorem dX0_become_63 : decode cX0_become 63 = .ok (.invokevirtual 59, 3) := by decide +kernel
theorem dX0_become_66 : decode cX0_become 66 = .ok (.iinc 2 1, 3) := by decide +kernel
theorem dX0_become_69 : decode cX0_become 69 = .ok (.goto (-27), 3) := by decide +kernel
theorem dX0_become_72 : decode cX0_become 72 = .ok (.iconst 0, 1) := by decide +kernel
theorem dX0_become_73 : decode cX0_become 73 = .ok (.istore_n 2, 1) := by decide +kernel
theorem dX0_become_74 : decode cX0_become 74 = .ok (.iload_n 2, 1) := by decide +kernel
theorem dX0_become_75 : decode cX0_become 75 = .ok (.aload_n 0, 1) := by decide +kernel
theorem dX0_become_76 : decode cX0_become 76 = .ok (.getfield 28, 3) := by decide +kernel
theorem dX0_become_79 : decode cX0_become 79 = .ok (.arraylength, 1) := by decide +kernel
theorem dX0_become_80 : decode cX0_become 80 = .ok (.if_icmp .ge 24, 3) := by decide +kernel
theorem dX0_become_83 : decode cX0_become 83 = .ok (.aload_n 0, 1) := by decide +kernel
theorem dX0_become_84 : decode cX0_become 84 = .ok (.getfield 28, 3) := by decide +kernel
theorem dX0_become_87 : decode cX0_become 87 = .ok (.iload_n 2, 1) := by decide +kernel
theorem dX0_become_88 : decode cX0_become 88 = .ok (.aaload, 1) := by decide +kernel
theorem dX0_become_89 : decode cX0_become 89 = .ok (.aload_n 1, 1) := by decide +kernel
theorem dX0_become_90 : decode cX0_become 90 = .ok (.getfield 28, 3) := by decide +kernel
theorem dX0_become_93 : decode cX0_become 93 = .ok (.iload_n 2, 1) := by decide +kernel
theorem dX0_become_94 : decode cX0_become 94 = .ok (.aaload, 1) := by decide +kernel
theorem dX0_become_95 : decode cX0_become 95 = .ok (.invokevirtual 62, 3) := by decide +kernel
theorem dX0_become_98 : decode cX0_become 98 = .ok (.iinc 2 1, 3) := by decide +kernel
theorem dX0_become_101 : decode cX0_become 101 = .ok (.goto (-27), 3) := by decide +kernel
theorem dX0_become_104 : decode cX0_become 104 = .ok (.aload_n 0, 1) := by decide +kernel
theorem dX0_become_105 : decode cX0_become 105 = .ok (.aload_n 1, 1) := by decide +kernel
theorem dX0_become_106 : decode cX0_become 106 = .ok (.getfield 65, 3) := by decide +kernel
theorem dX0_become_109 : decode cX0_become 109 = .ok (.putfield 65, 3) := by decide +kernel
theorem dX0_become_112 : decode cX0_become 112 = .ok (.aload_n 0, 1) := by decide +kernel
theorem dX0_become_113 : decode cX0_become 113 = .ok (.getfield 35, 3) := by decide +kernel
theorem dX0_become_116 : decode cX0_become 116 = .ok (.aload_n 1, 1) := by decide +kernel
theorem dX0_become_117 : decode cX0_become 117 = .ok (.getfield 35, 3) := by decide +kernel
theorem dX0_become_120 : decode cX0_become 120 = .ok (.invokevirtual 59, 3) := by decide +kernel
theorem dX0_become_123 : decode cX0_become 123 = .ok (.aload_n 0, 1) := by decide +kernel
theorem dX0_become_124 : decode cX0_become 124 = .ok (.getfield 42, 3) := by decide +kernel
theorem dX0_become_127 : decode cX0_become 127 = .ok (.aload_n 1, 1) := by decide +kernel
theorem dX0_become_128 : decode cX0_become 128 = .ok (.getfield 42, 3) := by decide +kernel
theorem dX0_become_131 : decode cX0_become 131 = .ok (.invokevirtual 68, 3) := by decide +kernel
theorem dX0_become_134 : decode cX0_become 134 = .ok (.return_, 1) := by decide +kernel
theorem dX0_wordAt_0 : decode cX0_wordAt 0 = .ok (.iload_n 1, 1) := by decide +kernel
theorem dX0_wordAt_1 : decode cX0_wordAt 1 = .ok (.ifCond .lt 20, 3) := by decide +kernel
theorem dX0_wordAt_4 : decode cX0_wordAt 4 = .ok (.iload_n 1, 1) := by decide +kernel
theorem dX0_wordAt_5 : decode cX0_wordAt 5 = .ok (.aload_n 0, 1) := by decide +kernel
theorem dX0_wordAt_6 : decode cX0_wordAt 6 = .ok (.getfield 55, 3) := by decide +kernel
theorem dX0_wordAt_9 : decode cX0_wordAt 9 = .ok (.if_icmp .ge 12, 3) := by decide +kernel
theorem dX0_wordAt_12 : decode cX0_wordAt 12 = .ok (.aload_n 0, 1) := by decide +kernel
theorem dX0_wordAt_13 : decode cX0_wordAt 13 = .ok (.getfield 11, 3) := by decide +kernel
theorem dX0_wordAt_16 : decode cX0_wordAt 16 = .ok (.iload_n 1, 1) := by decide +kernel
theorem dX0_wordAt_17 : decode cX0_wordAt 17 = .ok (.aaload, 1) := by decide +kernel
theorem dX0_wordAt_18 : decode cX0_wordAt 18 = .ok (.goto 4, 3) := by decide +kernel
theorem dX0_wordAt_21 : decode cX0_wordAt 21 = .ok (.aconst_null, 1) := by decide +kernel
theorem dX0_wordAt_22 : decode cX0_wordAt 22 = .ok (.areturn, 1) := by decide +kernel
theorem dX0_frameAt_0 : decode cX0_frameAt 0 = .ok (.iload_n 1, 1) := by decide +kernel
theorem dX0_frameAt_1 : decode cX0_frameAt 1 = .ok (.ifCond .lt 20, 3) := by decide +kernel
theorem dX0_frameAt_4 : decode cX0_frameAt 4 = .ok (.iload_n 1, 1) := by decide +kernel
theorem dX0_frameAt_5 : decode cX0_frameAt 5 = .ok (.aload_n 0, 1) := by decide +kernel
theorem dX0_frameAt_6 : decode cX0_frameAt 6 = .ok (.getfield 65, 3) := by decide +kernel
theorem dX0_frameAt_9 : decode cX0_frameAt 9 = .ok (.if_icmp .ge 12, 3) := by decide +kernel
theorem dX0_frameAt_12 : decode cX0_frameAt 12 = .ok (.aload_n 0, 1) := by decide +kernel
theorem dX0_frameAt_13 : decode cX0_frameAt 13 = .ok (.getfield 28, 3) := by decide +kernel
theorem dX0_frameAt_16 : decode cX0_frameAt 16 = .ok (.iload_n 1, 1) := by decide +kernel
theorem dX0_frameAt_17 : decode cX0_frameAt 17 = .ok (.aaload, 1) := by decide +kernel
theorem dX0_frameAt_18 : decode cX0_frameAt 18 = .ok (.goto 4, 3) := by decide +kernel
theorem dX0_frameAt_21 : decode cX0_frameAt 21 = .ok (.aconst_null, 1) := by decide +kernel
theorem dX0_frameAt_22 : decode cX0_frameAt 22 = .ok (.areturn, 1) := by decide +kernel
theorem dX0_endingAt_0 : decode cX0_endingAt 0 = .ok (.iload_n 1, 1) := by decide +kernel
theorem dX0_endingAt_1 : decode cX0_endingAt 1 = .ok (.iconst 4, 1) := by decide +kernel
theorem dX0_endingAt_2 : decode cX0_endingAt 2 = .ok (.invokestatic 71, 3) := by decide +kernel
theorem dX0_endingAt_5 : decode cX0_endingAt 5 = .ok (.ifCond .eq 23, 3) := by decide +kernel
theorem dX0_endingAt_8 : decode cX0_endingAt 8 = .ok (.iload_n 2, 1) := by decide +kernel
theorem dX0_endingAt_9 : decode cX0_endingAt 9 = .ok (.iconst 4, 1) := by decide +kernel
theorem dX0_endingAt_10 : decode cX0_endingAt 10 = .ok (.invokestatic 71, 3) := by decide +kernel
theorem dX0_endingAt_13 : decode cX0_endingAt 13 = .ok (.ifCond .eq 15, 3) := by decide +kernel
theorem dX0_endingAt_16 : decode cX0_endingAt 16 = .ok (.iload_n 3, 1) := by decide +kernel
theorem dX0_endingAt_17 : decode cX0_endingAt 17 = .ok (.iconst 2, 1) := by decide +kernel
theorem dX0_endingAt_18 : decode cX0_endingAt 18 = .ok (.invokestatic 71, 3) := by decide +kernel
theorem dX0_endingAt_21 : decode cX0_endingAt 21 = .ok (.ifCond .eq 7, 3) := by decide +kernel
theorem dX0_endingAt_24 : decode cX0_endingAt 24 = .ok (.iconst 1, 1) := by decide +kernel
theorem dX0_endingAt_25 : decode cX0_endingAt 25 = .ok (.goto 4, 3) := by decide +kernel
theorem dX0_endingAt_28 : decode cX0_endingAt 28 = .ok (.iconst 0, 1) := by decide +kernel
theorem dX0_endingAt_29 : decode cX0_endingAt 29 = .ok (.istore 4, 2) := by decide +kernel
theorem dX0_endingAt_31 : decode cX0_endingAt 31 = .ok (.iload 4, 2) := by decide +kernel
theorem dX0_endingAt_33 : decode cX0_endingAt 33 = .ok (.ifCond .eq 20, 3) := by decide +kernel
theorem dX0_endingAt_36 : decode cX0_endingAt 36 = .ok (.aload_n 0, 1) := by decide +kernel
theorem dX0_endingAt_37 : decode cX0_endingAt 37 = .ok (.getfield 19, 3) := by decide +kernel
theorem dX0_endingAt_40 : decode cX0_endingAt 40 = .ok (.iload_n 1, 1) := by decide +kernel
theorem dX0_endingAt_41 : decode cX0_endingAt 41 = .ok (.iconst 4, 1) := by decide +kernel
theorem dX0_endingAt_42 : decode cX0_endingAt 42 = .ok (.imul, 1) := by decide +kernel
theorem dX0_endingAt_43 : decode cX0_endingAt 43 = .ok (.iload_n 2, 1) := by decide +kernel
theorem dX0_endingAt_44 : decode cX0_endingAt 44 = .ok (.iadd, 1) := by decide +kernel
theorem dX0_endingAt_45 : decode cX0_endingAt 45 = .ok (.iconst 2, 1) := by decide +kernel
theorem dX0_endingAt_46 : decode cX0_endingAt 46 = .ok (.imul, 1) := by decide +kernel
theorem dX0_endingAt_47 : decode cX0_endingAt 47 = .ok (.iload_n 3, 1) := by decide +kernel
theorem dX0_endingAt_48 : decode cX0_endingAt 48 = .ok (.iadd, 1) := by decide +kernel
theorem dX0_endingAt_49 : decode cX0_endingAt 49 = .ok (.aaload, 1) := by decide +kernel
theorem dX0_endingAt_50 : decode cX0_endingAt 50 = .ok (.goto 4, 3) := by decide +kernel
theorem dX0_endingAt_53 : decode cX0_endingAt 53 = .ok (.aconst_null, 1) := by decide +kernel
theorem dX0_endingAt_54 : decode cX0_endingAt 54 = .ok (.areturn, 1) := by decide +kernel
theorem dX0_addWord_0 : decode cX0_addWord 0 = .ok (.aload_n 0, 1) := by decide +kernel
theorem dX0_addWord_1 : decode cX0_addWord 1 = .ok (.getfield 55, 3) := by decide +kernel
theorem dX0_addWord_4 : decode cX0_addWord 4 = .ok (.aload_n 0, 1) := by decide +kernel
theorem dX0_addWord_5 : decode cX0_addWord 5 = .ok (.getfield 11, 3) := by decide +kernel
theorem dX0_addWord_8 : decode cX0_addWord 8 = .ok (.arraylength, 1) := by decide +kernel
theorem dX0_addWord_9 : decode cX0_addWord 9 = .ok (.if_icmp .lt 6, 3) := by decide +kernel
theorem dX0_addWord_12 : decode cX0_addWord 12 = .ok (.bipush (-4), 2) := by decide +kernel
theorem dX0_addWord_14 : decode cX0_addWord 14 = .ok (.ireturn, 1) := by decide +kernel
theorem dX0_addWord_15 : decode cX0_addWord 15 = .ok (.aload_n 0, 1) := by decide +kernel
theorem dX0_addWord_16 : decode cX0_addWord 16 = .ok (.getfield 11, 3) := by decide +kernel
theorem dX0_addWord_19 : decode cX0_addWord 19 = .ok (.aload_n 0, 1) := by decide +kernel
theorem dX0_addWord_20 : decode cX0_addWord 20 = .ok (.getfield 55, 3) := by decide +kernel
theorem dX0_addWord_23 : decode cX0_addWord 23 = .ok (.aaload, 1) := by decide +kernel
theorem dX0_addWord_24 : decode cX0_addWord 24 = .ok (.aload_n 1, 1) := by decide +kernel
theorem dX0_addWord_25 : decode cX0_addWord 25 = .ok (.iload_n 2, 1) := by decide +kernel
theorem dX0_addWord_26 : decode cX0_addWord 26 = .ok (.iload_n 3, 1) := by decide +kernel
theorem dX0_addWord_27 : decode cX0_addWord 27 = .ok (.iload 4, 2) := by decide +kernel
theorem dX0_addWord_29 : decode cX0_addWord 29 = .ok (.invokevirtual 75, 3) := by decide +kernel
theorem dX0_addWord_32 : decode cX0_addWord 32 = .ok (.aload_n 0, 1) := by decide +kernel
theorem dX0_addWord_33 : decode cX0_addWord 33 = .ok (.dup, 1) := by decide +kernel
theorem dX0_addWord_34 : decode cX0_addWord 34 = .ok (.getfield 55, 3) := by decide +kernel
theorem dX0_addWord_37 : decode cX0_addWord 37 = .ok (.iconst 1, 1) := by decide +kernel
theorem dX0_addWord_38 : decode cX0_addWord 38 = .ok (.iadd, 1) := by decide +kernel
theorem dX0_addWord_39 : decode cX0_addWord 39 = .ok (.putfield 55, 3) := by decide +kernel
theorem dX0_addWord_42 : decode cX0_addWord 42 = .ok (.aload_n 0, 1) := by decide +kernel
theorem dX0_addWord_43 : decode cX0_addWord 43 = .ok (.getfield 55, 3) := by decide +kernel
theorem dX0_addWord_46 : decode cX0_addWord 46 = .ok (.iconst 1, 1) := by decide +kernel
theorem dX0_addWord_47 : decode cX0_addWord 47 = .ok (.isub, 1) := by decide +kernel
theorem dX0_addWord_48 : decode cX0_addWord 48 = .ok (.ireturn, 1) := by decide +kernel
theorem dX0_addFrame_0 : decode cX0_addFrame 0 = .ok (.aload_n 0, 1) := by decide +kernel
theorem dX0_addFrame_1 : decode cX0_addFrame 1 = .ok (.getfield 65, 3) := by decide +kernel
theorem dX0_addFrame_4 : decode cX0_addFrame 4 = .ok (.aload_n 0, 1) := by decide +kernel
theorem dX0_addFrame_5 : decode cX0_addFrame 5 = .ok (.getfield 28, 3) := by decide +kernel
theorem dX0_addFrame_8 : decode cX0_addFrame 8 = .ok (.arraylength, 1) := by decide +kernel
theorem dX0_addFrame_9 : decode cX0_addFrame 9 = .ok (.if_icmp .lt 6, 3) := by decide +kernel
theorem dX0_addFrame_12 : decode cX0_addFrame 12 = .ok (.bipush (-4), 2) := by decide +kernel
theorem dX0_addFrame_14 : decode cX0_addFrame 14 = .ok (.ireturn, 1) := by decide +kernel
theorem dX0_addFrame_15 : decode cX0_addFrame 15 = .ok (.aload_n 0, 1) := by decide +kernel
theorem dX0_addFrame_16 : decode cX0_addFrame 16 = .ok (.getfield 28, 3) := by decide +kernel
theorem dX0_addFrame_19 : decode cX0_addFrame 19 = .ok (.aload_n 0, 1) := by decide +kernel
theorem dX0_addFrame_20 : decode cX0_addFrame 20 = .ok (.getfield 65, 3) := by decide +kernel
theorem dX0_addFrame_23 : decode cX0_addFrame 23 = .ok (.aaload, 1) := by decide +kernel
theorem dX0_addFrame_24 : decode cX0_addFrame 24 = .ok (.aload_n 1, 1) := by decide +kernel
theorem dX0_addFrame_25 : decode cX0_addFrame 25 = .ok (.invokevirtual 62, 3) := by decide +kernel
theorem dX0_addFrame_28 : decode cX0_addFrame 28 = .ok (.aload_n 0, 1) := by decide +kernel
theorem dX0_addFrame_29 : decode cX0_addFrame 29 = .ok (.dup, 1) := by decide +kernel
theorem dX0_addFrame_30 : decode cX0_addFrame 30 = .ok (.getfield 65, 3) := by decide +kernel
theorem dX0_addFrame_33 : decode cX0_addFrame 33 = .ok (.iconst 1, 1) := by decide +kernel
theorem dX0_addFrame_34 : decode cX0_addFrame 34 = .ok (.iadd, 1) := by decide +kernel
theorem dX0_addFrame_35 : decode cX0_addFrame 35 = .ok (.putfield 65, 3) := by decide +kernel
theorem dX0_addFrame_38 : decode cX0_addFrame 38 = .ok (.aload_n 0, 1) := by decide +kernel
theorem dX0_addFrame_39 : decode cX0_addFrame 39 = .ok (.getfield 65, 3) := by decide +kernel
theorem dX0_addFrame_42 : decode cX0_addFrame 42 = .ok (.iconst 1, 1) := by decide +kernel
theorem dX0_addFrame_43 : decode cX0_addFrame 43 = .ok (.isub, 1) := by decide +kernel
theorem dX0_addFrame_44 : decode cX0_addFrame 44 = .ok (.ireturn, 1) := by decide +kernel
theorem dX0_wordsFor_0 : decode cX0_wordsFor 0 = .ok (.iconst 0, 1) := by decide +kernel
theorem dX0_wordsFor_1 : decode cX0_wordsFor 1 = .ok (.istore_n 3, 1) := by decide +kernel
theorem dX0_wordsFor_2 : decode cX0_wordsFor 2 = .ok (.iconst 0, 1) := by decide +kernel
theorem dX0_wordsFor_3 : decode cX0_wordsFor 3 = .ok (.istore 4, 2) := by decide +kernel
theorem dX0_wordsFor_5 : decode cX0_wordsFor 5 = .ok (.iload 4, 2) := by decide +kernel
theorem dX0_wordsFor_7 : decode cX0_wordsFor 7 = .ok (.aload_n 0, 1) := by decide +kernel
theorem dX0_wordsFor_8 : decode cX0_wordsFor 8 = .ok (.getfield 55, 3) := by decide +kernel
theorem dX0_wordsFor_11 : decode cX0_wordsFor 11 = .ok (.if_icmp .ge 32, 3) := by decide +kernel
theorem dX0_wordsFor_14 : decode cX0_wordsFor 14 = .ok (.iload_n 3, 1) := by decide +kernel
theorem dX0_wordsFor_15 : decode cX0_wordsFor 15 = .ok (.aload_n 1, 1) := by decide +kernel
theorem dX0_wordsFor_16 : decode cX0_wordsFor 16 = .ok (.iload_n 2, 1) := by decide +kernel
theorem dX0_wordsFor_17 : decode cX0_wordsFor 17 = .ok (.aload_n 0, 1) := by decide +kernel
theorem dX0_wordsFor_18 : decode cX0_wordsFor 18 = .ok (.getfield 11, 3) := by decide +kernel
theorem dX0_wordsFor_21 : decode cX0_wordsFor 21 = .ok (.iload 4, 2) := by decide +kernel
theorem dX0_wordsFor_23 : decode cX0_wordsFor 23 = .ok (.aaload, 1) := by decide +kernel
theorem dX0_wordsFor_24 : decode cX0_wordsFor 24 = .ok (.invokevirtual 79, 3) := by decide +kernel
theorem dX0_wordsFor_27 : decode cX0_wordsFor 27 = .ok (.ifCond .eq 7, 3) := by decide +kernel
theorem dX0_wordsFor_30 : decode cX0_wordsFor 30 = .ok (.iconst 1, 1) := by decide +kernel
theorem dX0_wordsFor_31 : decode cX0_wordsFor 31 = .ok (.goto 4, 3) := by decide +kernel
theorem dX0_wordsFor_34 : decode cX0_wordsFor 34 = .ok (.iconst 0, 1) := by decide +kernel
theorem dX0_wordsFor_35 : decode cX0_wordsFor 35 = .ok (.iadd, 1) := by decide +kernel
theorem dX0_wordsFor_36 : decode cX0_wordsFor 36 = .ok (.istore_n 3, 1) := by decide +kernel
theorem dX0_wordsFor_37 : decode cX0_wordsFor 37 = .ok (.iinc 4 1, 3) := by decide +kernel
theorem dX0_wordsFor_40 : decode cX0_wordsFor 40 = .ok (.goto (-35), 3) := by decide +kernel
theorem dX0_wordsFor_43 : decode cX0_wordsFor 43 = .ok (.iload_n 3, 1) := by decide +kernel
theorem dX0_wordsFor_44 : decode cX0_wordsFor 44 = .ok (.ireturn, 1) := by decide +kernel
theorem dX0_wordFor_0 : decode cX0_wordFor 0 = .ok (.iload_n 3, 1) := by decide +kernel
theorem dX0_wordFor_1 : decode cX0_wordFor 1 = .ok (.istore 4, 2) := by decide +kernel
theorem dX0_wordFor_3 : decode cX0_wordFor 3 = .ok (.iconst 0, 1) := by decide +kernel
theorem dX0_wordFor_4 : decode cX0_wordFor 4 = .ok (.istore 5, 2) := by decide +kernel
theorem dX0_wordFor_6 : decode cX0_wordFor 6 = .ok (.iload 5, 2) := by decide +kernel
theorem dX0_wordFor_8 : decode cX0_wordFor 8 = .ok (.aload_n 0, 1) := by decide +kernel
theorem dX0_wordFor_9 : decode cX0_wordFor 9 = .ok (.getfield 55, 3) := by decide +kernel
theorem dX0_wordFor_12 : decode cX0_wordFor 12 = .ok (.if_icmp .ge 35, 3) := by decide +kernel
theorem dX0_wordFor_15 : decode cX0_wordFor 15 = .ok (.aload_n 1, 1) := by decide +kernel
theorem dX0_wordFor_16 : decode cX0_wordFor 16 = .ok (.iload_n 2, 1) := by decide +kernel
theorem dX0_wordFor_17 : decode cX0_wordFor 17 = .ok (.aload_n 0, 1) := by decide +kernel
theorem dX0_wordFor_18 : decode cX0_wordFor 18 = .ok (.getfield 11, 3) := by decide +kernel
theorem dX0_wordFor_21 : decode cX0_wordFor 21 = .ok (.iload 5, 2) := by decide +kernel
theorem dX0_wordFor_23 : decode cX0_wordFor 23 = .ok (.aaload, 1) := by decide +kernel
theorem dX0_wordFor_24 : decode cX0_wordFor 24 = .ok (.invokevirtual 79, 3) := by decide +kernel
theorem dX0_wordFor_27 : decode cX0_wordFor 27 = .ok (.ifCond .eq 14, 3) := by decide +kernel
theorem dX0_wordFor_30 : decode cX0_wordFor 30 = .ok (.iload 4, 2) := by decide +kernel
theorem dX0_wordFor_32 : decode cX0_wordFor 32 = .ok (.ifCond .ne 6, 3) := by decide +kernel
theorem dX0_wordFor_35 : decode cX0_wordFor 35 = .ok (.iload 5, 2) := by decide +kernel
theorem dX0_wordFor_37 : decode cX0_wordFor 37 = .ok (.ireturn, 1) := by decide +kernel
theorem dX0_wordFor_38 : decode cX0_wordFor 38 = .ok (.iinc 4 (-1), 3) := by decide +kernel
theorem dX0_wordFor_41 : decode cX0_wordFor 41 = .ok (.iinc 5 1, 3) := by decide +kernel
theorem dX0_wordFor_44 : decode cX0_wordFor 44 = .ok (.goto (-38), 3) := by decide +kernel
theorem dX0_wordFor_47 : decode cX0_wordFor 47 = .ok (.iconst (-1), 1) := by decide +kernel
theorem dX0_wordFor_48 : decode cX0_wordFor 48 = .ok (.ireturn, 1) := by decide +kernel
theorem dX0_spell_0 : decode cX0_spell 0 = .ok (.iload_n 2, 1) := by decide +kernel
theorem dX0_spell_1 : decode cX0_spell 1 = .ok (.iconst 4, 1) := by decide +kernel
theorem dX0_spell_2 : decode cX0_spell 2 = .ok (.irem, 1) := by decide +kernel
theorem dX0_spell_3 : decode cX0_spell 3 = .ok (.istore 4, 2) := by decide +kernel
theorem dX0_spell_5 : decode cX0_spell 5 = .ok (.iload_n 2, 1) := by decide +kernel
theorem dX0_spell_6 : decode cX0_spell 6 = .ok (.iconst 4, 1) := by decide +kernel
theorem dX0_spell_7 : decode cX0_spell 7 = .ok (.idiv, 1) := by decide +kernel
theorem dX0_spell_8 : decode cX0_spell 8 = .ok (.iconst 2, 1) := by decide +kernel
theorem dX0_spell_9 : decode cX0_spell 9 = .ok (.irem, 1) := by decide +kernel
theorem dX0_spell_10 : decode cX0_spell 10 = .ok (.istore 5, 2) := by decide +kernel
theorem dX0_spell_12 : decode cX0_spell 12 = .ok (.iload_n 2, 1) := by decide +kernel
theorem dX0_spell_13 : decode cX0_spell 13 = .ok (.bipush 8, 2) := by decide +kernel
theorem dX0_spell_15 : decode cX0_spell 15 = .ok (.idiv, 1) := by decide +kernel
theorem dX0_spell_16 : decode cX0_spell 16 = .ok (.iconst 3, 1) := by decide +kernel
theorem dX0_spell_17 : decode cX0_spell 17 = .ok (.irem, 1) := by decide +kernel
theorem dX0_spell_18 : decode cX0_spell 18 = .ok (.istore 6, 2) := by decide +kernel
theorem dX0_spell_20 : decode cX0_spell 20 = .ok (.iload_n 2, 1) := by decide +kernel
theorem dX0_spell_21 : decode cX0_spell 21 = .ok (.bipush 24, 2) := by decide +kernel
theorem dX0_spell_23 : decode cX0_spell 23 = .ok (.idiv, 1) := by decide +kernel
theorem dX0_spell_24 : decode cX0_spell 24 = .ok (.istore 7, 2) := by decide +kernel
theorem dX0_spell_26 : decode cX0_spell 26 = .ok (.aload_n 3, 1) := by decide +kernel
theorem dX0_spell_27 : decode cX0_spell 27 = .ok (.aload_n 1, 1) := by decide +kernel
theorem dX0_spell_28 : decode cX0_spell 28 = .ok (.getfield 83, 3) := by decide +kernel
theorem dX0_spell_31 : decode cX0_spell 31 = .ok (.invokevirtual 59, 3) := by decide +kernel
theorem dX0_spell_34 : decode cX0_spell 34 = .ok (.aload_n 1, 1) := by decide +kernel
theorem dX0_spell_35 : decode cX0_spell 35 = .ok (.getfield 86, 3) := by decide +kernel
theorem dX0_spell_38 : decode cX0_spell 38 = .ok (.ifCond .ne 4, 3) := by decide +kernel
theorem dX0_spell_41 : decode cX0_spell 41 = .ok (.return_, 1) := by decide +kernel
theorem dX0_spell_42 : decode cX0_spell 42 = .ok (.aload_n 0, 1) := by decide +kernel
theorem dX0_spell_43 : decode cX0_spell 43 = .ok (.aload_n 1, 1) := by decide +kernel
theorem dX0_spell_44 : decode cX0_spell 44 = .ok (.getfield 89, 3) := by decide +kernel
theorem dX0_spell_47 : decode cX0_spell 47 = .ok (.aload_n 1, 1) := by decide +kernel
theorem dX0_spell_48 : decode cX0_spell 48 = .ok (.iconst 2, 1) := by decide +kernel
theorem dX0_spell_49 : decode cX0_spell 49 = .ok (.invokevirtual 92, 3) := by decide +kernel
theorem dX0_spell_52 : decode cX0_spell 52 = .ok (.ifCond .eq 8, 3) := by decide +kernel
theorem dX0_spell_55 : decode cX0_spell 55 = .ok (.iload 7, 2) := by decide +kernel
theorem dX0_spell_57 : decode cX0_spell 57 = .ok (.goto 5, 3) := by decide +kernel
theorem dX0_spell_60 : decode cX0_spell 60 = .ok (.iload 4, 2) := by decide +kernel
theorem dX0_spell_62 : decode cX0_spell 62 = .ok (.aload_n 1, 1) := by decide +kernel
theorem dX0_spell_63 : decode cX0_spell 63 = .ok (.getfield 86, 3) := by decide +kernel
theorem dX0_spell_66 : decode cX0_spell 66 = .ok (.iconst 3, 1) := by decide +kernel
theorem dX0_spell_67 : decode cX0_spell 67 = .ok (.if_icmp .ne 7, 3) := by decide +kernel
theorem dX0_spell_70 : decode cX0_spell 70 = .ok (.iconst 0, 1) := by decide +kernel
theorem dX0_spell_71 : decode cX0_spell 71 = .ok (.goto 5, 3) := by decide +kernel
theorem dX0_spell_74 : decode cX0_spell 74 = .ok (.iload 5, 2) := by decide +kernel
theorem dX0_spell_76 : decode cX0_spell 76 = .ok (.invokevirtual 96, 3) := by decide +kernel
theorem dX0_spell_79 : decode cX0_spell 79 = .ok (.astore 8, 2) := by decide +kernel
theorem dX0_spell_81 : decode cX0_spell 81 = .ok (.aload 8, 2) := by decide +kernel
theorem dX0_spell_83 : decode cX0_spell 83 = .ok (.ifnull 9, 3) := by decide +kernel
theorem dX0_spell_86 : decode cX0_spell 86 = .ok (.aload_n 3, 1) := by decide +kernel
theorem dX0_spell_87 : decode cX0_spell 87 = .ok (.aload 8, 2) := by decide +kernel
theorem dX0_spell_89 : decode cX0_spell 89 = .ok (.invokevirtual 100, 3) := by decide +kernel
theorem dX0_spell_92 : decode cX0_spell 92 = .ok (.aload_n 1, 1) := by decide +kernel
theorem dX0_spell_93 : decode cX0_spell 93 = .ok (.getfield 86, 3) := by decide +kernel
theorem dX0_spell_96 : decode cX0_spell 96 = .ok (.iconst 4, 1) := by decide +kernel
theorem dX0_spell_97 : decode cX0_spell 97 = .ok (.if_icmp .ne 23, 3) := by decide +kernel
theorem dX0_spell_100 : decode cX0_spell 100 = .ok (.iload 6, 2) := by decide +kernel
theorem dX0_spell_102 : decode cX0_spell 102 = .ok (.iconst 3, 1) := by decide +kernel
theorem dX0_spell_103 : decode cX0_spell 103 = .ok (.invokestatic 71, 3) := by decide +kernel
theorem dX0_spell_106 : decode cX0_spell 106 = .ok (.ifCond .eq 14, 3) := by decide +kernel
theorem dX0_spell_109 : decode cX0_spell 109 = .ok (.aload_n 3, 1) := by decide +kernel
theorem dX0_spell_110 : decode cX0_spell 110 = .ok (.aload_n 0, 1) := by decide +kernel
theorem dX0_spell_111 : decode cX0_spell 111 = .ok (.getfield 23, 3) := by decide +kernel
theorem dX0_spell_114 : decode cX0_spell 114 = .ok (.iload 6, 2) := by decide +kernel
theorem dX0_spell_116 : decode cX0_spell 116 = .ok (.aaload, 1) := by decide +kernel
theorem dX0_spell_117 : decode cX0_spell 117 = .ok (.invokevirtual 100, 3) := by decide +kernel
theorem dX0_spell_120 : decode cX0_spell 120 = .ok (.aload_n 1, 1) := by decide +kernel
theorem dX0_spell_121 : decode cX0_spell 121 = .ok (.getfield 86, 3) := by decide +kernel
theorem dX0_spell_124 : decode cX0_spell 124 = .ok (.iconst 5, 1) := by decide +kernel
theorem dX0_spell_125 : decode cX0_spell 125 = .ok (.if_icmp .ne 22, 3) := by decide +kernel
theorem dX0_spell_128 : decode cX0_spell 128 = .ok (.iload 7, 2) := by decide +kernel
theorem dX0_spell_130 : decode cX0_spell 130 = .ok (.ifCond .eq 17, 3) := by decide +kernel
theorem dX0_spell_133 : decode cX0_spell 133 = .ok (.aload_n 3, 1) := by decide +kernel
theorem dX0_spell_134 : decode cX0_spell 134 = .ok (.aload_n 3, 1) := by decide +kernel
theorem dX0_spell_135 : decode cX0_spell 135 = .ok (.aload_n 3, 1) := by decide +kernel
theorem dX0_spell_136 : decode cX0_spell 136 = .ok (.getfield 103, 3) := by decide +kernel
theorem dX0_spell_139 : decode cX0_spell 139 = .ok (.iconst 1, 1) := by decide +kernel
theorem dX0_spell_140 : decode cX0_spell 140 = .ok (.isub, 1) := by decide +kernel
theorem dX0_spell_141 : decode cX0_spell 141 = .ok (.invokevirtual 106, 3) := by decide +kernel
theorem dX0_spell_144 : decode cX0_spell 144 = .ok (.invokevirtual 47, 3) := by decide +kernel
theorem dX0_spell_147 : decode cX0_spell 147 = .ok (.return_, 1) := by decide +kernel
theorem dX1_init_0 : decode cX1_init 0 = .ok (.aload_n 0, 1) := by decide +kernel
theorem dX1_init_1 : decode cX1_init 1 = .ok (.invokespecial 3, 3) := by decide +kernel
theorem dX1_init_4 : decode cX1_init 4 = .ok (.aload_n 0, 1) := by decide +kernel
theorem dX1_init_5 : decode cX1_init 5 = .ok (.new 9, 3) := by decide +kernel
theorem dX1_init_8 : decode cX1_init 8 = .ok (.dup, 1) := by decide +kernel
theorem dX1_init_9 : decode cX1_init 9 = .ok (.invokespecial 11, 3) := by decide +kernel
theorem dX1_init_12 : decode cX1_init 12 = .ok (.putfield 12, 3) := by decide +kernel
theorem dX1_init_15 : decode cX1_init 15 = .ok (.return_, 1) := by decide +kernel
theorem dX1_draw_0 : decode cX1_draw 0 = .ok (.aload_n 0, 1) := by decide +kernel
theorem dX1_draw_1 : decode cX1_draw 1 = .ok (.iload_n 2, 1) := by decide +kernel
theorem dX1_draw_2 : decode cX1_draw 2 = .ok (.putfield 18, 3) := by decide +kernel
theorem dX1_draw_5 : decode cX1_draw 5 = .ok (.aload_n 0, 1) := by decide +kernel
theorem dX1_draw_6 : decode cX1_draw 6 = .ok (.aload_n 1, 1) := by decide +kernel
theorem dX1_draw_7 : decode cX1_draw 7 = .ok (.getfield 22, 3) := by decide +kernel
theorem dX1_draw_10 : decode cX1_draw 10 = .ok (.invokevirtual 27, 3) := by decide +kernel
theorem dX1_draw_13 : decode cX1_draw 13 = .ok (.istore_n 3, 1) := by decide +kernel
theorem dX1_draw_14 : decode cX1_draw 14 = .ok (.aload_n 0, 1) := by decide +kernel
theorem dX1_draw_15 : decode cX1_draw 15 = .ok (.getfield 12, 3) := by decide +kernel
theorem dX1_draw_18 : decode cX1_draw 18 = .ok (.iload_n 3, 1) := by decide +kernel
theorem dX1_draw_19 : decode cX1_draw 19 = .ok (.aload_n 0, 1) := by decide +kernel
theorem dX1_draw_20 : decode cX1_draw 20 = .ok (.iconst 4, 1) := by decide +kernel
theorem dX1_draw_21 : decode cX1_draw 21 = .ok (.invokevirtual 27, 3) := by decide +kernel
theorem dX1_draw_24 : decode cX1_draw 24 = .ok (.invokevirtual 31, 3) := by decide +kernel
theorem dX1_draw_27 : decode cX1_draw 27 = .ok (.iconst 0, 1) := by decide +kernel
theorem dX1_draw_28 : decode cX1_draw 28 = .ok (.istore 4, 2) := by decide +kernel
theorem dX1_draw_30 : decode cX1_draw 30 = .ok (.iload 4, 2) := by decide +kernel
theorem dX1_draw_32 : decode cX1_draw 32 = .ok (.iconst 3, 1) := by decide +kernel
theorem dX1_draw_33 : decode cX1_draw 33 = .ok (.if_icmp .ge 29, 3) := by decide +kernel
theorem dX1_draw_36 : decode cX1_draw 36 = .ok (.aload_n 0, 1) := by decide +kernel
theorem dX1_draw_37 : decode cX1_draw 37 = .ok (.getfield 12, 3) := by decide +kernel
theorem dX1_draw_40 : decode cX1_draw 40 = .ok (.dup, 1) := by decide +kernel
theorem dX1_draw_41 : decode cX1_draw 41 = .ok (.getfield 35, 3) := by decide +kernel
theorem dX1_draw_44 : decode cX1_draw 44 = .ok (.aload_n 0, 1) := by decide +kernel
theorem dX1_draw_45 : decode cX1_draw 45 = .ok (.iconst 2, 1) := by decide +kernel
theorem dX1_draw_46 : decode cX1_draw 46 = .ok (.invokevirtual 27, 3) := by decide +kernel
theorem dX1_draw_49 : decode cX1_draw 49 = .ok (.iload 4, 2) := by decide +kernel
theorem dX1_draw_51 : decode cX1_draw 51 = .ok (.ishl, 1) := by decide +kernel
theorem dX1_draw_52 : decode cX1_draw 52 = .ok (.ior, 1) := by decide +kernel
theorem dX1_draw_53 : decode cX1_draw 53 = .ok (.putfield 35, 3) := by decide +kernel
theorem dX1_draw_56 : decode cX1_draw 56 = .ok (.iinc 4 1, 3) := by decide +kernel
theorem dX1_draw_59 : decode cX1_draw 59 = .ok (.goto (-29), 3) := by decide +kernel
theorem dX1_draw_62 : decode cX1_draw 62 = .ok (.aload_n 1, 1) := by decide +kernel
theorem dX1_draw_63 : decode cX1_draw 63 = .ok (.iload_n 3, 1) := by decide +kernel
theorem dX1_draw_64 : decode cX1_draw 64 = .ok (.invokevirtual 38, 3) := by decide +kernel
theorem dX1_draw_67 : decode cX1_draw 67 = .ok (.astore 4, 2) := by decide +kernel
theorem dX1_draw_69 : decode cX1_draw 69 = .ok (.aload 4, 2) := by decide +kernel
theorem dX1_draw_71 : decode cX1_draw 71 = .ok (.ifnonnull 5, 3) := by decide +kernel
theorem dX1_draw_74 : decode cX1_draw 74 = .ok (.iconst 0, 1) := by decide +kernel
theorem dX1_draw_75 : decode cX1_draw 75 = .ok (.ireturn, 1) := by decide +kernel
theorem dX1_draw_76 : decode cX1_draw 76 = .ok (.iconst 0, 1) := by decide +kernel
theorem dX1_draw_77 : decode cX1_draw 77 = .ok (.istore 5, 2) := by decide +kernel
theorem dX1_draw_79 : decode cX1_draw 79 = .ok (.iload 5, 2) := by decide +kernel
theorem dX1_draw_81 : decode cX1_draw 81 = .ok (.aload 4, 2) := by decide +kernel
theorem dX1_draw_83 : decode cX1_draw 83 = .ok (.getfield 42, 3) := by decide +kernel
theorem dX1_draw_86 : decode cX1_draw 86 = .ok (.if_icmp .ge 68, 3) := by decide +kernel
theorem dX1_draw_89 : decode cX1_draw 89 = .ok (.aload_n 1, 1) := by decide +kernel
theorem dX1_draw_90 : decode cX1_draw 90 = .ok (.aload 4, 2) := by decide +kernel
theorem dX1_draw_92 : decode cX1_draw 92 = .ok (.iload 5, 2) := by decide +kernel
theorem dX1_draw_94 : decode cX1_draw 94 = .ok (.invokevirtual 47, 3) := by decide +kernel
theorem dX1_draw_97 : decode cX1_draw 97 = .ok (.istore 6, 2) := by decide +kernel
theorem dX1_draw_99 : decode cX1_draw 99 = .ok (.iload 6, 2) := by decide +kernel
theorem dX1_draw_101 : decode cX1_draw 101 = .ok (.ifCond .ne 5, 3) := by decide +kernel
theorem dX1_draw_104 : decode cX1_draw 104 = .ok (.iconst 0, 1) := by decide +kernel
theorem dX1_draw_105 : decode cX1_draw 105 = .ok (.ireturn, 1) := by decide +kernel
theorem dX1_draw_106 : decode cX1_draw 106 = .ok (.aload 4, 2) := by decide +kernel
theorem dX1_draw_108 : decode cX1_draw 108 = .ok (.iload 5, 2) := by decide +kernel
theorem dX1_draw_110 : decode cX1_draw 110 = .ok (.invokevirtual 51, 3) := by decide +kernel
theorem dX1_draw_113 : decode cX1_draw 113 = .ok (.iconst 3, 1) := by decide +kernel
theorem dX1_draw_114 : decode cX1_draw 114 = .ok (.if_icmp .ne 7, 3) := by decide +kernel
theorem dX1_draw_117 : decode cX1_draw 117 = .ok (.iconst 0, 1) := by decide +kernel
theorem dX1_draw_118 : decode cX1_draw 118 = .ok (.goto 9, 3) := by decide +kernel
theorem dX1_draw_121 : decode cX1_draw 121 = .ok (.aload_n 0, 1) := by decide +kernel
theorem dX1_draw_122 : decode cX1_draw 122 = .ok (.iload 6, 2) := by decide +kernel
theorem dX1_draw_124 : decode cX1_draw 124 = .ok (.invokevirtual 27, 3) := by decide +kernel
theorem dX1_draw_127 : decode cX1_draw 127 = .ok (.istore 7, 2) := by decide +kernel
theorem dX1_draw_129 : decode cX1_draw 129 = .ok (.aload_n 0, 1) := by decide +kernel
theorem dX1_draw_130 : decode cX1_draw 130 = .ok (.getfield 12, 3) := by decide +kernel
theorem dX1_draw_133 : decode cX1_draw 133 = .ok (.iload 5, 2) := by decide +kernel
theorem dX1_draw_135 : decode cX1_draw 135 = .ok (.aload_n 1, 1) := by decide +kernel
theorem dX1_draw_136 : decode cX1_draw 136 = .ok (.aload 4, 2) := by decide +kernel
theorem dX1_draw_138 : decode cX1_draw 138 = .ok (.iload 5, 2) := by decide +kernel
theorem dX1_draw_140 : decode cX1_draw 140 = .ok (.iload 7, 2) := by decide +kernel
theorem dX1_draw_142 : decode cX1_draw 142 = .ok (.invokevirtual 54, 3) := by decide +kernel
theorem dX1_draw_145 : decode cX1_draw 145 = .ok (.invokevirtual 58, 3) := by decide +kernel
theorem dX1_draw_148 : decode cX1_draw 148 = .ok (.iinc 5 1, 3) := by decide +kernel
theorem dX1_draw_151 : decode cX1_draw 151 = .ok (.goto (-72), 3) := by decide +kernel
theorem dX1_draw_154 : decode cX1_draw 154 = .ok (.iconst 1, 1) := by decide +kernel
theorem dX1_draw_155 : decode cX1_draw 155 = .ok (.ireturn, 1) := by decide +kernel
theorem dX1_next_0 : decode cX1_next 0 = .ok (.aload_n 0, 1) := by decide +kernel
theorem dX1_next_1 : decode cX1_next 1 = .ok (.aload_n 0, 1) := by decide +kernel
theorem dX1_next_2 : decode cX1_next 2 = .ok (.getfield 18, 3) := by decide +kernel
theorem dX1_next_5 : decode cX1_next 5 = .ok (.ldc 61, 2) := by decide +kernel
theorem dX1_next_7 : decode cX1_next 7 = .ok (.imul, 1) := by decide +kernel
theorem dX1_next_8 : decode cX1_next 8 = .ok (.sipush 12345, 3) := by decide +kernel
theorem dX1_next_11 : decode cX1_next 11 = .ok (.iadd, 1) := by decide +kernel
theorem dX1_next_12 : decode cX1_next 12 = .ok (.putfield 18, 3) := by decide +kernel
theorem dX1_next_15 : decode cX1_next 15 = .ok (.iload_n 1, 1) := by decide +kernel
theorem dX1_next_16 : decode cX1_next 16 = .ok (.ifCond .le 15, 3) := by decide +kernel
theorem dX1_next_19 : decode cX1_next 19 = .ok (.aload_n 0, 1) := by decide +kernel
theorem dX1_next_20 : decode cX1_next 20 = .ok (.getfield 18, 3) := by decide +kernel
theorem dX1_next_23 : decode cX1_next 23 = .ok (.bipush 9, 2) := by decide +kernel
theorem dX1_next_25 : decode cX1_next 25 = .ok (.iushr, 1) := by decide +kernel
theorem dX1_next_26 : decode cX1_next 26 = .ok (.iload_n 1, 1) := by decide +kernel
theorem dX1_next_27 : decode cX1_next 27 = .ok (.irem, 1) := by decide +kernel
theorem dX1_next_28 : decode cX1_next 28 = .ok (.goto 4, 3) := by decide +kernel
theorem dX1_next_31 : decode cX1_next 31 = .ok (.iconst 0, 1) := by decide +kernel
theorem dX1_next_32 : decode cX1_next 32 = .ok (.ireturn, 1) := by decide +kernel
theorem dX2_init_0 : decode cX2_init 0 = .ok (.aload_n 0, 1) := by decide +kernel
theorem dX2_init_1 : decode cX2_init 1 = .ok (.invokespecial 3, 3) := by decide +kernel
theorem dX2_init_4 : decode cX2_init 4 = .ok (.aload_n 0, 1) := by decide +kernel
theorem dX2_init_5 : decode cX2_init 5 = .ok (.iconst (-1), 1) := by decide +kernel
theorem dX2_init_6 : decode cX2_init 6 = .ok (.putfield 9, 3) := by decide +kernel
theorem dX2_init_9 : decode cX2_init 9 = .ok (.aload_n 0, 1) := by decide +kernel
theorem dX2_init_10 : decode cX2_init 10 = .ok (.bipush 6, 2) := by decide +kernel
theorem dX2_init_12 : decode cX2_init 12 = .ok (.newarray .int, 2) := by decide +kernel
theorem dX2_init_14 : decode cX2_init 14 = .ok (.putfield 15, 3) := by decide +kernel
theorem dX2_init_17 : decode cX2_init 17 = .ok (.return_, 1) := by decide +kernel
theorem dX2_begin_0 : decode cX2_begin 0 = .ok (.aload_n 0, 1) := by decide +kernel
theorem dX2_begin_1 : decode cX2_begin 1 = .ok (.iload_n 1, 1) := by decide +kernel
theorem dX2_begin_2 : decode cX2_begin 2 = .ok (.putfield 9, 3) := by decide +kernel
theorem dX2_begin_5 : decode cX2_begin 5 = .ok (.aload_n 0, 1) := by decide +kernel
theorem dX2_begin_6 : decode cX2_begin 6 = .ok (.iload_n 2, 1) := by decide +kernel
theorem dX2_begin_7 : decode cX2_begin 7 = .ok (.putfield 19, 3) := by decide +kernel
theorem dX2_begin_10 : decode cX2_begin 10 = .ok (.aload_n 0, 1) := by decide +kernel
theorem dX2_begin_11 : decode cX2_begin 11 = .ok (.iconst 0, 1) := by decide +kernel
theorem dX2_begin_12 : decode cX2_begin 12 = .ok (.putfield 22, 3) := by decide +kernel
theorem dX2_begin_15 : decode cX2_begin 15 = .ok (.aload_n 0, 1) := by decide +kernel
theorem dX2_begin_16 : decode cX2_begin 16 = .ok (.getfield 15, 3) := by decide +kernel
theorem dX2_begin_19 : decode cX2_begin 19 = .ok (.iconst (-1), 1) := by decide +kernel
theorem dX2_begin_20 : decode cX2_begin 20 = .ok (.invokestatic 25, 3) := by decide +kernel
theorem dX2_begin_23 : decode cX2_begin 23 = .ok (.return_, 1) := by decide +kernel
theorem dX2_become_0 : decode cX2_become 0 = .ok (.aload_n 0, 1) := by decide +kernel
theorem dX2_become_1 : decode cX2_become 1 = .ok (.aload_n 1, 1) := by decide +kernel
theorem dX2_become_2 : decode cX2_become 2 = .ok (.getfield 9, 3) := by decide +kernel
theorem dX2_become_5 : decode cX2_become 5 = .ok (.putfield 9, 3) := by decide +kernel
theorem dX2_become_8 : decode cX2_become 8 = .ok (.aload_n 0, 1) := by decide +kernel
theorem dX2_become_9 : decode cX2_become 9 = .ok (.aload_n 1, 1) := by decide +kernel
theorem dX2_become_10 : decode cX2_become 10 = .ok (.getfield 19, 3) := by decide +kernel
theorem dX2_become_13 : decode cX2_become 13 = .ok (.putfield 19, 3) := by decide +kernel
theorem dX2_become_16 : decode cX2_become 16 = .ok (.aload_n 0, 1) := by decide +kernel
theorem dX2_become_17 : decode cX2_become 17 = .ok (.aload_n 1, 1) := by decide +kernel
theorem dX2_become_18 : decode cX2_become 18 = .ok (.getfield 22, 3) := by decide +kernel
theorem dX2_become_21 : decode cX2_become 21 = .ok (.putfield 22, 3) := by decide +kernel
theorem dX2_become_24 : decode cX2_become 24 = .ok (.aload_n 1, 1) := by decide +kernel
theorem dX2_become_25 : decode cX2_become 25 = .ok (.getfield 15, 3) := by decide +kernel
theorem dX2_become_28 : decode cX2_become 28 = .ok (.iconst 0, 1) := by decide +kernel
theorem dX2_become_29 : decode cX2_become 29 = .ok (.aload_n 0, 1) := by decide +kernel
theorem dX2_become_30 : decode cX2_become 30 = .ok (.getfield 15, 3) := by decide +kernel
theorem dX2_become_33 : decode cX2_become 33 = .ok (.iconst 0, 1) := by decide +kernel
theorem dX2_become_34 : decode cX2_become 34 = .ok (.bipush 6, 2) := by decide +kernel
theorem dX2_become_36 : decode cX2_become 36 = .ok (.invokestatic 31, 3) := by decide +kernel
theorem dX2_become_39 : decode cX2_become 39 = .ok (.return_, 1) := by decide +kernel
theorem dX2_fill_0 : decode cX2_fill 0 = .ok (.iload_n 1, 1) := by decide +kernel
theorem dX2_fill_1 : decode cX2_fill 1 = .ok (.bipush 6, 2) := by decide +kernel
theorem dX2_fill_3 : decode cX2_fill 3 = .ok (.invokestatic 37, 3) := by decide +kernel
theorem dX2_fill_6 : decode cX2_fill 6 = .ok (.ifCond .eq 10, 3) := by decide +kernel
theorem dX2_fill_9 : decode cX2_fill 9 = .ok (.aload_n 0, 1) := by decide +kernel
theorem dX2_fill_10 : decode cX2_fill 10 = .ok (.getfield 15, 3) := by decide +kernel
theorem dX2_fill_13 : decode cX2_fill 13 = .ok (.iload_n 1, 1) := by decide +kernel
theorem dX2_fill_14 : decode cX2_fill 14 = .ok (.iload_n 2, 1) := by decide +kernel
theorem dX2_fill_15 : decode cX2_fill 15 = .ok (.iastore, 1) := by decide +kernel
theorem dX2_fill_16 : decode cX2_fill 16 = .ok (.return_, 1) := by decide +kernel
theorem dX2_wordIn_0 : decode cX2_wordIn 0 = .ok (.iload_n 1, 1) := by decide +kernel
theorem dX2_wordIn_1 : decode cX2_wordIn 1 = .ok (.bipush 6, 2) := by decide +kernel
theorem dX2_wordIn_3 : decode cX2_wordIn 3 = .ok (.invokestatic 37, 3) := by decide +kernel
theorem dX2_wordIn_6 : decode cX2_wordIn 6 = .ok (.ifCond .eq 12, 3) := by decide +kernel
theorem dX2_wordIn_9 : decode cX2_wordIn 9 = .ok (.aload_n 0, 1) := by decide +kernel
theorem dX2_wordIn_10 : decode cX2_wordIn 10 = .ok (.getfield 15, 3) := by decide +kernel
theorem dX2_wordIn_13 : decode cX2_wordIn 13 = .ok (.iload_n 1, 1) := by decide +kernel
theorem dX2_wordIn_14 : decode cX2_wordIn 14 = .ok (.iaload, 1) := by decide +kernel
theorem dX2_wordIn_15 : decode cX2_wordIn 15 = .ok (.goto 4, 3) := by decide +kernel
theorem dX2_wordIn_18 : decode cX2_wordIn 18 = .ok (.iconst (-1), 1) := by decide +kernel
theorem dX2_wordIn_19 : decode cX2_wordIn 19 = .ok (.ireturn, 1) := by decide +kernel
theorem dX3_init_0 : decode cX3_init 0 = .ok (.aload_n 0, 1) := by decide +kernel
theorem dX3_init_1 : decode cX3_init 1 = .ok (.invokespecial 3, 3) := by decide +kernel
theorem dX3_init_4 : decode cX3_init 4 = .ok (.aload_n 0, 1) := by decide +kernel
theorem dX3_init_5 : decode cX3_init 5 = .ok (.bipush 6, 2) := by decide +kernel
theorem dX3_init_7 : decode cX3_init 7 = .ok (.newarray .int, 2) := by decide +kernel
theorem dX3_init_9 : decode cX3_init 9 = .ok (.putfield 9, 3) := by decide +kernel
theorem dX3_init_12 : decode cX3_init 12 = .ok (.aload_n 0, 1) := by decide +kernel
theorem dX3_init_13 : decode cX3_init 13 = .ok (.bipush 6, 2) := by decide +kernel
theorem dX3_init_15 : decode cX3_init 15 = .ok (.newarray .int, 2) := by decide +kernel
theorem dX3_init_17 : decode cX3_init 17 = .ok (.putfield 15, 3) := by decide +kernel
theorem dX3_init_20 : decode cX3_init 20 = .ok (.aload_n 0, 1) := by decide +kernel
theorem dX3_init_21 : decode cX3_init 21 = .ok (.bipush 6, 2) := by decide +kernel
theorem dX3_init_23 : decode cX3_init 23 = .ok (.newarray .int, 2) := by decide +kernel
theorem dX3_init_25 : decode cX3_init 25 = .ok (.putfield 18, 3) := by decide +kernel
theorem dX3_init_28 : decode cX3_init 28 = .ok (.aload_n 0, 1) := by decide +kernel
theorem dX3_init_29 : decode cX3_init 29 = .ok (.bipush 6, 2) := by decide +kernel
theorem dX3_init_31 : decode cX3_init 31 = .ok (.newarray .int, 2) := by decide +kernel
theorem dX3_init_33 : decode cX3_init 33 = .ok (.putfield 21, 3) := by decide +kernel
theorem dX3_init_36 : decode cX3_init 36 = .ok (.aload_n 0, 1) := by decide +kernel
theorem dX3_init_37 : decode cX3_init 37 = .ok (.iconst 3, 1) := by decide +kernel
theorem dX3_init_38 : decode cX3_init 38 = .ok (.newarray .int, 2) := by decide +kernel
theorem dX3_init_40 : decode cX3_init 40 = .ok (.putfield 24, 3) := by decide +kernel
theorem dX3_init_43 : decode cX3_init 43 = .ok (.return_, 1) := by decide +kernel
theorem dX3_clear_0 : decode cX3_clear 0 = .ok (.aload_n 0, 1) := by decide +kernel
theorem dX3_clear_1 : decode cX3_clear 1 = .ok (.iconst 0, 1) := by decide +kernel
theorem dX3_clear_2 : decode cX3_clear 2 = .ok (.putfield 27, 3) := by decide +kernel
theorem dX3_clear_5 : decode cX3_clear 5 = .ok (.aload_n 0, 1) := by decide +kernel
theorem dX3_clear_6 : decode cX3_clear 6 = .ok (.getfield 24, 3) := by decide +kernel
theorem dX3_clear_9 : decode cX3_clear 9 = .ok (.iconst (-1), 1) := by decide +kernel
theorem dX3_clear_10 : decode cX3_clear 10 = .ok (.invokestatic 31, 3) := by decide +kernel
theorem dX3_clear_13 : decode cX3_clear 13 = .ok (.return_, 1) := by decide +kernel
theorem dX3_add_0 : decode cX3_add 0 = .ok (.aload_n 0, 1) := by decide +kernel
theorem dX3_add_1 : decode cX3_add 1 = .ok (.getfield 27, 3) := by decide +kernel
theorem dX3_add_4 : decode cX3_add 4 = .ok (.bipush 6, 2) := by decide +kernel
theorem dX3_add_6 : decode cX3_add 6 = .ok (.if_icmp .lt 4, 3) := by decide +kernel
theorem dX3_add_9 : decode cX3_add 9 = .ok (.return_, 1) := by decide +kernel
theorem dX3_add_10 : decode cX3_add 10 = .ok (.aload_n 0, 1) := by decide +kernel
theorem dX3_add_11 : decode cX3_add 11 = .ok (.getfield 9, 3) := by decide +kernel
theorem dX3_add_14 : decode cX3_add 14 = .ok (.aload_n 0, 1) := by decide +kernel
theorem dX3_add_15 : decode cX3_add 15 = .ok (.getfield 27, 3) := by decide +kernel
theorem dX3_add_18 : decode cX3_add 18 = .ok (.iload_n 1, 1) := by decide +kernel
theorem dX3_add_19 : decode cX3_add 19 = .ok (.iastore, 1) := by decide +kernel
theorem dX3_add_20 : decode cX3_add 20 = .ok (.aload_n 0, 1) := by decide +kernel
theorem dX3_add_21 : decode cX3_add 21 = .ok (.getfield 15, 3) := by decide +kernel
theorem dX3_add_24 : decode cX3_add 24 = .ok (.aload_n 0, 1) := by decide +kernel
theorem dX3_add_25 : decode cX3_add 25 = .ok (.getfield 27, 3) := by decide +kernel
theorem dX3_add_28 : decode cX3_add 28 = .ok (.iload_n 2, 1) := by decide +kernel
theorem dX3_add_29 : decode cX3_add 29 = .ok (.iastore, 1) := by decide +kernel
theorem dX3_add_30 : decode cX3_add 30 = .ok (.aload_n 0, 1) := by decide +kernel
theorem dX3_add_31 : decode cX3_add 31 = .ok (.getfield 18, 3) := by decide +kernel
theorem dX3_add_34 : decode cX3_add 34 = .ok (.aload_n 0, 1) := by decide +kernel
theorem dX3_add_35 : decode cX3_add 35 = .ok (.getfield 27, 3) := by decide +kernel
theorem dX3_add_38 : decode cX3_add 38 = .ok (.iload_n 3, 1) := by decide +kernel
theorem dX3_add_39 : decode cX3_add 39 = .ok (.iastore, 1) := by decide +kernel
theorem dX3_add_40 : decode cX3_add 40 = .ok (.aload_n 0, 1) := by decide +kernel
theorem dX3_add_41 : decode cX3_add 41 = .ok (.getfield 21, 3) := by decide +kernel
theorem dX3_add_44 : decode cX3_add 44 = .ok (.aload_n 0, 1) := by decide +kernel
theorem dX3_add_45 : decode cX3_add 45 = .ok (.getfield 27, 3) := by decide +kernel
theorem dX3_add_48 : decode cX3_add 48 = .ok (.iload 4, 2) := by decide +kernel
theorem dX3_add_50 : decode cX3_add 50 = .ok (.iastore, 1) := by decide +kernel
theorem dX3_add_51 : decode cX3_add 51 = .ok (.iload_n 1, 1) := by decide +kernel
theorem dX3_add_52 : decode cX3_add 52 = .ok (.ifCond .ne 21, 3) := by decide +kernel
theorem dX3_add_55 : decode cX3_add 55 = .ok (.iload_n 2, 1) := by decide +kernel
theorem dX3_add_56 : decode cX3_add 56 = .ok (.iconst 3, 1) := by decide +kernel
theorem dX3_add_57 : decode cX3_add 57 = .ok (.invokestatic 37, 3) := by decide +kernel
theorem dX3_add_60 : decode cX3_add 60 = .ok (.ifCond .eq 13, 3) := by decide +kernel
theorem dX3_add_63 : decode cX3_add 63 = .ok (.aload_n 0, 1) := by decide +kernel
theorem dX3_add_64 : decode cX3_add 64 = .ok (.getfield 24, 3) := by decide +kernel
theorem dX3_add_67 : decode cX3_add 67 = .ok (.iload_n 2, 1) := by decide +kernel
theorem dX3_add_68 : decode cX3_add 68 = .ok (.aload_n 0, 1) := by decide +kernel
theorem dX3_add_69 : decode cX3_add 69 = .ok (.getfield 27, 3) := by decide +kernel
theorem dX3_add_72 : decode cX3_add 72 = .ok (.iastore, 1) := by decide +kernel
theorem dX3_add_73 : decode cX3_add 73 = .ok (.aload_n 0, 1) := by decide +kernel
theorem dX3_add_74 : decode cX3_add 74 = .ok (.dup, 1) := by decide +kernel
theorem dX3_add_75 : decode cX3_add 75 = .ok (.getfield 27, 3) := by decide +kernel
theorem dX3_add_78 : decode cX3_add 78 = .ok (.iconst 1, 1) := by decide +kernel
theorem dX3_add_79 : decode cX3_add 79 = .ok (.iadd, 1) := by decide +kernel
theorem dX3_add_80 : decode cX3_add 80 = .ok (.putfield 27, 3) := by decide +kernel
theorem dX3_add_83 : decode cX3_add 83 = .ok (.return_, 1) := by decide +kernel
theorem dX3_become_0 : decode cX3_become 0 = .ok (.aload_n 0, 1) := by decide +kernel
theorem dX3_become_1 : decode cX3_become 1 = .ok (.aload_n 1, 1) := by decide +kernel
theorem dX3_become_2 : decode cX3_become 2 = .ok (.getfield 27, 3) := by decide +kernel
theorem dX3_become_5 : decode cX3_become 5 = .ok (.putfield 27, 3) := by decide +kernel
theorem dX3_become_8 : decode cX3_become 8 = .ok (.aload_n 1, 1) := by decide +kernel
theorem dX3_become_9 : decode cX3_become 9 = .ok (.getfield 9, 3) := by decide +kernel
theorem dX3_become_12 : decode cX3_become 12 = .ok (.iconst 0, 1) := by decide +kernel
theorem dX3_become_13 : decode cX3_become 13 = .ok (.aload_n 0, 1) := by decide +kernel
theorem dX3_become_14 : decode cX3_become 14 = .ok (.getfield 9, 3) := by decide +kernel
theorem dX3_become_17 : decode cX3_become 17 = .ok (.iconst 0, 1) := by decide +kernel
theorem dX3_become_18 : decode cX3_become 18 = .ok (.bipush 6, 2) := by decide +kernel
theorem dX3_become_20 : decode cX3_become 20 = .ok (.invokestatic 41, 3) := by decide +kernel
theorem dX3_become_23 : decode cX3_become 23 = .ok (.aload_n 1, 1) := by decide +kernel
theorem dX3_become_24 : decode cX3_become 24 = .ok (.getfield 15, 3) := by decide +kernel
theorem dX3_become_27 : decode cX3_become 27 = .ok (.iconst 0, 1) := by decide +kernel
theorem dX3_become_28 : decode cX3_become 28 = .ok (.aload_n 0, 1) := by decide +kernel
theorem dX3_become_29 : decode cX3_become 29 = .ok (.getfield 15, 3) := by decide +kernel
theorem dX3_become_32 : decode cX3_become 32 = .ok (.iconst 0, 1) := by decide +kernel
theorem dX3_become_33 : decode cX3_become 33 = .ok (.bipush 6, 2) := by decide +kernel
theorem dX3_become_35 : decode cX3_become 35 = .ok (.invokestatic 41, 3) := by decide +kernel
theorem dX3_become_38 : decode cX3_become 38 = .ok (.aload_n 1, 1) := by decide +kernel
theorem dX3_become_39 : decode cX3_become 39 = .ok (.getfield 18, 3) := by decide +kernel
theorem dX3_become_42 : decode cX3_become 42 = .ok (.iconst 0, 1) := by decide +kernel
theorem dX3_become_43 : decode cX3_become 43 = .ok (.aload_n 0, 1) := by decide +kernel
theorem dX3_become_44 : decode cX3_become 44 = .ok (.getfield 18, 3) := by decide +kernel
theorem dX3_become_47 : decode cX3_become 47 = .ok (.iconst 0, 1) := by decide +kernel
theorem dX3_become_48 : decode cX3_become 48 = .ok (.bipush 6, 2) := by decide +kernel
theorem dX3_become_50 : decode cX3_become 50 = .ok (.invokestatic 41, 3) := by decide +kernel
theorem dX3_become_53 : decode cX3_become 53 = .ok (.aload_n 1, 1) := by decide +kernel
theorem dX3_become_54 : decode cX3_become 54 = .ok (.getfield 21, 3) := by decide +kernel
theorem dX3_become_57 : decode cX3_become 57 = .ok (.iconst 0, 1) := by decide +kernel
theorem dX3_become_58 : decode cX3_become 58 = .ok (.aload_n 0, 1) := by decide +kernel
theorem dX3_become_59 : decode cX3_become 59 = .ok (.getfield 21, 3) := by decide +kernel
theorem dX3_become_62 : decode cX3_become 62 = .ok (.iconst 0, 1) := by decide +kernel
theorem dX3_become_63 : decode cX3_become 63 = .ok (.bipush 6, 2) := by decide +kernel
theorem dX3_become_65 : decode cX3_become 65 = .ok (.invokestatic 41, 3) := by decide +kernel
theorem dX3_become_68 : decode cX3_become 68 = .ok (.aload_n 1, 1) := by decide +kernel
theorem dX3_become_69 : decode cX3_become 69 = .ok (.getfield 24, 3) := by decide +kernel
theorem dX3_become_72 : decode cX3_become 72 = .ok (.iconst 0, 1) := by decide +kernel
theorem dX3_become_73 : decode cX3_become 73 = .ok (.aload_n 0, 1) := by decide +kernel
theorem dX3_become_74 : decode cX3_become 74 = .ok (.getfield 24, 3) := by decide +kernel
theorem dX3_become_77 : decode cX3_become 77 = .ok (.iconst 0, 1) := by decide +kernel
theorem dX3_become_78 : decode cX3_become 78 = .ok (.iconst 3, 1) := by decide +kernel
theorem dX3_become_79 : decode cX3_become 79 = .ok (.invokestatic 41, 3) := by decide +kernel
theorem dX3_become_82 : decode cX3_become 82 = .ok (.return_, 1) := by decide +kernel
theorem dX3_has_0 : decode cX3_has 0 = .ok (.iload_n 1, 1) := by decide +kernel
theorem dX3_has_1 : decode cX3_has 1 = .ok (.ifCond .lt 15, 3) := by decide +kernel
theorem dX3_has_4 : decode cX3_has 4 = .ok (.iload_n 1, 1) := by decide +kernel
theorem dX3_has_5 : decode cX3_has 5 = .ok (.aload_n 0, 1) := by decide +kernel
theorem dX3_has_6 : decode cX3_has 6 = .ok (.getfield 27, 3) := by decide +kernel
theorem dX3_has_9 : decode cX3_has 9 = .ok (.if_icmp .ge 7, 3) := by decide +kernel
theorem dX3_has_12 : decode cX3_has 12 = .ok (.iconst 1, 1) := by decide +kernel
theorem dX3_has_13 : decode cX3_has 13 = .ok (.goto 4, 3) := by decide +kernel
theorem dX3_has_16 : decode cX3_has 16 = .ok (.iconst 0, 1) := by decide +kernel
theorem dX3_has_17 : decode cX3_has 17 = .ok (.ireturn, 1) := by decide +kernel
theorem dX3_sortOf_0 : decode cX3_sortOf 0 = .ok (.aload_n 0, 1) := by decide +kernel
theorem dX3_sortOf_1 : decode cX3_sortOf 1 = .ok (.iload_n 1, 1) := by decide +kernel
theorem dX3_sortOf_2 : decode cX3_sortOf 2 = .ok (.invokevirtual 47, 3) := by decide +kernel
theorem dX3_sortOf_5 : decode cX3_sortOf 5 = .ok (.ifCond .eq 12, 3) := by decide +kernel
theorem dX3_sortOf_8 : decode cX3_sortOf 8 = .ok (.aload_n 0, 1) := by decide +kernel
theorem dX3_sortOf_9 : decode cX3_sortOf 9 = .ok (.getfield 9, 3) := by decide +kernel
theorem dX3_sortOf_12 : decode cX3_sortOf 12 = .ok (.iload_n 1, 1) := by decide +kernel
theorem dX3_sortOf_13 : decode cX3_sortOf 13 = .ok (.iaload, 1) := by decide +kernel
theorem dX3_sortOf_14 : decode cX3_sortOf 14 = .ok (.goto 4, 3) := by decide +kernel
theorem dX3_sortOf_17 : decode cX3_sortOf 17 = .ok (.iconst (-1), 1) := by decide +kernel
theorem dX3_sortOf_18 : decode cX3_sortOf 18 = .ok (.ireturn, 1) := by decide +kernel
theorem dX3_groupOf_0 : decode cX3_groupOf 0 = .ok (.aload_n 0, 1) := by decide +kernel
theorem dX3_groupOf_1 : decode cX3_groupOf 1 = .ok (.iload_n 1, 1) := by decide +kernel
theorem dX3_groupOf_2 : decode cX3_groupOf 2 = .ok (.invokevirtual 47, 3) := by decide +kernel
theorem dX3_groupOf_5 : decode cX3_groupOf 5 = .ok (.ifCond .eq 12, 3) := by decide +kernel
theorem dX3_groupOf_8 : decode cX3_groupOf 8 = .ok (.aload_n 0, 1) := by decide +kernel
theorem dX3_groupOf_9 : decode cX3_groupOf 9 = .ok (.getfield 15, 3) := by decide +kernel
theorem dX3_groupOf_12 : decode cX3_groupOf 12 = .ok (.iload_n 1, 1) := by decide +kernel
theorem dX3_groupOf_13 : decode cX3_groupOf 13 = .ok (.iaload, 1) := by decide +kernel
theorem dX3_groupOf_14 : decode cX3_groupOf 14 = .ok (.goto 4, 3) := by decide +kernel
theorem dX3_groupOf_17 : decode cX3_groupOf 17 = .ok (.iconst (-1), 1) := by decide +kernel
theorem dX3_groupOf_18 : decode cX3_groupOf 18 = .ok (.ireturn, 1) := by decide +kernel
theorem dX3_caseOf_0 : decode cX3_caseOf 0 = .ok (.aload_n 0, 1) := by decide +kernel
theorem dX3_caseOf_1 : decode cX3_caseOf 1 = .ok (.iload_n 1, 1) := by decide +kernel
theorem dX3_caseOf_2 : decode cX3_caseOf 2 = .ok (.invokevirtual 47, 3) := by decide +kernel
theorem dX3_caseOf_5 : decode cX3_caseOf 5 = .ok (.ifCond .eq 12, 3) := by decide +kernel
theorem dX3_caseOf_8 : decode cX3_caseOf 8 = .ok (.aload_n 0, 1) := by decide +kernel
theorem dX3_caseOf_9 : decode cX3_caseOf 9 = .ok (.getfield 18, 3) := by decide +kernel
theorem dX3_caseOf_12 : decode cX3_caseOf 12 = .ok (.iload_n 1, 1) := by decide +kernel
theorem dX3_caseOf_13 : decode cX3_caseOf 13 = .ok (.iaload, 1) := by decide +kernel
theorem dX3_caseOf_14 : decode cX3_caseOf 14 = .ok (.goto 4, 3) := by decide +kernel
theorem dX3_caseOf_17 : decode cX3_caseOf 17 = .ok (.iconst (-1), 1) := by decide +kernel
theorem dX3_caseOf_18 : decode cX3_caseOf 18 = .ok (.ireturn, 1) := by decide +kernel
theorem dX3_plainOf_0 : decode cX3_plainOf 0 = .ok (.aload_n 0, 1) := by decide +kernel
theorem dX3_plainOf_1 : decode cX3_plainOf 1 = .ok (.iload_n 1, 1) := by decide +kernel
theorem dX3_plainOf_2 : decode cX3_plainOf 2 = .ok (.invokevirtual 47, 3) := by decide +kernel
theorem dX3_plainOf_5 : decode cX3_plainOf 5 = .ok (.ifCond .eq 12, 3) := by decide +kernel
theorem dX3_plainOf_8 : decode cX3_plainOf 8 = .ok (.aload_n 0, 1) := by decide +kernel
theorem dX3_plainOf_9 : decode cX3_plainOf 9 = .ok (.getfield 21, 3) := by decide +kernel
theorem dX3_plainOf_12 : decode cX3_plainOf 12 = .ok (.iload_n 1, 1) := by decide +kernel
theorem dX3_plainOf_13 : decode cX3_plainOf 13 = .ok (.iaload, 1) := by decide +kernel
theorem dX3_plainOf_14 : decode cX3_plainOf 14 = .ok (.goto 4, 3) := by decide +kernel
theorem dX3_plainOf_17 : decode cX3_plainOf 17 = .ok (.iconst (-1), 1) := by decide +kernel
theorem dX3_plainOf_18 : decode cX3_plainOf 18 = .ok (.ireturn, 1) := by decide +kernel
theorem dX3_nounOf_0 : decode cX3_nounOf 0 = .ok (.iload_n 1, 1) := by decide +kernel
theorem dX3_nounOf_1 : decode cX3_nounOf 1 = .ok (.iconst 3, 1) := by decide +kernel
theorem dX3_nounOf_2 : decode cX3_nounOf 2 = .ok (.invokestatic 37, 3) := by decide +kernel
theorem dX3_nounOf_5 : decode cX3_nounOf 5 = .ok (.ifCond .eq 12, 3) := by decide +kernel
theorem dX3_nounOf_8 : decode cX3_nounOf 8 = .ok (.aload_n 0, 1) := by decide +kernel
theorem dX3_nounOf_9 : decode cX3_nounOf 9 = .ok (.getfield 24, 3) := by decide +kernel
theorem dX3_nounOf_12 : decode cX3_nounOf 12 = .ok (.iload_n 1, 1) := by decide +kernel
theorem dX3_nounOf_13 : decode cX3_nounOf 13 = .ok (.iaload, 1) := by decide +kernel
theorem dX3_nounOf_14 : decode cX3_nounOf 14 = .ok (.goto 4, 3) := by decide +kernel
theorem dX3_nounOf_17 : decode cX3_nounOf 17 = .ok (.iconst (-1), 1) := by decide +kernel
theorem dX3_nounOf_18 : decode cX3_nounOf 18 = .ok (.ireturn, 1) := by decide +kernel
theorem dX3_isWhole_0 : decode cX3_isWhole 0 = .ok (.iconst 0, 1) := by decide +kernel
theorem dX3_isWhole_1 : decode cX3_isWhole 1 = .ok (.istore_n 1, 1) := by decide +kernel
theorem dX3_isWhole_2 : decode cX3_isWhole 2 = .ok (.iload_n 1, 1) := by decide +kernel
theorem dX3_isWhole_3 : decode cX3_isWhole 3 = .ok (.aload_n 0, 1) := by decide +kernel
theorem dX3_isWhole_4 : decode cX3_isWhole 4 = .ok (.getfield 27, 3) := by decide +kernel
theorem dX3_isWhole_7 : decode cX3_isWhole 7 = .ok (.if_icmp .ge 33, 3) := by decide +kernel
theorem dX3_isWhole_10 : decode cX3_isWhole 10 = .ok (.aload_n 0, 1) := by decide +kernel
theorem dX3_isWhole_11 : decode cX3_isWhole 11 = .ok (.iload_n 1, 1) := by decide +kernel
theorem dX3_isWhole_12 : decode cX3_isWhole 12 = .ok (.invokevirtual 51, 3) := by decide +kernel
theorem dX3_isWhole_15 : decode cX3_isWhole 15 = .ok (.iconst (-1), 1) := by decide +kernel
theorem dX3_isWhole_16 : decode cX3_isWhole 16 = .ok (.if_icmp .eq 18, 3) := by decide +kernel
theorem dX3_isWhole_19 : decode cX3_isWhole 19 = .ok (.aload_n 0, 1) := by decide +kernel
theorem dX3_isWhole_20 : decode cX3_isWhole 20 = .ok (.aload_n 0, 1) := by decide +kernel
theorem dX3_isWhole_21 : decode cX3_isWhole 21 = .ok (.iload_n 1, 1) := by decide +kernel
theorem dX3_isWhole_22 : decode cX3_isWhole 22 = .ok (.invokevirtual 51, 3) := by decide +kernel
theorem dX3_isWhole_25 : decode cX3_isWhole 25 = .ok (.invokevirtual 55, 3) := by decide +kernel
theorem dX3_isWhole_28 : decode cX3_isWhole 28 = .ok (.iconst (-1), 1) := by decide +kernel
theorem dX3_isWhole_29 : decode cX3_isWhole 29 = .ok (.if_icmp .ne 5, 3) := by decide +kernel
theorem dX3_isWhole_32 : decode cX3_isWhole 32 = .ok (.iconst 0, 1) := by decide +kernel
theorem dX3_isWhole_33 : decode cX3_isWhole 33 = .ok (.ireturn, 1) := by decide +kernel
theorem dX3_isWhole_34 : decode cX3_isWhole 34 = .ok (.iinc 1 1, 3) := by decide +kernel
theorem dX3_isWhole_37 : decode cX3_isWhole 37 = .ok (.goto (-35), 3) := by decide +kernel
theorem dX3_isWhole_40 : decode cX3_isWhole 40 = .ok (.aload_n 0, 1) := by decide +kernel
theorem dX3_isWhole_41 : decode cX3_isWhole 41 = .ok (.getfield 27, 3) := by decide +kernel
theorem dX3_isWhole_44 : decode cX3_isWhole 44 = .ok (.ifCond .le 7, 3) := by decide +kernel
theorem dX3_isWhole_47 : decode cX3_isWhole 47 = .ok (.iconst 1, 1) := by decide +kernel
theorem dX3_isWhole_48 : decode cX3_isWhole 48 = .ok (.goto 4, 3) := by decide +kernel
theorem dX3_isWhole_51 : decode cX3_isWhole 51 = .ok (.iconst 0, 1) := by decide +kernel
theorem dX3_isWhole_52 : decode cX3_isWhole 52 = .ok (.ireturn, 1) := by decide +kernel
theorem dX3_takes_0 : decode cX3_takes 0 = .ok (.aload_n 0, 1) := by decide +kernel
theorem dX3_takes_1 : decode cX3_takes 1 = .ok (.iload_n 1, 1) := by decide +kernel
theorem dX3_takes_2 : decode cX3_takes 2 = .ok (.invokevirtual 47, 3) := by decide +kernel
theorem dX3_takes_5 : decode cX3_takes 5 = .ok (.ifCond .ne 5, 3) := by decide +kernel
theorem dX3_takes_8 : decode cX3_takes 8 = .ok (.iconst 0, 1) := by decide +kernel
theorem dX3_takes_9 : decode cX3_takes 9 = .ok (.ireturn, 1) := by decide +kernel
theorem dX3_takes_10 : decode cX3_takes 10 = .ok (.aload_n 0, 1) := by decide +kernel
theorem dX3_takes_11 : decode cX3_takes 11 = .ok (.getfield 9, 3) := by decide +kernel
theorem dX3_takes_14 : decode cX3_takes 14 = .ok (.iload_n 1, 1) := by decide +kernel
theorem dX3_takes_15 : decode cX3_takes 15 = .ok (.iaload, 1) := by decide +kernel
theorem dX3_takes_16 : decode cX3_takes 16 = .ok (.tableswitch 109 0 3 #[32, 54, 76, 90], 32) := by decide +kernel
theorem dX3_takes_48 : decode cX3_takes 48 = .ok (.aload_n 2, 1) := by decide +kernel
theorem dX3_takes_49 : decode cX3_takes 49 = .ok (.getfield 58, 3) := by decide +kernel
theorem dX3_takes_52 : decode cX3_takes 52 = .ok (.iconst 1, 1) := by decide +kernel
theorem dX3_takes_53 : decode cX3_takes 53 = .ok (.if_icmp .eq 11, 3) := by decide +kernel
theorem dX3_takes_56 : decode cX3_takes 56 = .ok (.aload_n 2, 1) := by decide +kernel
theorem dX3_takes_57 : decode cX3_takes 57 = .ok (.getfield 58, 3) := by decide +kernel
theorem dX3_takes_60 : decode cX3_takes 60 = .ok (.iconst 3, 1) := by decide +kernel
theorem dX3_takes_61 : decode cX3_takes 61 = .ok (.if_icmp .ne 7, 3) := by decide +kernel
theorem dX3_takes_64 : decode cX3_takes 64 = .ok (.iconst 1, 1) := by decide +kernel
theorem dX3_takes_65 : decode cX3_takes 65 = .ok (.goto 4, 3) := by decide +kernel
theorem dX3_takes_68 : decode cX3_takes 68 = .ok (.iconst 0, 1) := by decide +kernel
theorem dX3_takes_69 : decode cX3_takes 69 = .ok (.ireturn, 1) := by decide +kernel
theorem dX3_takes_70 : decode cX3_takes 70 = .ok (.aload_n 2, 1) := by decide +kernel
theorem dX3_takes_71 : decode cX3_takes 71 = .ok (.getfield 58, 3) := by decide +kernel
theorem dX3_takes_74 : decode cX3_takes 74 = .ok (.iconst 2, 1) := by decide +kernel
theorem dX3_takes_75 : decode cX3_takes 75 = .ok (.if_icmp .eq 11, 3) := by decide +kernel
theorem dX3_takes_78 : decode cX3_takes 78 = .ok (.aload_n 2, 1) := by decide +kernel
theorem dX3_takes_79 : decode cX3_takes 79 = .ok (.getfield 58, 3) := by decide +kernel
theorem dX3_takes_82 : decode cX3_takes 82 = .ok (.iconst 5, 1) := by decide +kernel
theorem dX3_takes_83 : decode cX3_takes 83 = .ok (.if_icmp .ne 7, 3) := by decide +kernel
theorem dX3_takes_86 : decode cX3_takes 86 = .ok (.iconst 1, 1) := by decide +kernel
theorem dX3_takes_87 : decode cX3_takes 87 = .ok (.goto 4, 3) := by decide +kernel
theorem dX3_takes_90 : decode cX3_takes 90 = .ok (.iconst 0, 1) := by decide +kernel
theorem dX3_takes_91 : decode cX3_takes 91 = .ok (.ireturn, 1) := by decide +kernel
theorem dX3_takes_92 : decode cX3_takes 92 = .ok (.aload_n 2, 1) := by decide +kernel
theorem dX3_takes_93 : decode cX3_takes 93 = .ok (.getfield 58, 3) := by decide +kernel
theorem dX3_takes_96 : decode cX3_takes 96 = .ok (.iconst 4, 1) := by decide +kernel
theorem dX3_takes_97 : decode cX3_takes 97 = .ok (.if_icmp .ne 7, 3) := by decide +kernel
theorem dX3_takes_100 : decode cX3_takes 100 = .ok (.iconst 1, 1) := by decide +kernel
theorem dX3_takes_101 : decode cX3_takes 101 = .ok (.goto 4, 3) := by decide +kernel
theorem dX3_takes_104 : decode cX3_takes 104 = .ok (.iconst 0, 1) := by decide +kernel
theorem dX3_takes_105 : decode cX3_takes 105 = .ok (.ireturn, 1) := by decide +kernel
theorem dX3_takes_106 : decode cX3_takes 106 = .ok (.aload_n 2, 1) := by decide +kernel
theorem dX3_takes_107 : decode cX3_takes 107 = .ok (.getfield 63, 3) := by decide +kernel
theorem dX3_takes_110 : decode cX3_takes 110 = .ok (.aload_n 0, 1) := by decide +kernel
theorem dX3_takes_111 : decode cX3_takes 111 = .ok (.getfield 21, 3) := by decide +kernel
theorem dX3_takes_114 : decode cX3_takes 114 = .ok (.iload_n 1, 1) := by decide +kernel
theorem dX3_takes_115 : decode cX3_takes 115 = .ok (.iaload, 1) := by decide +kernel
theorem dX3_takes_116 : decode cX3_takes 116 = .ok (.if_icmp .ne 7, 3) := by decide +kernel
theorem dX3_takes_119 : decode cX3_takes 119 = .ok (.iconst 1, 1) := by decide +kernel
theorem dX3_takes_120 : decode cX3_takes 120 = .ok (.goto 4, 3) := by decide +kernel
theorem dX3_takes_123 : decode cX3_takes 123 = .ok (.iconst 0, 1) := by decide +kernel
theorem dX3_takes_124 : decode cX3_takes 124 = .ok (.ireturn, 1) := by decide +kernel
theorem dX3_takes_125 : decode cX3_takes 125 = .ok (.iconst 0, 1) := by decide +kernel
theorem dX3_takes_126 : decode cX3_takes 126 = .ok (.ireturn, 1) := by decide +kernel
theorem dX4_init_0 : decode cX4_init 0 = .ok (.aload_n 0, 1) := by decide +kernel
theorem dX4_init_1 : decode cX4_init 1 = .ok (.invokespecial 3, 3) := by decide +kernel
theorem dX4_init_4 : decode cX4_init 4 = .ok (.aload_n 0, 1) := by decide +kernel
theorem dX4_init_5 : decode cX4_init 5 = .ok (.new 9, 3) := by decide +kernel
theorem dX4_init_8 : decode cX4_init 8 = .ok (.dup, 1) := by decide +kernel
theorem dX4_init_9 : decode cX4_init 9 = .ok (.invokespecial 11, 3) := by decide +kernel
theorem dX4_init_12 : decode cX4_init 12 = .ok (.putfield 12, 3) := by decide +kernel
theorem dX4_init_15 : decode cX4_init 15 = .ok (.return_, 1) := by decide +kernel
theorem dX4_read_0 : decode cX4_read 0 = .ok (.aload_n 0, 1) := by decide +kernel
theorem dX4_read_1 : decode cX4_read 1 = .ok (.getfield 12, 3) := by decide +kernel
theorem dX4_read_4 : decode cX4_read 4 = .ok (.invokevirtual 18, 3) := by decide +kernel
theorem dX4_read_7 : decode cX4_read 7 = .ok (.aload_n 0, 1) := by decide +kernel
theorem dX4_read_8 : decode cX4_read 8 = .ok (.iconst 0, 1) := by decide +kernel
theorem dX4_read_9 : decode cX4_read 9 = .ok (.putfield 21, 3) := by decide +kernel
theorem dX4_read_12 : decode cX4_read 12 = .ok (.aload_n 0, 1) := by decide +kernel
theorem dX4_read_13 : decode cX4_read 13 = .ok (.aload_n 2, 1) := by decide +kernel
theorem dX4_read_14 : decode cX4_read 14 = .ok (.invokevirtual 25, 3) := by decide +kernel
theorem dX4_read_17 : decode cX4_read 17 = .ok (.iconst 0, 1) := by decide +kernel
theorem dX4_read_18 : decode cX4_read 18 = .ok (.istore_n 3, 1) := by decide +kernel
theorem dX4_read_19 : decode cX4_read 19 = .ok (.iload_n 3, 1) := by decide +kernel
theorem dX4_read_20 : decode cX4_read 20 = .ok (.bipush 6, 2) := by decide +kernel
theorem dX4_read_22 : decode cX4_read 22 = .ok (.if_icmp .gt 39, 3) := by decide +kernel
theorem dX4_read_25 : decode cX4_read 25 = .ok (.aload_n 0, 1) := by decide +kernel
theorem dX4_read_26 : decode cX4_read 26 = .ok (.getfield 21, 3) := by decide +kernel
theorem dX4_read_29 : decode cX4_read 29 = .ok (.aload_n 2, 1) := by decide +kernel
theorem dX4_read_30 : decode cX4_read 30 = .ok (.getfield 29, 3) := by decide +kernel
theorem dX4_read_33 : decode cX4_read 33 = .ok (.if_icmp .ge 28, 3) := by decide +kernel
theorem dX4_read_36 : decode cX4_read 36 = .ok (.aload_n 0, 1) := by decide +kernel
theorem dX4_read_37 : decode cX4_read 37 = .ok (.aload_n 1, 1) := by decide +kernel
theorem dX4_read_38 : decode cX4_read 38 = .ok (.aload_n 2, 1) := by decide +kernel
theorem dX4_read_39 : decode cX4_read 39 = .ok (.invokevirtual 34, 3) := by decide +kernel
theorem dX4_read_42 : decode cX4_read 42 = .ok (.ifCond .ne 8, 3) := by decide +kernel
theorem dX4_read_45 : decode cX4_read 45 = .ok (.aload_n 0, 1) := by decide +kernel
theorem dX4_read_46 : decode cX4_read 46 = .ok (.getfield 21, 3) := by decide +kernel
theorem dX4_read_49 : decode cX4_read 49 = .ok (.ireturn, 1) := by decide +kernel
theorem dX4_read_50 : decode cX4_read 50 = .ok (.aload_n 0, 1) := by decide +kernel
theorem dX4_read_51 : decode cX4_read 51 = .ok (.aload_n 2, 1) := by decide +kernel
theorem dX4_read_52 : decode cX4_read 52 = .ok (.invokevirtual 25, 3) := by decide +kernel
theorem dX4_read_55 : decode cX4_read 55 = .ok (.iinc 3 1, 3) := by decide +kernel
theorem dX4_read_58 : decode cX4_read 58 = .ok (.goto (-39), 3) := by decide +kernel
theorem dX4_read_61 : decode cX4_read 61 = .ok (.aload_n 0, 1) := by decide +kernel
theorem dX4_read_62 : decode cX4_read 62 = .ok (.getfield 12, 3) := by decide +kernel
theorem dX4_read_65 : decode cX4_read 65 = .ok (.invokevirtual 38, 3) := by decide +kernel
theorem dX4_read_68 : decode cX4_read 68 = .ok (.ifCond .eq 7, 3) := by decide +kernel
theorem dX4_read_71 : decode cX4_read 71 = .ok (.iconst (-1), 1) := by decide +kernel
theorem dX4_read_72 : decode cX4_read 72 = .ok (.goto 7, 3) := by decide +kernel
theorem dX4_read_75 : decode cX4_read 75 = .ok (.aload_n 2, 1) := by decide +kernel
theorem dX4_read_76 : decode cX4_read 76 = .ok (.getfield 29, 3) := by decide +kernel
theorem dX4_read_79 : decode cX4_read 79 = .ok (.ireturn, 1) := by decide +kernel
theorem dX4_skipBlanks_0 : decode cX4_skipBlanks 0 = .ok (.aload_n 0, 1) := by decide +kernel
theorem dX4_skipBlanks_1 : decode cX4_skipBlanks 1 = .ok (.getfield 21, 3) := by decide +kernel
theorem dX4_skipBlanks_4 : decode cX4_skipBlanks 4 = .ok (.istore_n 2, 1) := by decide +kernel
theorem dX4_skipBlanks_5 : decode cX4_skipBlanks 5 = .ok (.iload_n 2, 1) := by decide +kernel
theorem dX4_skipBlanks_6 : decode cX4_skipBlanks 6 = .ok (.aload_n 1, 1) := by decide +kernel
theorem dX4_skipBlanks_7 : decode cX4_skipBlanks 7 = .ok (.getfield 29, 3) := by decide +kernel
theorem dX4_skipBlanks_10 : decode cX4_skipBlanks 10 = .ok (.if_icmp .ge 36, 3) := by decide +kernel
theorem dX4_skipBlanks_13 : decode cX4_skipBlanks 13 = .ok (.aload_n 1, 1) := by decide +kernel
theorem dX4_skipBlanks_14 : decode cX4_skipBlanks 14 = .ok (.iload_n 2, 1) := by decide +kernel
theorem dX4_skipBlanks_15 : decode cX4_skipBlanks 15 = .ok (.invokevirtual 42, 3) := by decide +kernel
theorem dX4_skipBlanks_18 : decode cX4_skipBlanks 18 = .ok (.bipush 32, 2) := by decide +kernel
theorem dX4_skipBlanks_20 : decode cX4_skipBlanks 20 = .ok (.if_icmp .eq 13, 3) := by decide +kernel
theorem dX4_skipBlanks_23 : decode cX4_skipBlanks 23 = .ok (.aload_n 1, 1) := by decide +kernel
theorem dX4_skipBlanks_24 : decode cX4_skipBlanks 24 = .ok (.iload_n 2, 1) := by decide +kernel
theorem dX4_skipBlanks_25 : decode cX4_skipBlanks 25 = .ok (.invokevirtual 42, 3) := by decide +kernel
theorem dX4_skipBlanks_28 : decode cX4_skipBlanks 28 = .ok (.bipush 10, 2) := by decide +kernel
theorem dX4_skipBlanks_30 : decode cX4_skipBlanks 30 = .ok (.if_icmp .ne 16, 3) := by decide +kernel
theorem dX4_skipBlanks_33 : decode cX4_skipBlanks 33 = .ok (.aload_n 0, 1) := by decide +kernel
theorem dX4_skipBlanks_34 : decode cX4_skipBlanks 34 = .ok (.iload_n 2, 1) := by decide +kernel
theorem dX4_skipBlanks_35 : decode cX4_skipBlanks 35 = .ok (.iconst 1, 1) := by decide +kernel
theorem dX4_skipBlanks_36 : decode cX4_skipBlanks 36 = .ok (.iadd, 1) := by decide +kernel
theorem dX4_skipBlanks_37 : decode cX4_skipBlanks 37 = .ok (.putfield 21, 3) := by decide +kernel
theorem dX4_skipBlanks_40 : decode cX4_skipBlanks 40 = .ok (.iinc 2 1, 3) := by decide +kernel
theorem dX4_skipBlanks_43 : decode cX4_skipBlanks 43 = .ok (.goto (-38), 3) := by decide +kernel
theorem dX4_skipBlanks_46 : decode cX4_skipBlanks 46 = .ok (.return_, 1) := by decide +kernel
theorem dX4_readHole_0 : decode cX4_readHole 0 = .ok (.aload_n 2, 1) := by decide +kernel
theorem dX4_readHole_1 : decode cX4_readHole 1 = .ok (.aload_n 0, 1) := by decide +kernel
theorem dX4_readHole_2 : decode cX4_readHole 2 = .ok (.getfield 21, 3) := by decide +kernel
theorem dX4_readHole_5 : decode cX4_readHole 5 = .ok (.invokevirtual 42, 3) := by decide +kernel
theorem dX4_readHole_8 : decode cX4_readHole 8 = .ok (.invokestatic 46, 3) := by decide +kernel
theorem dX4_readHole_11 : decode cX4_readHole 11 = .ok (.istore_n 3, 1) := by decide +kernel
theorem dX4_readHole_12 : decode cX4_readHole 12 = .ok (.iload_n 3, 1) := by decide +kernel
theorem dX4_readHole_13 : decode cX4_readHole 13 = .ok (.iconst (-1), 1) := by decide +kernel
theorem dX4_readHole_14 : decode cX4_readHole 14 = .ok (.if_icmp .eq 15, 3) := by decide +kernel
theorem dX4_readHole_17 : decode cX4_readHole 17 = .ok (.aload_n 0, 1) := by decide +kernel
theorem dX4_readHole_18 : decode cX4_readHole 18 = .ok (.getfield 12, 3) := by decide +kernel
theorem dX4_readHole_21 : decode cX4_readHole 21 = .ok (.getfield 49, 3) := by decide +kernel
theorem dX4_readHole_24 : decode cX4_readHole 24 = .ok (.bipush 6, 2) := by decide +kernel
theorem dX4_readHole_26 : decode cX4_readHole 26 = .ok (.if_icmp .lt 5, 3) := by decide +kernel
theorem dX4_readHole_29 : decode cX4_readHole 29 = .ok (.iconst 0, 1) := by decide +kernel
theorem dX4_readHole_30 : decode cX4_readHole 30 = .ok (.ireturn, 1) := by decide +kernel
theorem dX4_readHole_31 : decode cX4_readHole 31 = .ok (.aload_n 0, 1) := by decide +kernel
theorem dX4_readHole_32 : decode cX4_readHole 32 = .ok (.dup, 1) := by decide +kernel
theorem dX4_readHole_33 : decode cX4_readHole 33 = .ok (.getfield 21, 3) := by decide +kernel
theorem dX4_readHole_36 : decode cX4_readHole 36 = .ok (.iconst 1, 1) := by decide +kernel
theorem dX4_readHole_37 : decode cX4_readHole 37 = .ok (.iadd, 1) := by decide +kernel
theorem dX4_readHole_38 : decode cX4_readHole 38 = .ok (.putfield 21, 3) := by decide +kernel
theorem dX4_readHole_41 : decode cX4_readHole 41 = .ok (.iload_n 3, 1) := by decide +kernel
theorem dX4_readHole_42 : decode cX4_readHole 42 = .ok (.iconst 3, 1) := by decide +kernel
theorem dX4_readHole_43 : decode cX4_readHole 43 = .ok (.if_icmp .ne 12, 3) := by decide +kernel
theorem dX4_readHole_46 : decode cX4_readHole 46 = .ok (.aload_n 0, 1) := by decide +kernel
theorem dX4_readHole_47 : decode cX4_readHole 47 = .ok (.aload_n 1, 1) := by decide +kernel
theorem dX4_readHole_48 : decode cX4_readHole 48 = .ok (.aload_n 2, 1) := by decide +kernel
theorem dX4_readHole_49 : decode cX4_readHole 49 = .ok (.invokevirtual 50, 3) := by decide +kernel
theorem dX4_readHole_52 : decode cX4_readHole 52 = .ok (.goto 9, 3) := by decide +kernel
theorem dX4_readHole_55 : decode cX4_readHole 55 = .ok (.aload_n 0, 1) := by decide +kernel
theorem dX4_readHole_56 : decode cX4_readHole 56 = .ok (.iload_n 3, 1) := by decide +kernel
theorem dX4_readHole_57 : decode cX4_readHole 57 = .ok (.aload_n 2, 1) := by decide +kernel
theorem dX4_readHole_58 : decode cX4_readHole 58 = .ok (.invokevirtual 53, 3) := by decide +kernel
theorem dX4_readHole_61 : decode cX4_readHole 61 = .ok (.ireturn, 1) := by decide +kernel
theorem dX4_readGrouped_0 : decode cX4_readGrouped 0 = .ok (.aload_n 2, 1) := by decide +kernel
theorem dX4_readGrouped_1 : decode cX4_readGrouped 1 = .ok (.aload_n 0, 1) := by decide +kernel
theorem dX4_readGrouped_2 : decode cX4_readGrouped 2 = .ok (.getfield 21, 3) := by decide +kernel
theorem dX4_readGrouped_5 : decode cX4_readGrouped 5 = .ok (.iconst 3, 1) := by decide +kernel
theorem dX4_readGrouped_6 : decode cX4_readGrouped 6 = .ok (.invokestatic 57, 3) := by decide +kernel
theorem dX4_readGrouped_9 : decode cX4_readGrouped 9 = .ok (.istore_n 3, 1) := by decide +kernel
theorem dX4_readGrouped_10 : decode cX4_readGrouped 10 = .ok (.iload_n 3, 1) := by decide +kernel
theorem dX4_readGrouped_11 : decode cX4_readGrouped 11 = .ok (.iconst (-1), 1) := by decide +kernel
theorem dX4_readGrouped_12 : decode cX4_readGrouped 12 = .ok (.if_icmp .eq 19, 3) := by decide +kernel
theorem dX4_readGrouped_15 : decode cX4_readGrouped 15 = .ok (.iload_n 1, 1) := by decide +kernel
theorem dX4_readGrouped_16 : decode cX4_readGrouped 16 = .ok (.ifCond .ne 17, 3) := by decide +kernel
theorem dX4_readGrouped_19 : decode cX4_readGrouped 19 = .ok (.aload_n 0, 1) := by decide +kernel
theorem dX4_readGrouped_20 : decode cX4_readGrouped 20 = .ok (.getfield 12, 3) := by decide +kernel
theorem dX4_readGrouped_23 : decode cX4_readGrouped 23 = .ok (.iload_n 3, 1) := by decide +kernel
theorem dX4_readGrouped_24 : decode cX4_readGrouped 24 = .ok (.invokevirtual 61, 3) := by decide +kernel
theorem dX4_readGrouped_27 : decode cX4_readGrouped 27 = .ok (.iconst (-1), 1) := by decide +kernel
theorem dX4_readGrouped_28 : decode cX4_readGrouped 28 = .ok (.if_icmp .eq 5, 3) := by decide +kernel
theorem dX4_readGrouped_31 : decode cX4_readGrouped 31 = .ok (.iconst 0, 1) := by decide +kernel
theorem dX4_readGrouped_32 : decode cX4_readGrouped 32 = .ok (.ireturn, 1) := by decide +kernel
theorem dX4_readGrouped_33 : decode cX4_readGrouped 33 = .ok (.aload_n 0, 1) := by decide +kernel
theorem dX4_readGrouped_34 : decode cX4_readGrouped 34 = .ok (.dup, 1) := by decide +kernel
theorem dX4_readGrouped_35 : decode cX4_readGrouped 35 = .ok (.getfield 21, 3) := by decide +kernel
theorem dX4_readGrouped_38 : decode cX4_readGrouped 38 = .ok (.iconst 1, 1) := by decide +kernel
theorem dX4_readGrouped_39 : decode cX4_readGrouped 39 = .ok (.iadd, 1) := by decide +kernel
theorem dX4_readGrouped_40 : decode cX4_readGrouped 40 = .ok (.putfield 21, 3) := by decide +kernel
theorem dX4_readGrouped_43 : decode cX4_readGrouped 43 = .ok (.iconst (-1), 1) := by decide +kernel
theorem dX4_readGrouped_44 : decode cX4_readGrouped 44 = .ok (.istore 4, 2) := by decide +kernel
theorem dX4_readGrouped_46 : decode cX4_readGrouped 46 = .ok (.iload_n 1, 1) := by decide +kernel
theorem dX4_readGrouped_47 : decode cX4_readGrouped 47 = .ok (.iconst 1, 1) := by decide +kernel
theorem dX4_readGrouped_48 : decode cX4_readGrouped 48 = .ok (.if_icmp .eq 32, 3) := by decide +kernel
theorem dX4_readGrouped_51 : decode cX4_readGrouped 51 = .ok (.aload_n 2, 1) := by decide +kernel
theorem dX4_readGrouped_52 : decode cX4_readGrouped 52 = .ok (.aload_n 0, 1) := by decide +kernel
theorem dX4_readGrouped_53 : decode cX4_readGrouped 53 = .ok (.getfield 21, 3) := by decide +kernel
theorem dX4_readGrouped_56 : decode cX4_readGrouped 56 = .ok (.iconst 4, 1) := by decide +kernel
theorem dX4_readGrouped_57 : decode cX4_readGrouped 57 = .ok (.invokestatic 57, 3) := by decide +kernel
theorem dX4_readGrouped_60 : decode cX4_readGrouped 60 = .ok (.istore 4, 2) := by decide +kernel
theorem dX4_readGrouped_62 : decode cX4_readGrouped 62 = .ok (.iload 4, 2) := by decide +kernel
theorem dX4_readGrouped_64 : decode cX4_readGrouped 64 = .ok (.iconst (-1), 1) := by decide +kernel
theorem dX4_readGrouped_65 : decode cX4_readGrouped 65 = .ok (.if_icmp .ne 5, 3) := by decide +kernel
theorem dX4_readGrouped_68 : decode cX4_readGrouped 68 = .ok (.iconst 0, 1) := by decide +kernel
theorem dX4_readGrouped_69 : decode cX4_readGrouped 69 = .ok (.ireturn, 1) := by decide +kernel
theorem dX4_readGrouped_70 : decode cX4_readGrouped 70 = .ok (.aload_n 0, 1) := by decide +kernel
theorem dX4_readGrouped_71 : decode cX4_readGrouped 71 = .ok (.dup, 1) := by decide +kernel
theorem dX4_readGrouped_72 : decode cX4_readGrouped 72 = .ok (.getfield 21, 3) := by decide +kernel
theorem dX4_readGrouped_75 : decode cX4_readGrouped 75 = .ok (.iconst 1, 1) := by decide +kernel
theorem dX4_readGrouped_76 : decode cX4_readGrouped 76 = .ok (.iadd, 1) := by decide +kernel
theorem dX4_readGrouped_77 : decode cX4_readGrouped 77 = .ok (.putfield 21, 3) := by decide +kernel
theorem dX4_readGrouped_80 : decode cX4_readGrouped 80 = .ok (.aload_n 0, 1) := by decide +kernel
theorem dX4_readGrouped_81 : decode cX4_readGrouped 81 = .ok (.getfield 12, 3) := by decide +kernel
theorem dX4_readGrouped_84 : decode cX4_readGrouped 84 = .ok (.iload_n 1, 1) := by decide +kernel
theorem dX4_readGrouped_85 : decode cX4_readGrouped 85 = .ok (.iload_n 3, 1) := by decide +kernel
theorem dX4_readGrouped_86 : decode cX4_readGrouped 86 = .ok (.iload 4, 2) := by decide +kernel
theorem dX4_readGrouped_88 : decode cX4_readGrouped 88 = .ok (.iconst (-1), 1) := by decide +kernel
theorem dX4_readGrouped_89 : decode cX4_readGrouped 89 = .ok (.invokevirtual 64, 3) := by decide +kernel
theorem dX4_readGrouped_92 : decode cX4_readGrouped 92 = .ok (.iconst 1, 1) := by decide +kernel
theorem dX4_readGrouped_93 : decode cX4_readGrouped 93 = .ok (.ireturn, 1) := by decide +kernel
theorem dX4_readPlain_0 : decode cX4_readPlain 0 = .ok (.aload_n 2, 1) := by decide +kernel
theorem dX4_readPlain_1 : decode cX4_readPlain 1 = .ok (.aload_n 0, 1) := by decide +kernel
theorem dX4_readPlain_2 : decode cX4_readPlain 2 = .ok (.getfield 21, 3) := by decide +kernel
theorem dX4_readPlain_5 : decode cX4_readPlain 5 = .ok (.bipush 10, 2) := by decide +kernel
theorem dX4_readPlain_7 : decode cX4_readPlain 7 = .ok (.invokestatic 57, 3) := by decide +kernel
theorem dX4_readPlain_10 : decode cX4_readPlain 10 = .ok (.istore_n 3, 1) := by decide +kernel
theorem dX4_readPlain_11 : decode cX4_readPlain 11 = .ok (.aload_n 2, 1) := by decide +kernel
theorem dX4_readPlain_12 : decode cX4_readPlain 12 = .ok (.aload_n 0, 1) := by decide +kernel
theorem dX4_readPlain_13 : decode cX4_readPlain 13 = .ok (.getfield 21, 3) := by decide +kernel
theorem dX4_readPlain_16 : decode cX4_readPlain 16 = .ok (.iconst 1, 1) := by decide +kernel
theorem dX4_readPlain_17 : decode cX4_readPlain 17 = .ok (.iadd, 1) := by decide +kernel
theorem dX4_readPlain_18 : decode cX4_readPlain 18 = .ok (.bipush 10, 2) := by decide +kernel
theorem dX4_readPlain_20 : decode cX4_readPlain 20 = .ok (.invokestatic 57, 3) := by decide +kernel
theorem dX4_readPlain_23 : decode cX4_readPlain 23 = .ok (.istore 4, 2) := by decide +kernel
theorem dX4_readPlain_25 : decode cX4_readPlain 25 = .ok (.iload 4, 2) := by decide +kernel
theorem dX4_readPlain_27 : decode cX4_readPlain 27 = .ok (.iconst (-1), 1) := by decide +kernel
theorem dX4_readPlain_28 : decode cX4_readPlain 28 = .ok (.if_icmp .ne 7, 3) := by decide +kernel
theorem dX4_readPlain_31 : decode cX4_readPlain 31 = .ok (.iload_n 3, 1) := by decide +kernel
theorem dX4_readPlain_32 : decode cX4_readPlain 32 = .ok (.goto 10, 3) := by decide +kernel
theorem dX4_readPlain_35 : decode cX4_readPlain 35 = .ok (.bipush 10, 2) := by decide +kernel
theorem dX4_readPlain_37 : decode cX4_readPlain 37 = .ok (.iload_n 3, 1) := by decide +kernel
theorem dX4_readPlain_38 : decode cX4_readPlain 38 = .ok (.imul, 1) := by decide +kernel
theorem dX4_readPlain_39 : decode cX4_readPlain 39 = .ok (.iload 4, 2) := by decide +kernel
theorem dX4_readPlain_41 : decode cX4_readPlain 41 = .ok (.iadd, 1) := by decide +kernel
theorem dX4_readPlain_42 : decode cX4_readPlain 42 = .ok (.istore 5, 2) := by decide +kernel
theorem dX4_readPlain_44 : decode cX4_readPlain 44 = .ok (.aload_n 1, 1) := by decide +kernel
theorem dX4_readPlain_45 : decode cX4_readPlain 45 = .ok (.iload 5, 2) := by decide +kernel
theorem dX4_readPlain_47 : decode cX4_readPlain 47 = .ok (.invokevirtual 68, 3) := by decide +kernel
theorem dX4_readPlain_50 : decode cX4_readPlain 50 = .ok (.astore 6, 2) := by decide +kernel
theorem dX4_readPlain_52 : decode cX4_readPlain 52 = .ok (.iload_n 3, 1) := by decide +kernel
theorem dX4_readPlain_53 : decode cX4_readPlain 53 = .ok (.iconst (-1), 1) := by decide +kernel
theorem dX4_readPlain_54 : decode cX4_readPlain 54 = .ok (.if_icmp .eq 16, 3) := by decide +kernel
theorem dX4_readPlain_57 : decode cX4_readPlain 57 = .ok (.aload 6, 2) := by decide +kernel
theorem dX4_readPlain_59 : decode cX4_readPlain 59 = .ok (.ifnull 11, 3) := by decide +kernel
theorem dX4_readPlain_62 : decode cX4_readPlain 62 = .ok (.aload 6, 2) := by decide +kernel
theorem dX4_readPlain_64 : decode cX4_readPlain 64 = .ok (.getfield 74, 3) := by decide +kernel
theorem dX4_readPlain_67 : decode cX4_readPlain 67 = .ok (.ifCond .eq 5, 3) := by decide +kernel
theorem dX4_readPlain_70 : decode cX4_readPlain 70 = .ok (.iconst 0, 1) := by decide +kernel
theorem dX4_readPlain_71 : decode cX4_readPlain 71 = .ok (.ireturn, 1) := by decide +kernel
theorem dX4_readPlain_72 : decode cX4_readPlain 72 = .ok (.aload_n 0, 1) := by decide +kernel
theorem dX4_readPlain_73 : decode cX4_readPlain 73 = .ok (.dup, 1) := by decide +kernel
theorem dX4_readPlain_74 : decode cX4_readPlain 74 = .ok (.getfield 21, 3) := by decide +kernel
theorem dX4_readPlain_77 : decode cX4_readPlain 77 = .ok (.iload 4, 2) := by decide +kernel
theorem dX4_readPlain_79 : decode cX4_readPlain 79 = .ok (.iconst (-1), 1) := by decide +kernel
theorem dX4_readPlain_80 : decode cX4_readPlain 80 = .ok (.if_icmp .ne 7, 3) := by decide +kernel
theorem dX4_readPlain_83 : decode cX4_readPlain 83 = .ok (.iconst 1, 1) := by decide +kernel
theorem dX4_readPlain_84 : decode cX4_readPlain 84 = .ok (.goto 4, 3) := by decide +kernel
theorem dX4_readPlain_87 : decode cX4_readPlain 87 = .ok (.iconst 2, 1) := by decide +kernel
theorem dX4_readPlain_88 : decode cX4_readPlain 88 = .ok (.iadd, 1) := by decide +kernel
theorem dX4_readPlain_89 : decode cX4_readPlain 89 = .ok (.putfield 21, 3) := by decide +kernel
theorem dX4_readPlain_92 : decode cX4_readPlain 92 = .ok (.aload_n 0, 1) := by decide +kernel
theorem dX4_readPlain_93 : decode cX4_readPlain 93 = .ok (.getfield 12, 3) := by decide +kernel
theorem dX4_readPlain_96 : decode cX4_readPlain 96 = .ok (.iconst 3, 1) := by decide +kernel
theorem dX4_readPlain_97 : decode cX4_readPlain 97 = .ok (.iconst (-1), 1) := by decide +kernel
theorem dX4_readPlain_98 : decode cX4_readPlain 98 = .ok (.iconst (-1), 1) := by decide +kernel
theorem dX4_readPlain_99 : decode cX4_readPlain 99 = .ok (.iload 5, 2) := by decide +kernel
theorem dX4_readPlain_101 : decode cX4_readPlain 101 = .ok (.invokevirtual 64, 3) := by decide +kernel
theorem dX4_readPlain_104 : decode cX4_readPlain 104 = .ok (.iconst 1, 1) := by decide +kernel
theorem dX4_readPlain_105 : decode cX4_readPlain 105 = .ok (.ireturn, 1) := by decide +kernel
theorem dX4_sortBy_0 : decode cX4_sortBy 0 = .ok (.iload_n 0, 1) := by decide +kernel
theorem dX4_sortBy_1 : decode cX4_sortBy 1 = .ok (.lookupswitch 51 #[(102, 47), (110, 43), (112, 49), (118, 45)], 43) := by decide +kernel
theorem dX4_sortBy_44 : decode cX4_sortBy 44 = .ok (.iconst 0, 1) := by decide +kernel
theorem dX4_sortBy_45 : decode cX4_sortBy 45 = .ok (.ireturn, 1) := by decide +kernel
theorem dX4_sortBy_46 : decode cX4_sortBy 46 = .ok (.iconst 1, 1) := by decide +kernel
theorem dX4_sortBy_47 : decode cX4_sortBy 47 = .ok (.ireturn, 1) := by decide +kernel
theorem dX4_sortBy_48 : decode cX4_sortBy 48 = .ok (.iconst 2, 1) := by decide +kernel
theorem dX4_sortBy_49 : decode cX4_sortBy 49 = .ok (.ireturn, 1) := by decide +kernel
theorem dX4_sortBy_50 : decode cX4_sortBy 50 = .ok (.iconst 3, 1) := by decide +kernel
theorem dX4_sortBy_51 : decode cX4_sortBy 51 = .ok (.ireturn, 1) := by decide +kernel
theorem dX4_sortBy_52 : decode cX4_sortBy 52 = .ok (.iconst (-1), 1) := by decide +kernel
theorem dX4_sortBy_53 : decode cX4_sortBy 53 = .ok (.ireturn, 1) := by decide +kernel
theorem dX4_digit_0 : decode cX4_digit 0 = .ok (.aload_n 0, 1) := by decide +kernel
theorem dX4_digit_1 : decode cX4_digit 1 = .ok (.iload_n 1, 1) := by decide +kernel
theorem dX4_digit_2 : decode cX4_digit 2 = .ok (.invokevirtual 42, 3) := by decide +kernel
theorem dX4_digit_5 : decode cX4_digit 5 = .ok (.bipush 48, 2) := by decide +kernel
theorem dX4_digit_7 : decode cX4_digit 7 = .ok (.isub, 1) := by decide +kernel
theorem dX4_digit_8 : decode cX4_digit 8 = .ok (.istore_n 3, 1) := by decide +kernel
theorem dX4_digit_9 : decode cX4_digit 9 = .ok (.iload_n 3, 1) := by decide +kernel
theorem dX4_digit_10 : decode cX4_digit 10 = .ok (.iload_n 2, 1) := by decide +kernel
theorem dX4_digit_11 : decode cX4_digit 11 = .ok (.invokestatic 79, 3) := by decide +kernel
theorem dX4_digit_14 : decode cX4_digit 14 = .ok (.ifCond .eq 7, 3) := by decide +kernel
theorem dX4_digit_17 : decode cX4_digit 17 = .ok (.iload_n 3, 1) := by decide +kernel
theorem dX4_digit_18 : decode cX4_digit 18 = .ok (.goto 4, 3) := by decide +kernel
theorem dX4_digit_21 : decode cX4_digit 21 = .ok (.iconst (-1), 1) := by decide +kernel
theorem dX4_digit_22 : decode cX4_digit 22 = .ok (.ireturn, 1) := by decide +kernel
theorem dX5_init_0 : decode cX5_init 0 = .ok (.aload_n 0, 1) := by decide +kernel
theorem dX5_init_1 : decode cX5_init 1 = .ok (.invokespecial 3, 3) := by decide +kernel
theorem dX5_init_4 : decode cX5_init 4 = .ok (.aload_n 0, 1) := by decide +kernel
theorem dX5_init_5 : decode cX5_init 5 = .ok (.iload_n 1, 1) := by decide +kernel
theorem dX5_init_6 : decode cX5_init 6 = .ok (.iconst 0, 1) := by decide +kernel
theorem dX5_init_7 : decode cX5_init 7 = .ok (.invokestatic 9, 3) := by decide +kernel
theorem dX5_init_10 : decode cX5_init 10 = .ok (.newarray .byte, 2) := by decide +kernel
theorem dX5_init_12 : decode cX5_init 12 = .ok (.putfield 15, 3) := by decide +kernel
theorem dX5_init_15 : decode cX5_init 15 = .ok (.return_, 1) := by decide +kernel
theorem dX5_isLetter_0 : decode cX5_isLetter 0 = .ok (.iload_n 0, 1) := by decide +kernel
theorem dX5_isLetter_1 : decode cX5_isLetter 1 = .ok (.bipush 97, 2) := by decide +kernel
theorem dX5_isLetter_3 : decode cX5_isLetter 3 = .ok (.if_icmp .lt 13, 3) := by decide +kernel
theorem dX5_isLetter_6 : decode cX5_isLetter 6 = .ok (.iload_n 0, 1) := by decide +kernel
theorem dX5_isLetter_7 : decode cX5_isLetter 7 = .ok (.bipush 122, 2) := by decide +kernel
theorem dX5_isLetter_9 : decode cX5_isLetter 9 = .ok (.if_icmp .gt 7, 3) := by decide +kernel
theorem dX5_isLetter_12 : decode cX5_isLetter 12 = .ok (.iconst 1, 1) := by decide +kernel
theorem dX5_isLetter_13 : decode cX5_isLetter 13 = .ok (.goto 4, 3) := by decide +kernel
theorem dX5_isLetter_16 : decode cX5_isLetter 16 = .ok (.iconst 0, 1) := by decide +kernel
theorem dX5_isLetter_17 : decode cX5_isLetter 17 = .ok (.ireturn, 1) := by decide +kernel
theorem dX5_isVowel_0 : decode cX5_isVowel 0 = .ok (.iload_n 0, 1) := by decide +kernel
theorem dX5_isVowel_1 : decode cX5_isVowel 1 = .ok (.bipush 97, 2) := by decide +kernel
theorem dX5_isVowel_3 : decode cX5_isVowel 3 = .ok (.if_icmp .eq 27, 3) := by decide +kernel
theorem dX5_isVowel_6 : decode cX5_isVowel 6 = .ok (.iload_n 0, 1) := by decide +kernel
theorem dX5_isVowel_7 : decode cX5_isVowel 7 = .ok (.bipush 101, 2) := by decide +kernel
theorem dX5_isVowel_9 : decode cX5_isVowel 9 = .ok (.if_icmp .eq 21, 3) := by decide +kernel
theorem dX5_isVowel_12 : decode cX5_isVowel 12 = .ok (.iload_n 0, 1) := by decide +kernel
theorem dX5_isVowel_13 : decode cX5_isVowel 13 = .ok (.bipush 105, 2) := by decide +kernel
theorem dX5_isVowel_15 : decode cX5_isVowel 15 = .ok (.if_icmp .eq 15, 3) := by decide +kernel
theorem dX5_isVowel_18 : decode cX5_isVowel 18 = .ok (.iload_n 0, 1) := by decide +kernel
theorem dX5_isVowel_19 : decode cX5_isVowel 19 = .ok (.bipush 111, 2) := by decide +kernel
theorem dX5_isVowel_21 : decode cX5_isVowel 21 = .ok (.if_icmp .eq 9, 3) := by decide +kernel
theorem dX5_isVowel_24 : decode cX5_isVowel 24 = .ok (.iload_n 0, 1) := by decide +kernel
theorem dX5_isVowel_25 : decode cX5_isVowel 25 = .ok (.bipush 117, 2) := by decide +kernel
theorem dX5_isVowel_27 : decode cX5_isVowel 27 = .ok (.if_icmp .ne 7, 3) := by decide +kernel
theorem dX5_isVowel_30 : decode cX5_isVowel 30 = .ok (.iconst 1, 1) := by decide +kernel
theorem dX5_isVowel_31 : decode cX5_isVowel 31 = .ok (.goto 4, 3) := by decide +kernel
theorem dX5_isVowel_34 : decode cX5_isVowel 34 = .ok (.iconst 0, 1) := by decide +kernel
theorem dX5_isVowel_35 : decode cX5_isVowel 35 = .ok (.ireturn, 1) := by decide +kernel
theorem dX5_at_0 : decode cX5_at 0 = .ok (.iload_n 1, 1) := by decide +kernel
theorem dX5_at_1 : decode cX5_at 1 = .ok (.ifCond .lt 24, 3) := by decide +kernel
theorem dX5_at_4 : decode cX5_at 4 = .ok (.iload_n 1, 1) := by decide +kernel
theorem dX5_at_5 : decode cX5_at 5 = .ok (.aload_n 0, 1) := by decide +kernel
theorem dX5_at_6 : decode cX5_at 6 = .ok (.getfield 21, 3) := by decide +kernel
theorem dX5_at_9 : decode cX5_at 9 = .ok (.if_icmp .ge 16, 3) := by decide +kernel
theorem dX5_at_12 : decode cX5_at 12 = .ok (.aload_n 0, 1) := by decide +kernel
theorem dX5_at_13 : decode cX5_at 13 = .ok (.getfield 15, 3) := by decide +kernel
theorem dX5_at_16 : decode cX5_at 16 = .ok (.iload_n 1, 1) := by decide +kernel
theorem dX5_at_17 : decode cX5_at 17 = .ok (.baload, 1) := by decide +kernel
theorem dX5_at_18 : decode cX5_at 18 = .ok (.sipush 255, 3) := by decide +kernel
theorem dX5_at_21 : decode cX5_at 21 = .ok (.iand, 1) := by decide +kernel
theorem dX5_at_22 : decode cX5_at 22 = .ok (.goto 4, 3) := by decide +kernel
theorem dX5_at_25 : decode cX5_at 25 = .ok (.iconst (-1), 1) := by decide +kernel
theorem dX5_at_26 : decode cX5_at 26 = .ok (.ireturn, 1) := by decide +kernel
theorem dX5_clear_0 : decode cX5_clear 0 = .ok (.aload_n 0, 1) := by decide +kernel
theorem dX5_clear_1 : decode cX5_clear 1 = .ok (.iconst 0, 1) := by decide +kernel
theorem dX5_clear_2 : decode cX5_clear 2 = .ok (.putfield 21, 3) := by decide +kernel
theorem dX5_clear_5 : decode cX5_clear 5 = .ok (.return_, 1) := by decide +kernel
theorem dX5_add_0 : decode cX5_add 0 = .ok (.aload_n 0, 1) := by decide +kernel
theorem dX5_add_1 : decode cX5_add 1 = .ok (.getfield 21, 3) := by decide +kernel
theorem dX5_add_4 : decode cX5_add 4 = .ok (.aload_n 0, 1) := by decide +kernel
theorem dX5_add_5 : decode cX5_add 5 = .ok (.getfield 15, 3) := by decide +kernel
theorem dX5_add_8 : decode cX5_add 8 = .ok (.arraylength, 1) := by decide +kernel
theorem dX5_add_9 : decode cX5_add 9 = .ok (.if_icmp .ge 24, 3) := by decide +kernel
theorem dX5_add_12 : decode cX5_add 12 = .ok (.aload_n 0, 1) := by decide +kernel
theorem dX5_add_13 : decode cX5_add 13 = .ok (.getfield 15, 3) := by decide +kernel
theorem dX5_add_16 : decode cX5_add 16 = .ok (.aload_n 0, 1) := by decide +kernel
theorem dX5_add_17 : decode cX5_add 17 = .ok (.getfield 21, 3) := by decide +kernel
theorem dX5_add_20 : decode cX5_add 20 = .ok (.iload_n 1, 1) := by decide +kernel
theorem dX5_add_21 : decode cX5_add 21 = .ok (.i2b, 1) := by decide +kernel
theorem dX5_add_22 : decode cX5_add 22 = .ok (.bastore, 1) := by decide +kernel
theorem dX5_add_23 : decode cX5_add 23 = .ok (.aload_n 0, 1) := by decide +kernel
theorem dX5_add_24 : decode cX5_add 24 = .ok (.dup, 1) := by decide +kernel
theorem dX5_add_25 : decode cX5_add 25 = .ok (.getfield 21, 3) := by decide +kernel
theorem dX5_add_28 : decode cX5_add 28 = .ok (.iconst 1, 1) := by decide +kernel
theorem dX5_add_29 : decode cX5_add 29 = .ok (.iadd, 1) := by decide +kernel
theorem dX5_add_30 : decode cX5_add 30 = .ok (.putfield 21, 3) := by decide +kernel
theorem dX5_add_33 : decode cX5_add 33 = .ok (.return_, 1) := by decide +kernel
theorem dX5_become_0 : decode cX5_become 0 = .ok (.aload_n 0, 1) := by decide +kernel
theorem dX5_become_1 : decode cX5_become 1 = .ok (.aload_n 1, 1) := by decide +kernel
theorem dX5_become_2 : decode cX5_become 2 = .ok (.getfield 21, 3) := by decide +kernel
theorem dX5_become_5 : decode cX5_become 5 = .ok (.aload_n 0, 1) := by decide +kernel
theorem dX5_become_6 : decode cX5_become 6 = .ok (.getfield 15, 3) := by decide +kernel
theorem dX5_become_9 : decode cX5_become 9 = .ok (.arraylength, 1) := by decide +kernel
theorem dX5_become_10 : decode cX5_become 10 = .ok (.invokestatic 25, 3) := by decide +kernel
theorem dX5_become_13 : decode cX5_become 13 = .ok (.putfield 21, 3) := by decide +kernel
theorem dX5_become_16 : decode cX5_become 16 = .ok (.aload_n 1, 1) := by decide +kernel
theorem dX5_become_17 : decode cX5_become 17 = .ok (.getfield 15, 3) := by decide +kernel
theorem dX5_become_20 : decode cX5_become 20 = .ok (.iconst 0, 1) := by decide +kernel
theorem dX5_become_21 : decode cX5_become 21 = .ok (.aload_n 0, 1) := by decide +kernel
theorem dX5_become_22 : decode cX5_become 22 = .ok (.getfield 15, 3) := by decide +kernel
theorem dX5_become_25 : decode cX5_become 25 = .ok (.iconst 0, 1) := by decide +kernel
theorem dX5_become_26 : decode cX5_become 26 = .ok (.aload_n 0, 1) := by decide +kernel
theorem dX5_become_27 : decode cX5_become 27 = .ok (.getfield 21, 3) := by decide +kernel
theorem dX5_become_30 : decode cX5_become 30 = .ok (.invokestatic 28, 3) := by decide +kernel
theorem dX5_become_33 : decode cX5_become 33 = .ok (.return_, 1) := by decide +kernel
theorem dX5_join_0 : decode cX5_join 0 = .ok (.aload_n 0, 1) := by decide +kernel
theorem dX5_join_1 : decode cX5_join 1 = .ok (.aload_n 0, 1) := by decide +kernel
theorem dX5_join_2 : decode cX5_join 2 = .ok (.getfield 21, 3) := by decide +kernel
theorem dX5_join_5 : decode cX5_join 5 = .ok (.iconst 1, 1) := by decide +kernel
theorem dX5_join_6 : decode cX5_join 6 = .ok (.isub, 1) := by decide +kernel
theorem dX5_join_7 : decode cX5_join 7 = .ok (.invokevirtual 34, 3) := by decide +kernel
theorem dX5_join_10 : decode cX5_join 10 = .ok (.invokestatic 38, 3) := by decide +kernel
theorem dX5_join_13 : decode cX5_join 13 = .ok (.ifCond .eq 24, 3) := by decide +kernel
theorem dX5_join_16 : decode cX5_join 16 = .ok (.aload_n 1, 1) := by decide +kernel
theorem dX5_join_17 : decode cX5_join 17 = .ok (.iconst 0, 1) := by decide +kernel
theorem dX5_join_18 : decode cX5_join 18 = .ok (.invokevirtual 34, 3) := by decide +kernel
theorem dX5_join_21 : decode cX5_join 21 = .ok (.invokestatic 38, 3) := by decide +kernel
theorem dX5_join_24 : decode cX5_join 24 = .ok (.ifCond .eq 13, 3) := by decide +kernel
theorem dX5_join_27 : decode cX5_join 27 = .ok (.aload_n 0, 1) := by decide +kernel
theorem dX5_join_28 : decode cX5_join 28 = .ok (.dup, 1) := by decide +kernel
theorem dX5_join_29 : decode cX5_join 29 = .ok (.getfield 21, 3) := by decide +kernel
theorem dX5_join_32 : decode cX5_join 32 = .ok (.iconst 1, 1) := by decide +kernel
theorem dX5_join_33 : decode cX5_join 33 = .ok (.isub, 1) := by decide +kernel
theorem dX5_join_34 : decode cX5_join 34 = .ok (.putfield 21, 3) := by decide +kernel
theorem dX5_join_37 : decode cX5_join 37 = .ok (.iconst 0, 1) := by decide +kernel
theorem dX5_join_38 : decode cX5_join 38 = .ok (.istore_n 2, 1) := by decide +kernel
theorem dX5_join_39 : decode cX5_join 39 = .ok (.iload_n 2, 1) := by decide +kernel
theorem dX5_join_40 : decode cX5_join 40 = .ok (.aload_n 1, 1) := by decide +kernel
theorem dX5_join_41 : decode cX5_join 41 = .ok (.getfield 21, 3) := by decide +kernel
theorem dX5_join_44 : decode cX5_join 44 = .ok (.if_icmp .ge 18, 3) := by decide +kernel
theorem dX5_join_47 : decode cX5_join 47 = .ok (.aload_n 0, 1) := by decide +kernel
theorem dX5_join_48 : decode cX5_join 48 = .ok (.aload_n 1, 1) := by decide +kernel
theorem dX5_join_49 : decode cX5_join 49 = .ok (.iload_n 2, 1) := by decide +kernel
theorem dX5_join_50 : decode cX5_join 50 = .ok (.invokevirtual 34, 3) := by decide +kernel
theorem dX5_join_53 : decode cX5_join 53 = .ok (.invokevirtual 42, 3) := by decide +kernel
theorem dX5_join_56 : decode cX5_join 56 = .ok (.iinc 2 1, 3) := by decide +kernel
theorem dX5_join_59 : decode cX5_join 59 = .ok (.goto (-20), 3) := by decide +kernel
theorem dX5_join_62 : decode cX5_join 62 = .ok (.return_, 1) := by decide +kernel
theorem dX5_isAllLetters_0 : decode cX5_isAllLetters 0 = .ok (.iconst 0, 1) := by decide +kernel
theorem dX5_isAllLetters_1 : decode cX5_isAllLetters 1 = .ok (.istore_n 1, 1) := by decide +kernel
theorem dX5_isAllLetters_2 : decode cX5_isAllLetters 2 = .ok (.iload_n 1, 1) := by decide +kernel
theorem dX5_isAllLetters_3 : decode cX5_isAllLetters 3 = .ok (.aload_n 0, 1) := by decide +kernel
theorem dX5_isAllLetters_4 : decode cX5_isAllLetters 4 = .ok (.getfield 21, 3) := by decide +kernel
theorem dX5_isAllLetters_7 : decode cX5_isAllLetters 7 = .ok (.if_icmp .ge 22, 3) := by decide +kernel
theorem dX5_isAllLetters_10 : decode cX5_isAllLetters 10 = .ok (.aload_n 0, 1) := by decide +kernel
theorem dX5_isAllLetters_11 : decode cX5_isAllLetters 11 = .ok (.iload_n 1, 1) := by decide +kernel
theorem dX5_isAllLetters_12 : decode cX5_isAllLetters 12 = .ok (.invokevirtual 34, 3) := by decide +kernel
theorem dX5_isAllLetters_15 : decode cX5_isAllLetters 15 = .ok (.invokestatic 46, 3) := by decide +kernel
theorem dX5_isAllLetters_18 : decode cX5_isAllLetters 18 = .ok (.ifCond .ne 5, 3) := by decide +kernel
theorem dX5_isAllLetters_21 : decode cX5_isAllLetters 21 = .ok (.iconst 0, 1) := by decide +kernel
theorem dX5_isAllLetters_22 : decode cX5_isAllLetters 22 = .ok (.ireturn, 1) := by decide +kernel
theorem dX5_isAllLetters_23 : decode cX5_isAllLetters 23 = .ok (.iinc 1 1, 3) := by decide +kernel
theorem dX5_isAllLetters_26 : decode cX5_isAllLetters 26 = .ok (.goto (-24), 3) := by decide +kernel
theorem dX5_isAllLetters_29 : decode cX5_isAllLetters 29 = .ok (.iconst 1, 1) := by decide +kernel
theorem dX5_isAllLetters_30 : decode cX5_isAllLetters 30 = .ok (.ireturn, 1) := by decide +kernel
theorem dX5_isAllWords_0 : decode cX5_isAllWords 0 = .ok (.iconst 0, 1) := by decide +kernel
theorem dX5_isAllWords_1 : decode cX5_isAllWords 1 = .ok (.istore_n 1, 1) := by decide +kernel
theorem dX5_isAllWords_2 : decode cX5_isAllWords 2 = .ok (.iload_n 1, 1) := by decide +kernel
theorem dX5_isAllWords_3 : decode cX5_isAllWords 3 = .ok (.aload_n 0, 1) := by decide +kernel
theorem dX5_isAllWords_4 : decode cX5_isAllWords 4 = .ok (.getfield 21, 3) := by decide +kernel
theorem dX5_isAllWords_7 : decode cX5_isAllWords 7 = .ok (.if_icmp .ge 55, 3) := by decide +kernel
theorem dX5_isAllWords_10 : decode cX5_isAllWords 10 = .ok (.aload_n 0, 1) := by decide +kernel
theorem dX5_isAllWords_11 : decode cX5_isAllWords 11 = .ok (.iload_n 1, 1) := by decide +kernel
theorem dX5_isAllWords_12 : decode cX5_isAllWords 12 = .ok (.invokevirtual 34, 3) := by decide +kernel
theorem dX5_isAllWords_15 : decode cX5_isAllWords 15 = .ok (.bipush 32, 2) := by decide +kernel
theorem dX5_isAllWords_17 : decode cX5_isAllWords 17 = .ok (.if_icmp .ne 20, 3) := by decide +kernel
theorem dX5_isAllWords_20 : decode cX5_isAllWords 20 = .ok (.aload_n 0, 1) := by decide +kernel
theorem dX5_isAllWords_21 : decode cX5_isAllWords 21 = .ok (.iload_n 1, 1) := by decide +kernel
theorem dX5_isAllWords_22 : decode cX5_isAllWords 22 = .ok (.iconst 1, 1) := by decide +kernel
theorem dX5_isAllWords_23 : decode cX5_isAllWords 23 = .ok (.isub, 1) := by decide +kernel
theorem dX5_isAllWords_24 : decode cX5_isAllWords 24 = .ok (.invokevirtual 34, 3) := by decide +kernel
theorem dX5_isAllWords_27 : decode cX5_isAllWords 27 = .ok (.invokestatic 46, 3) := by decide +kernel
theorem dX5_isAllWords_30 : decode cX5_isAllWords 30 = .ok (.ifCond .eq 7, 3) := by decide +kernel
theorem dX5_isAllWords_33 : decode cX5_isAllWords 33 = .ok (.iconst 1, 1) := by decide +kernel
theorem dX5_isAllWords_34 : decode cX5_isAllWords 34 = .ok (.goto 4, 3) := by decide +kernel
theorem dX5_isAllWords_37 : decode cX5_isAllWords 37 = .ok (.iconst 0, 1) := by decide +kernel
theorem dX5_isAllWords_38 : decode cX5_isAllWords 38 = .ok (.istore_n 2, 1) := by decide +kernel
theorem dX5_isAllWords_39 : decode cX5_isAllWords 39 = .ok (.aload_n 0, 1) := by decide +kernel
theorem dX5_isAllWords_40 : decode cX5_isAllWords 40 = .ok (.iload_n 1, 1) := by decide +kernel
theorem dX5_isAllWords_41 : decode cX5_isAllWords 41 = .ok (.invokevirtual 34, 3) := by decide +kernel
theorem dX5_isAllWords_44 : decode cX5_isAllWords 44 = .ok (.invokestatic 46, 3) := by decide +kernel
theorem dX5_isAllWords_47 : decode cX5_isAllWords 47 = .ok (.ifCond .ne 9, 3) := by decide +kernel
theorem dX5_isAllWords_50 : decode cX5_isAllWords 50 = .ok (.iload_n 2, 1) := by decide +kernel
theorem dX5_isAllWords_51 : decode cX5_isAllWords 51 = .ok (.ifCond .ne 5, 3) := by decide +kernel
theorem dX5_isAllWords_54 : decode cX5_isAllWords 54 = .ok (.iconst 0, 1) := by decide +kernel
theorem dX5_isAllWords_55 : decode cX5_isAllWords 55 = .ok (.ireturn, 1) := by decide +kernel
theorem dX5_isAllWords_56 : decode cX5_isAllWords 56 = .ok (.iinc 1 1, 3) := by decide +kernel
theorem dX5_isAllWords_59 : decode cX5_isAllWords 59 = .ok (.goto (-57), 3) := by decide +kernel
theorem dX5_isAllWords_62 : decode cX5_isAllWords 62 = .ok (.aload_n 0, 1) := by decide +kernel
theorem dX5_isAllWords_63 : decode cX5_isAllWords 63 = .ok (.aload_n 0, 1) := by decide +kernel
theorem dX5_isAllWords_64 : decode cX5_isAllWords 64 = .ok (.getfield 21, 3) := by decide +kernel
theorem dX5_isAllWords_67 : decode cX5_isAllWords 67 = .ok (.iconst 1, 1) := by decide +kernel
theorem dX5_isAllWords_68 : decode cX5_isAllWords 68 = .ok (.isub, 1) := by decide +kernel
theorem dX5_isAllWords_69 : decode cX5_isAllWords 69 = .ok (.invokevirtual 34, 3) := by decide +kernel
theorem dX5_isAllWords_72 : decode cX5_isAllWords 72 = .ok (.invokestatic 46, 3) := by decide +kernel
theorem dX5_isAllWords_75 : decode cX5_isAllWords 75 = .ok (.ireturn, 1) := by decide +kernel
theorem dX5_words_0 : decode cX5_words 0 = .ok (.aload_n 0, 1) := by decide +kernel
theorem dX5_words_1 : decode cX5_words 1 = .ok (.getfield 21, 3) := by decide +kernel
theorem dX5_words_4 : decode cX5_words 4 = .ok (.ifCond .ne 7, 3) := by decide +kernel
theorem dX5_words_7 : decode cX5_words 7 = .ok (.iconst 0, 1) := by decide +kernel
theorem dX5_words_8 : decode cX5_words 8 = .ok (.goto 4, 3) := by decide +kernel
theorem dX5_words_11 : decode cX5_words 11 = .ok (.iconst 1, 1) := by decide +kernel
theorem dX5_words_12 : decode cX5_words 12 = .ok (.istore_n 1, 1) := by decide +kernel
theorem dX5_words_13 : decode cX5_words 13 = .ok (.iconst 0, 1) := by decide +kernel
theorem dX5_words_14 : decode cX5_words 14 = .ok (.istore_n 2, 1) := by decide +kernel
theorem dX5_words_15 : decode cX5_words 15 = .ok (.iload_n 2, 1) := by decide +kernel
theorem dX5_words_16 : decode cX5_words 16 = .ok (.aload_n 0, 1) := by decide +kernel
theorem dX5_words_17 : decode cX5_words 17 = .ok (.getfield 21, 3) := by decide +kernel
theorem dX5_words_20 : decode cX5_words 20 = .ok (.if_icmp .ge 27, 3) := by decide +kernel
theorem dX5_words_23 : decode cX5_words 23 = .ok (.iload_n 1, 1) := by decide +kernel
theorem dX5_words_24 : decode cX5_words 24 = .ok (.aload_n 0, 1) := by decide +kernel
theorem dX5_words_25 : decode cX5_words 25 = .ok (.iload_n 2, 1) := by decide +kernel
theorem dX5_words_26 : decode cX5_words 26 = .ok (.invokevirtual 34, 3) := by decide +kernel
theorem dX5_words_29 : decode cX5_words 29 = .ok (.bipush 32, 2) := by decide +kernel
theorem dX5_words_31 : decode cX5_words 31 = .ok (.if_icmp .ne 7, 3) := by decide +kernel
theorem dX5_words_34 : decode cX5_words 34 = .ok (.iconst 1, 1) := by decide +kernel
theorem dX5_words_35 : decode cX5_words 35 = .ok (.goto 4, 3) := by decide +kernel
theorem dX5_words_38 : decode cX5_words 38 = .ok (.iconst 0, 1) := by decide +kernel
theorem dX5_words_39 : decode cX5_words 39 = .ok (.iadd, 1) := by decide +kernel
theorem dX5_words_40 : decode cX5_words 40 = .ok (.istore_n 1, 1) := by decide +kernel
theorem dX5_words_41 : decode cX5_words 41 = .ok (.iinc 2 1, 3) := by decide +kernel
theorem dX5_words_44 : decode cX5_words 44 = .ok (.goto (-29), 3) := by decide +kernel
theorem dX5_words_47 : decode cX5_words 47 = .ok (.iload_n 1, 1) := by decide +kernel
theorem dX5_words_48 : decode cX5_words 48 = .ok (.ireturn, 1) := by decide +kernel
theorem dX6_init_0 : decode cX6_init 0 = .ok (.aload_n 0, 1) := by decide +kernel
theorem dX6_init_1 : decode cX6_init 1 = .ok (.invokespecial 3, 3) := by decide +kernel
theorem dX6_init_4 : decode cX6_init 4 = .ok (.aload_n 0, 1) := by decide +kernel
theorem dX6_init_5 : decode cX6_init 5 = .ok (.new 9, 3) := by decide +kernel
theorem dX6_init_8 : decode cX6_init 8 = .ok (.dup, 1) := by decide +kernel
theorem dX6_init_9 : decode cX6_init 9 = .ok (.bipush 10, 2) := by decide +kernel
theorem dX6_init_11 : decode cX6_init 11 = .ok (.invokespecial 11, 3) := by decide +kernel
theorem dX6_init_14 : decode cX6_init 14 = .ok (.putfield 14, 3) := by decide +kernel
theorem dX6_init_17 : decode cX6_init 17 = .ok (.aload_n 0, 1) := by decide +kernel
theorem dX6_init_18 : decode cX6_init 18 = .ok (.bipush 6, 2) := by decide +kernel
theorem dX6_init_20 : decode cX6_init 20 = .ok (.newarray .int, 2) := by decide +kernel
theorem dX6_init_22 : decode cX6_init 22 = .ok (.putfield 20, 3) := by decide +kernel
theorem dX6_init_25 : decode cX6_init 25 = .ok (.aload_n 0, 1) := by decide +kernel
theorem dX6_init_26 : decode cX6_init 26 = .ok (.bipush 6, 2) := by decide +kernel
theorem dX6_init_28 : decode cX6_init 28 = .ok (.newarray .int, 2) := by decide +kernel
theorem dX6_init_30 : decode cX6_init 30 = .ok (.putfield 24, 3) := by decide +kernel
theorem dX6_init_33 : decode cX6_init 33 = .ok (.aload_n 0, 1) := by decide +kernel
theorem dX6_init_34 : decode cX6_init 34 = .ok (.bipush 11, 2) := by decide +kernel
theorem dX6_init_36 : decode cX6_init 36 = .ok (.newarray .int, 2) := by decide +kernel
theorem dX6_init_38 : decode cX6_init 38 = .ok (.putfield 27, 3) := by decide +kernel
theorem dX6_init_41 : decode cX6_init 41 = .ok (.return_, 1) := by decide +kernel
theorem dX6_countReadings_0 : decode cX6_countReadings 0 = .ok (.aload_n 0, 1) := by decide +kernel
theorem dX6_countReadings_1 : decode cX6_countReadings 1 = .ok (.aload_n 2, 1) := by decide +kernel
theorem dX6_countReadings_2 : decode cX6_countReadings 2 = .ok (.invokevirtual 30, 3) := by decide +kernel
theorem dX6_countReadings_5 : decode cX6_countReadings 5 = .ok (.aload_n 0, 1) := by decide +kernel
theorem dX6_countReadings_6 : decode cX6_countReadings 6 = .ok (.iconst 0, 1) := by decide +kernel
theorem dX6_countReadings_7 : decode cX6_countReadings 7 = .ok (.putfield 34, 3) := by decide +kernel
theorem dX6_countReadings_10 : decode cX6_countReadings 10 = .ok (.aload_n 0, 1) := by decide +kernel
theorem dX6_countReadings_11 : decode cX6_countReadings 11 = .ok (.iconst (-1), 1) := by decide +kernel
theorem dX6_countReadings_12 : decode cX6_countReadings 12 = .ok (.putfield 38, 3) := by decide +kernel
theorem dX6_countReadings_15 : decode cX6_countReadings 15 = .ok (.aload_n 0, 1) := by decide +kernel
theorem dX6_countReadings_16 : decode cX6_countReadings 16 = .ok (.iconst (-1), 1) := by decide +kernel
theorem dX6_countReadings_17 : decode cX6_countReadings 17 = .ok (.putfield 41, 3) := by decide +kernel
theorem dX6_countReadings_20 : decode cX6_countReadings 20 = .ok (.iconst 0, 1) := by decide +kernel
theorem dX6_countReadings_21 : decode cX6_countReadings 21 = .ok (.istore_n 3, 1) := by decide +kernel
theorem dX6_countReadings_22 : decode cX6_countReadings 22 = .ok (.iload_n 3, 1) := by decide +kernel
theorem dX6_countReadings_23 : decode cX6_countReadings 23 = .ok (.aload_n 1, 1) := by decide +kernel
theorem dX6_countReadings_24 : decode cX6_countReadings 24 = .ok (.getfield 44, 3) := by decide +kernel
theorem dX6_countReadings_27 : decode cX6_countReadings 27 = .ok (.iconst 4, 1) := by decide +kernel
theorem dX6_countReadings_28 : decode cX6_countReadings 28 = .ok (.imul, 1) := by decide +kernel
theorem dX6_countReadings_29 : decode cX6_countReadings 29 = .ok (.if_icmp .ge 85, 3) := by decide +kernel
theorem dX6_countReadings_32 : decode cX6_countReadings 32 = .ok (.aload_n 1, 1) := by decide +kernel
theorem dX6_countReadings_33 : decode cX6_countReadings 33 = .ok (.iload_n 3, 1) := by decide +kernel
theorem dX6_countReadings_34 : decode cX6_countReadings 34 = .ok (.iconst 4, 1) := by decide +kernel
theorem dX6_countReadings_35 : decode cX6_countReadings 35 = .ok (.idiv, 1) := by decide +kernel
theorem dX6_countReadings_36 : decode cX6_countReadings 36 = .ok (.invokevirtual 49, 3) := by decide +kernel
theorem dX6_countReadings_39 : decode cX6_countReadings 39 = .ok (.astore 4, 2) := by decide +kernel
theorem dX6_countReadings_41 : decode cX6_countReadings 41 = .ok (.aload 4, 2) := by decide +kernel
theorem dX6_countReadings_43 : decode cX6_countReadings 43 = .ok (.ifnull 65, 3) := by decide +kernel
theorem dX6_countReadings_46 : decode cX6_countReadings 46 = .ok (.aload 4, 2) := by decide +kernel
theorem dX6_countReadings_48 : decode cX6_countReadings 48 = .ok (.getfield 53, 3) := by decide +kernel
theorem dX6_countReadings_51 : decode cX6_countReadings 51 = .ok (.aload_n 0, 1) := by decide +kernel
theorem dX6_countReadings_52 : decode cX6_countReadings 52 = .ok (.getfield 58, 3) := by decide +kernel
theorem dX6_countReadings_55 : decode cX6_countReadings 55 = .ok (.if_icmp .ne 53, 3) := by decide +kernel
theorem dX6_countReadings_58 : decode cX6_countReadings 58 = .ok (.aload_n 0, 1) := by decide +kernel
theorem dX6_countReadings_59 : decode cX6_countReadings 59 = .ok (.aload_n 1, 1) := by decide +kernel
theorem dX6_countReadings_60 : decode cX6_countReadings 60 = .ok (.aload_n 2, 1) := by decide +kernel
theorem dX6_countReadings_61 : decode cX6_countReadings 61 = .ok (.aload 4, 2) := by decide +kernel
theorem dX6_countReadings_63 : decode cX6_countReadings 63 = .ok (.iload_n 3, 1) := by decide +kernel
theorem dX6_countReadings_64 : decode cX6_countReadings 64 = .ok (.iconst 4, 1) := by decide +kernel
theorem dX6_countReadings_65 : decode cX6_countReadings 65 = .ok (.irem, 1) := by decide +kernel
theorem dX6_countReadings_66 : decode cX6_countReadings 66 = .ok (.invokevirtual 61, 3) := by decide +kernel
theorem dX6_countReadings_69 : decode cX6_countReadings 69 = .ok (.istore 5, 2) := by decide +kernel
theorem dX6_countReadings_71 : decode cX6_countReadings 71 = .ok (.iload 5, 2) := by decide +kernel
theorem dX6_countReadings_73 : decode cX6_countReadings 73 = .ok (.ifCond .le 24, 3) := by decide +kernel
theorem dX6_countReadings_76 : decode cX6_countReadings 76 = .ok (.aload_n 0, 1) := by decide +kernel
theorem dX6_countReadings_77 : decode cX6_countReadings 77 = .ok (.getfield 34, 3) := by decide +kernel
theorem dX6_countReadings_80 : decode cX6_countReadings 80 = .ok (.ifCond .ne 17, 3) := by decide +kernel
theorem dX6_countReadings_83 : decode cX6_countReadings 83 = .ok (.aload_n 0, 1) := by decide +kernel
theorem dX6_countReadings_84 : decode cX6_countReadings 84 = .ok (.iload_n 3, 1) := by decide +kernel
theorem dX6_countReadings_85 : decode cX6_countReadings 85 = .ok (.iconst 4, 1) := by decide +kernel
theorem dX6_countReadings_86 : decode cX6_countReadings 86 = .ok (.idiv, 1) := by decide +kernel
theorem dX6_countReadings_87 : decode cX6_countReadings 87 = .ok (.putfield 38, 3) := by decide +kernel
theorem dX6_countReadings_90 : decode cX6_countReadings 90 = .ok (.aload_n 0, 1) := by decide +kernel
theorem dX6_countReadings_91 : decode cX6_countReadings 91 = .ok (.iload_n 3, 1) := by decide +kernel
theorem dX6_countReadings_92 : decode cX6_countReadings 92 = .ok (.iconst 4, 1) := by decide +kernel
theorem dX6_countReadings_93 : decode cX6_countReadings 93 = .ok (.irem, 1) := by decide +kernel
theorem dX6_countReadings_94 : decode cX6_countReadings 94 = .ok (.putfield 41, 3) := by decide +kernel
theorem dX6_countReadings_97 : decode cX6_countReadings 97 = .ok (.aload_n 0, 1) := by decide +kernel
theorem dX6_countReadings_98 : decode cX6_countReadings 98 = .ok (.dup, 1) := by decide +kernel
theorem dX6_countReadings_99 : decode cX6_countReadings 99 = .ok (.getfield 34, 3) := by decide +kernel
theorem dX6_countReadings_102 : decode cX6_countReadings 102 = .ok (.iload 5, 2) := by decide +kernel
theorem dX6_countReadings_104 : decode cX6_countReadings 104 = .ok (.iadd, 1) := by decide +kernel
theorem dX6_countReadings_105 : decode cX6_countReadings 105 = .ok (.putfield 34, 3) := by decide +kernel
theorem dX6_countReadings_108 : decode cX6_countReadings 108 = .ok (.iinc 3 1, 3) := by decide +kernel
theorem dX6_countReadings_111 : decode cX6_countReadings 111 = .ok (.goto (-89), 3) := by decide +kernel
theorem dX6_countReadings_114 : decode cX6_countReadings 114 = .ok (.return_, 1) := by decide +kernel
theorem dX6_findNearest_0 : decode cX6_findNearest 0 = .ok (.aload_n 0, 1) := by decide +kernel
theorem dX6_findNearest_1 : decode cX6_findNearest 1 = .ok (.aload_n 2, 1) := by decide +kernel
theorem dX6_findNearest_2 : decode cX6_findNearest 2 = .ok (.invokevirtual 30, 3) := by decide +kernel
theorem dX6_findNearest_5 : decode cX6_findNearest 5 = .ok (.aload_n 0, 1) := by decide +kernel
theorem dX6_findNearest_6 : decode cX6_findNearest 6 = .ok (.ldc 65, 2) := by decide +kernel
theorem dX6_findNearest_8 : decode cX6_findNearest 8 = .ok (.putfield 66, 3) := by decide +kernel
theorem dX6_findNearest_11 : decode cX6_findNearest 11 = .ok (.aload_n 0, 1) := by decide +kernel
theorem dX6_findNearest_12 : decode cX6_findNearest 12 = .ok (.iconst (-1), 1) := by decide +kernel
theorem dX6_findNearest_13 : decode cX6_findNearest 13 = .ok (.putfield 69, 3) := by decide +kernel
theorem dX6_findNearest_16 : decode cX6_findNearest 16 = .ok (.iconst 0, 1) := by decide +kernel
theorem dX6_findNearest_17 : decode cX6_findNearest 17 = .ok (.istore_n 3, 1) := by decide +kernel
theorem dX6_findNearest_18 : decode cX6_findNearest 18 = .ok (.iload_n 3, 1) := by decide +kernel
theorem dX6_findNearest_19 : decode cX6_findNearest 19 = .ok (.aload_n 1, 1) := by decide +kernel
theorem dX6_findNearest_20 : decode cX6_findNearest 20 = .ok (.getfield 44, 3) := by decide +kernel
theorem dX6_findNearest_23 : decode cX6_findNearest 23 = .ok (.iconst 4, 1) := by decide +kernel
theorem dX6_findNearest_24 : decode cX6_findNearest 24 = .ok (.imul, 1) := by decide +kernel
theorem dX6_findNearest_25 : decode cX6_findNearest 25 = .ok (.if_icmp .ge 70, 3) := by decide +kernel
theorem dX6_findNearest_28 : decode cX6_findNearest 28 = .ok (.aload_n 1, 1) := by decide +kernel
theorem dX6_findNearest_29 : decode cX6_findNearest 29 = .ok (.iload_n 3, 1) := by decide +kernel
theorem dX6_findNearest_30 : decode cX6_findNearest 30 = .ok (.iconst 4, 1) := by decide +kernel
theorem dX6_findNearest_31 : decode cX6_findNearest 31 = .ok (.idiv, 1) := by decide +kernel
theorem dX6_findNearest_32 : decode cX6_findNearest 32 = .ok (.invokevirtual 49, 3) := by decide +kernel
theorem dX6_findNearest_35 : decode cX6_findNearest 35 = .ok (.astore 4, 2) := by decide +kernel
theorem dX6_findNearest_37 : decode cX6_findNearest 37 = .ok (.aload 4, 2) := by decide +kernel
theorem dX6_findNearest_39 : decode cX6_findNearest 39 = .ok (.ifnull 50, 3) := by decide +kernel
theorem dX6_findNearest_42 : decode cX6_findNearest 42 = .ok (.aload 4, 2) := by decide +kernel
theorem dX6_findNearest_44 : decode cX6_findNearest 44 = .ok (.getfield 53, 3) := by decide +kernel
theorem dX6_findNearest_47 : decode cX6_findNearest 47 = .ok (.aload_n 0, 1) := by decide +kernel
theorem dX6_findNearest_48 : decode cX6_findNearest 48 = .ok (.getfield 58, 3) := by decide +kernel
theorem dX6_findNearest_51 : decode cX6_findNearest 51 = .ok (.if_icmp .ne 38, 3) := by decide +kernel
theorem dX6_findNearest_54 : decode cX6_findNearest 54 = .ok (.aload_n 0, 1) := by decide +kernel
theorem dX6_findNearest_55 : decode cX6_findNearest 55 = .ok (.aload_n 1, 1) := by decide +kernel
theorem dX6_findNearest_56 : decode cX6_findNearest 56 = .ok (.aload_n 2, 1) := by decide +kernel
theorem dX6_findNearest_57 : decode cX6_findNearest 57 = .ok (.aload 4, 2) := by decide +kernel
theorem dX6_findNearest_59 : decode cX6_findNearest 59 = .ok (.iload_n 3, 1) := by decide +kernel
theorem dX6_findNearest_60 : decode cX6_findNearest 60 = .ok (.iconst 4, 1) := by decide +kernel
theorem dX6_findNearest_61 : decode cX6_findNearest 61 = .ok (.irem, 1) := by decide +kernel
theorem dX6_findNearest_62 : decode cX6_findNearest 62 = .ok (.invokevirtual 72, 3) := by decide +kernel
theorem dX6_findNearest_65 : decode cX6_findNearest 65 = .ok (.istore 5, 2) := by decide +kernel
theorem dX6_findNearest_67 : decode cX6_findNearest 67 = .ok (.iload 5, 2) := by decide +kernel
theorem dX6_findNearest_69 : decode cX6_findNearest 69 = .ok (.aload_n 0, 1) := by decide +kernel
theorem dX6_findNearest_70 : decode cX6_findNearest 70 = .ok (.getfield 66, 3) := by decide +kernel
theorem dX6_findNearest_73 : decode cX6_findNearest 73 = .ok (.if_icmp .ge 16, 3) := by decide +kernel
theorem dX6_findNearest_76 : decode cX6_findNearest 76 = .ok (.aload_n 0, 1) := by decide +kernel
theorem dX6_findNearest_77 : decode cX6_findNearest 77 = .ok (.iload 5, 2) := by decide +kernel
theorem dX6_findNearest_79 : decode cX6_findNearest 79 = .ok (.putfield 66, 3) := by decide +kernel
theorem dX6_findNearest_82 : decode cX6_findNearest 82 = .ok (.aload_n 0, 1) := by decide +kernel
theorem dX6_findNearest_83 : decode cX6_findNearest 83 = .ok (.iload_n 3, 1) := by decide +kernel
theorem dX6_findNearest_84 : decode cX6_findNearest 84 = .ok (.iconst 4, 1) := by decide +kernel
theorem dX6_findNearest_85 : decode cX6_findNearest 85 = .ok (.idiv, 1) := by decide +kernel
theorem dX6_findNearest_86 : decode cX6_findNearest 86 = .ok (.putfield 69, 3) := by decide +kernel
theorem dX6_findNearest_89 : decode cX6_findNearest 89 = .ok (.iinc 3 1, 3) := by decide +kernel
theorem dX6_findNearest_92 : decode cX6_findNearest 92 = .ok (.goto (-74), 3) := by decide +kernel
theorem dX6_findNearest_95 : decode cX6_findNearest 95 = .ok (.aload_n 0, 1) := by decide +kernel
theorem dX6_findNearest_96 : decode cX6_findNearest 96 = .ok (.aload_n 0, 1) := by decide +kernel
theorem dX6_findNearest_97 : decode cX6_findNearest 97 = .ok (.getfield 69, 3) := by decide +kernel
theorem dX6_findNearest_100 : decode cX6_findNearest 100 = .ok (.iconst (-1), 1) := by decide +kernel
theorem dX6_findNearest_101 : decode cX6_findNearest 101 = .ok (.if_icmp .ne 7, 3) := by decide +kernel
theorem dX6_findNearest_104 : decode cX6_findNearest 104 = .ok (.iconst (-1), 1) := by decide +kernel
theorem dX6_findNearest_105 : decode cX6_findNearest 105 = .ok (.goto 7, 3) := by decide +kernel
theorem dX6_findNearest_108 : decode cX6_findNearest 108 = .ok (.aload_n 0, 1) := by decide +kernel
theorem dX6_findNearest_109 : decode cX6_findNearest 109 = .ok (.getfield 66, 3) := by decide +kernel
theorem dX6_findNearest_112 : decode cX6_findNearest 112 = .ok (.putfield 66, 3) := by decide +kernel
theorem dX6_findNearest_115 : decode cX6_findNearest 115 = .ok (.return_, 1) := by decide +kernel
theorem dX6_split_0 : decode cX6_split 0 = .ok (.aload_n 0, 1) := by decide +kernel
theorem dX6_split_1 : decode cX6_split 1 = .ok (.iconst 0, 1) := by decide +kernel
theorem dX6_split_2 : decode cX6_split 2 = .ok (.putfield 58, 3) := by decide +kernel
theorem dX6_split_5 : decode cX6_split 5 = .ok (.iconst 0, 1) := by decide +kernel
theorem dX6_split_6 : decode cX6_split 6 = .ok (.istore_n 2, 1) := by decide +kernel
theorem dX6_split_7 : decode cX6_split 7 = .ok (.iconst 0, 1) := by decide +kernel
theorem dX6_split_8 : decode cX6_split 8 = .ok (.istore_n 3, 1) := by decide +kernel
theorem dX6_split_9 : decode cX6_split 9 = .ok (.iload_n 3, 1) := by decide +kernel
theorem dX6_split_10 : decode cX6_split 10 = .ok (.aload_n 1, 1) := by decide +kernel
theorem dX6_split_11 : decode cX6_split 11 = .ok (.getfield 75, 3) := by decide +kernel
theorem dX6_split_14 : decode cX6_split 14 = .ok (.if_icmp .gt 79, 3) := by decide +kernel
theorem dX6_split_17 : decode cX6_split 17 = .ok (.aload_n 1, 1) := by decide +kernel
theorem dX6_split_18 : decode cX6_split 18 = .ok (.getfield 75, 3) := by decide +kernel
theorem dX6_split_21 : decode cX6_split 21 = .ok (.ifCond .le 72, 3) := by decide +kernel
theorem dX6_split_24 : decode cX6_split 24 = .ok (.iload_n 3, 1) := by decide +kernel
theorem dX6_split_25 : decode cX6_split 25 = .ok (.aload_n 1, 1) := by decide +kernel
theorem dX6_split_26 : decode cX6_split 26 = .ok (.getfield 75, 3) := by decide +kernel
theorem dX6_split_29 : decode cX6_split 29 = .ok (.if_icmp .eq 13, 3) := by decide +kernel
theorem dX6_split_32 : decode cX6_split 32 = .ok (.aload_n 1, 1) := by decide +kernel
theorem dX6_split_33 : decode cX6_split 33 = .ok (.iload_n 3, 1) := by decide +kernel
theorem dX6_split_34 : decode cX6_split 34 = .ok (.invokevirtual 76, 3) := by decide +kernel
theorem dX6_split_37 : decode cX6_split 37 = .ok (.bipush 32, 2) := by decide +kernel
theorem dX6_split_39 : decode cX6_split 39 = .ok (.if_icmp .ne 48, 3) := by decide +kernel
theorem dX6_split_42 : decode cX6_split 42 = .ok (.aload_n 0, 1) := by decide +kernel
theorem dX6_split_43 : decode cX6_split 43 = .ok (.getfield 58, 3) := by decide +kernel
theorem dX6_split_46 : decode cX6_split 46 = .ok (.bipush 6, 2) := by decide +kernel
theorem dX6_split_48 : decode cX6_split 48 = .ok (.if_icmp .ge 25, 3) := by decide +kernel
theorem dX6_split_51 : decode cX6_split 51 = .ok (.aload_n 0, 1) := by decide +kernel
theorem dX6_split_52 : decode cX6_split 52 = .ok (.getfield 20, 3) := by decide +kernel
theorem dX6_split_55 : decode cX6_split 55 = .ok (.aload_n 0, 1) := by decide +kernel
theorem dX6_split_56 : decode cX6_split 56 = .ok (.getfield 58, 3) := by decide +kernel
theorem dX6_split_59 : decode cX6_split 59 = .ok (.iload_n 2, 1) := by decide +kernel
theorem dX6_split_60 : decode cX6_split 60 = .ok (.iastore, 1) := by decide +kernel
theorem dX6_split_61 : decode cX6_split 61 = .ok (.aload_n 0, 1) := by decide +kernel
theorem dX6_split_62 : decode cX6_split 62 = .ok (.getfield 24, 3) := by decide +kernel
theorem dX6_split_65 : decode cX6_split 65 = .ok (.aload_n 0, 1) := by decide +kernel
theorem dX6_split_66 : decode cX6_split 66 = .ok (.getfield 58, 3) := by decide +kernel
theorem dX6_split_69 : decode cX6_split 69 = .ok (.iload_n 3, 1) := by decide +kernel
theorem dX6_split_70 : decode cX6_split 70 = .ok (.iload_n 2, 1) := by decide +kernel
theorem dX6_split_71 : decode cX6_split 71 = .ok (.isub, 1) := by decide +kernel
theorem dX6_split_72 : decode cX6_split 72 = .ok (.iastore, 1) := by decide +kernel
theorem dX6_split_73 : decode cX6_split 73 = .ok (.aload_n 0, 1) := by decide +kernel
theorem dX6_split_74 : decode cX6_split 74 = .ok (.dup, 1) := by decide +kernel
theorem dX6_split_75 : decode cX6_split 75 = .ok (.getfield 58, 3) := by decide +kernel
theorem dX6_split_78 : decode cX6_split 78 = .ok (.iconst 1, 1) := by decide +kernel
theorem dX6_split_79 : decode cX6_split 79 = .ok (.iadd, 1) := by decide +kernel
theorem dX6_split_80 : decode cX6_split 80 = .ok (.putfield 58, 3) := by decide +kernel
theorem dX6_split_83 : decode cX6_split 83 = .ok (.iload_n 3, 1) := by decide +kernel
theorem dX6_split_84 : decode cX6_split 84 = .ok (.iconst 1, 1) := by decide +kernel
theorem dX6_split_85 : decode cX6_split 85 = .ok (.iadd, 1) := by decide +kernel
theorem dX6_split_86 : decode cX6_split 86 = .ok (.istore_n 2, 1) := by decide +kernel
theorem dX6_split_87 : decode cX6_split 87 = .ok (.iinc 3 1, 3) := by decide +kernel
theorem dX6_split_90 : decode cX6_split 90 = .ok (.goto (-81), 3) := by decide +kernel
theorem dX6_split_93 : decode cX6_split 93 = .ok (.return_, 1) := by decide +kernel
theorem dX6_waysOfFrame_0 : decode cX6_waysOfFrame 0 = .ok (.iconst 1, 1) := by decide +kernel
theorem dX6_waysOfFrame_1 : decode cX6_waysOfFrame 1 = .ok (.istore 5, 2) := by decide +kernel
theorem dX6_waysOfFrame_3 : decode cX6_waysOfFrame 3 = .ok (.iconst 0, 1) := by decide +kernel
theorem dX6_waysOfFrame_4 : decode cX6_waysOfFrame 4 = .ok (.istore 6, 2) := by decide +kernel
theorem dX6_waysOfFrame_6 : decode cX6_waysOfFrame 6 = .ok (.iload 6, 2) := by decide +kernel
theorem dX6_waysOfFrame_8 : decode cX6_waysOfFrame 8 = .ok (.aload_n 3, 1) := by decide +kernel
theorem dX6_waysOfFrame_9 : decode cX6_waysOfFrame 9 = .ok (.getfield 53, 3) := by decide +kernel
theorem dX6_waysOfFrame_12 : decode cX6_waysOfFrame 12 = .ok (.if_icmp .ge 38, 3) := by decide +kernel
theorem dX6_waysOfFrame_15 : decode cX6_waysOfFrame 15 = .ok (.iload 5, 2) := by decide +kernel
theorem dX6_waysOfFrame_17 : decode cX6_waysOfFrame 17 = .ok (.aload_n 3, 1) := by decide +kernel
theorem dX6_waysOfFrame_18 : decode cX6_waysOfFrame 18 = .ok (.iload 6, 2) := by decide +kernel
theorem dX6_waysOfFrame_20 : decode cX6_waysOfFrame 20 = .ok (.invokevirtual 80, 3) := by decide +kernel
theorem dX6_waysOfFrame_23 : decode cX6_waysOfFrame 23 = .ok (.iconst (-1), 1) := by decide +kernel
theorem dX6_waysOfFrame_24 : decode cX6_waysOfFrame 24 = .ok (.if_icmp .ne 16, 3) := by decide +kernel
theorem dX6_waysOfFrame_27 : decode cX6_waysOfFrame 27 = .ok (.aload_n 0, 1) := by decide +kernel
theorem dX6_waysOfFrame_28 : decode cX6_waysOfFrame 28 = .ok (.aload_n 1, 1) := by decide +kernel
theorem dX6_waysOfFrame_29 : decode cX6_waysOfFrame 29 = .ok (.aload_n 2, 1) := by decide +kernel
theorem dX6_waysOfFrame_30 : decode cX6_waysOfFrame 30 = .ok (.aload_n 3, 1) := by decide +kernel
theorem dX6_waysOfFrame_31 : decode cX6_waysOfFrame 31 = .ok (.iload 6, 2) := by decide +kernel
theorem dX6_waysOfFrame_33 : decode cX6_waysOfFrame 33 = .ok (.iconst 0, 1) := by decide +kernel
theorem dX6_waysOfFrame_34 : decode cX6_waysOfFrame 34 = .ok (.invokevirtual 83, 3) := by decide +kernel
theorem dX6_waysOfFrame_37 : decode cX6_waysOfFrame 37 = .ok (.goto 4, 3) := by decide +kernel
theorem dX6_waysOfFrame_40 : decode cX6_waysOfFrame 40 = .ok (.iconst 1, 1) := by decide +kernel
theorem dX6_waysOfFrame_41 : decode cX6_waysOfFrame 41 = .ok (.imul, 1) := by decide +kernel
theorem dX6_waysOfFrame_42 : decode cX6_waysOfFrame 42 = .ok (.istore 5, 2) := by decide +kernel
theorem dX6_waysOfFrame_44 : decode cX6_waysOfFrame 44 = .ok (.iinc 6 1, 3) := by decide +kernel
theorem dX6_waysOfFrame_47 : decode cX6_waysOfFrame 47 = .ok (.goto (-41), 3) := by decide +kernel
theorem dX6_waysOfFrame_50 : decode cX6_waysOfFrame 50 = .ok (.iconst 0, 1) := by decide +kernel
theorem dX6_waysOfFrame_51 : decode cX6_waysOfFrame 51 = .ok (.istore 6, 2) := by decide +kernel
theorem dX6_waysOfFrame_53 : decode cX6_waysOfFrame 53 = .ok (.iload 6, 2) := by decide +kernel
theorem dX6_waysOfFrame_55 : decode cX6_waysOfFrame 55 = .ok (.iconst 3, 1) := by decide +kernel
theorem dX6_waysOfFrame_56 : decode cX6_waysOfFrame 56 = .ok (.if_icmp .ge 44, 3) := by decide +kernel
theorem dX6_waysOfFrame_59 : decode cX6_waysOfFrame 59 = .ok (.iload 5, 2) := by decide +kernel
theorem dX6_waysOfFrame_61 : decode cX6_waysOfFrame 61 = .ok (.ifCond .le 39, 3) := by decide +kernel
theorem dX6_waysOfFrame_64 : decode cX6_waysOfFrame 64 = .ok (.iload 5, 2) := by decide +kernel
theorem dX6_waysOfFrame_66 : decode cX6_waysOfFrame 66 = .ok (.aload_n 3, 1) := by decide +kernel
theorem dX6_waysOfFrame_67 : decode cX6_waysOfFrame 67 = .ok (.iload 6, 2) := by decide +kernel
theorem dX6_waysOfFrame_69 : decode cX6_waysOfFrame 69 = .ok (.invokevirtual 87, 3) := by decide +kernel
theorem dX6_waysOfFrame_72 : decode cX6_waysOfFrame 72 = .ok (.iconst (-1), 1) := by decide +kernel
theorem dX6_waysOfFrame_73 : decode cX6_waysOfFrame 73 = .ok (.if_icmp .ne 7, 3) := by decide +kernel
theorem dX6_waysOfFrame_76 : decode cX6_waysOfFrame 76 = .ok (.iconst 1, 1) := by decide +kernel
theorem dX6_waysOfFrame_77 : decode cX6_waysOfFrame 77 = .ok (.goto 14, 3) := by decide +kernel
theorem dX6_waysOfFrame_80 : decode cX6_waysOfFrame 80 = .ok (.aload_n 0, 1) := by decide +kernel
theorem dX6_waysOfFrame_81 : decode cX6_waysOfFrame 81 = .ok (.aload_n 1, 1) := by decide +kernel
theorem dX6_waysOfFrame_82 : decode cX6_waysOfFrame 82 = .ok (.aload_n 2, 1) := by decide +kernel
theorem dX6_waysOfFrame_83 : decode cX6_waysOfFrame 83 = .ok (.aload_n 3, 1) := by decide +kernel
theorem dX6_waysOfFrame_84 : decode cX6_waysOfFrame 84 = .ok (.iload 6, 2) := by decide +kernel
theorem dX6_waysOfFrame_86 : decode cX6_waysOfFrame 86 = .ok (.iload 4, 2) := by decide +kernel
theorem dX6_waysOfFrame_88 : decode cX6_waysOfFrame 88 = .ok (.invokevirtual 90, 3) := by decide +kernel
theorem dX6_waysOfFrame_91 : decode cX6_waysOfFrame 91 = .ok (.imul, 1) := by decide +kernel
theorem dX6_waysOfFrame_92 : decode cX6_waysOfFrame 92 = .ok (.istore 5, 2) := by decide +kernel
theorem dX6_waysOfFrame_94 : decode cX6_waysOfFrame 94 = .ok (.iinc 6 1, 3) := by decide +kernel
theorem dX6_waysOfFrame_97 : decode cX6_waysOfFrame 97 = .ok (.goto (-44), 3) := by decide +kernel
theorem dX6_waysOfFrame_100 : decode cX6_waysOfFrame 100 = .ok (.iload 5, 2) := by decide +kernel
theorem dX6_waysOfFrame_102 : decode cX6_waysOfFrame 102 = .ok (.ireturn, 1) := by decide +kernel
theorem dX6_waysOfGroup_0 : decode cX6_waysOfGroup 0 = .ok (.iconst 0, 1) := by decide +kernel
theorem dX6_waysOfGroup_1 : decode cX6_waysOfGroup 1 = .ok (.istore 6, 2) := by decide +kernel
theorem dX6_waysOfGroup_3 : decode cX6_waysOfGroup 3 = .ok (.iload 5, 2) := by decide +kernel
theorem dX6_waysOfGroup_5 : decode cX6_waysOfGroup 5 = .ok (.bipush 24, 2) := by decide +kernel
theorem dX6_waysOfGroup_7 : decode cX6_waysOfGroup 7 = .ok (.imul, 1) := by decide +kernel
theorem dX6_waysOfGroup_8 : decode cX6_waysOfGroup 8 = .ok (.istore 7, 2) := by decide +kernel
theorem dX6_waysOfGroup_10 : decode cX6_waysOfGroup 10 = .ok (.iload 7, 2) := by decide +kernel
theorem dX6_waysOfGroup_12 : decode cX6_waysOfGroup 12 = .ok (.iload 5, 2) := by decide +kernel
theorem dX6_waysOfGroup_14 : decode cX6_waysOfGroup 14 = .ok (.iconst 1, 1) := by decide +kernel
theorem dX6_waysOfGroup_15 : decode cX6_waysOfGroup 15 = .ok (.iadd, 1) := by decide +kernel
theorem dX6_waysOfGroup_16 : decode cX6_waysOfGroup 16 = .ok (.bipush 24, 2) := by decide +kernel
theorem dX6_waysOfGroup_18 : decode cX6_waysOfGroup 18 = .ok (.imul, 1) := by decide +kernel
theorem dX6_waysOfGroup_19 : decode cX6_waysOfGroup 19 = .ok (.if_icmp .ge 73, 3) := by decide +kernel
theorem dX6_waysOfGroup_22 : decode cX6_waysOfGroup 22 = .ok (.iconst 1, 1) := by decide +kernel
theorem dX6_waysOfGroup_23 : decode cX6_waysOfGroup 23 = .ok (.istore 8, 2) := by decide +kernel
theorem dX6_waysOfGroup_25 : decode cX6_waysOfGroup 25 = .ok (.iconst 0, 1) := by decide +kernel
theorem dX6_waysOfGroup_26 : decode cX6_waysOfGroup 26 = .ok (.istore 9, 2) := by decide +kernel
theorem dX6_waysOfGroup_28 : decode cX6_waysOfGroup 28 = .ok (.iload 9, 2) := by decide +kernel
theorem dX6_waysOfGroup_30 : decode cX6_waysOfGroup 30 = .ok (.aload_n 3, 1) := by decide +kernel
theorem dX6_waysOfGroup_31 : decode cX6_waysOfGroup 31 = .ok (.getfield 53, 3) := by decide +kernel
theorem dX6_waysOfGroup_34 : decode cX6_waysOfGroup 34 = .ok (.if_icmp .ge 45, 3) := by decide +kernel
theorem dX6_waysOfGroup_37 : decode cX6_waysOfGroup 37 = .ok (.iload 8, 2) := by decide +kernel
theorem dX6_waysOfGroup_39 : decode cX6_waysOfGroup 39 = .ok (.ifCond .le 40, 3) := by decide +kernel
theorem dX6_waysOfGroup_42 : decode cX6_waysOfGroup 42 = .ok (.iload 8, 2) := by decide +kernel
theorem dX6_waysOfGroup_44 : decode cX6_waysOfGroup 44 = .ok (.aload_n 3, 1) := by decide +kernel
theorem dX6_waysOfGroup_45 : decode cX6_waysOfGroup 45 = .ok (.iload 9, 2) := by decide +kernel
theorem dX6_waysOfGroup_47 : decode cX6_waysOfGroup 47 = .ok (.invokevirtual 80, 3) := by decide +kernel
theorem dX6_waysOfGroup_50 : decode cX6_waysOfGroup 50 = .ok (.iload 4, 2) := by decide +kernel
theorem dX6_waysOfGroup_52 : decode cX6_waysOfGroup 52 = .ok (.if_icmp .ne 17, 3) := by decide +kernel
theorem dX6_waysOfGroup_55 : decode cX6_waysOfGroup 55 = .ok (.aload_n 0, 1) := by decide +kernel
theorem dX6_waysOfGroup_56 : decode cX6_waysOfGroup 56 = .ok (.aload_n 1, 1) := by decide +kernel
theorem dX6_waysOfGroup_57 : decode cX6_waysOfGroup 57 = .ok (.aload_n 2, 1) := by decide +kernel
theorem dX6_waysOfGroup_58 : decode cX6_waysOfGroup 58 = .ok (.aload_n 3, 1) := by decide +kernel
theorem dX6_waysOfGroup_59 : decode cX6_waysOfGroup 59 = .ok (.iload 9, 2) := by decide +kernel
theorem dX6_waysOfGroup_61 : decode cX6_waysOfGroup 61 = .ok (.iload 7, 2) := by decide +kernel
theorem dX6_waysOfGroup_63 : decode cX6_waysOfGroup 63 = .ok (.invokevirtual 83, 3) := by decide +kernel
theorem dX6_waysOfGroup_66 : decode cX6_waysOfGroup 66 = .ok (.goto 4, 3) := by decide +kernel
theorem dX6_waysOfGroup_69 : decode cX6_waysOfGroup 69 = .ok (.iconst 1, 1) := by decide +kernel
theorem dX6_waysOfGroup_70 : decode cX6_waysOfGroup 70 = .ok (.imul, 1) := by decide +kernel
theorem dX6_waysOfGroup_71 : decode cX6_waysOfGroup 71 = .ok (.istore 8, 2) := by decide +kernel
theorem dX6_waysOfGroup_73 : decode cX6_waysOfGroup 73 = .ok (.iinc 9 1, 3) := by decide +kernel
theorem dX6_waysOfGroup_76 : decode cX6_waysOfGroup 76 = .ok (.goto (-48), 3) := by decide +kernel
theorem dX6_waysOfGroup_79 : decode cX6_waysOfGroup 79 = .ok (.iload 6, 2) := by decide +kernel
theorem dX6_waysOfGroup_81 : decode cX6_waysOfGroup 81 = .ok (.iload 8, 2) := by decide +kernel
theorem dX6_waysOfGroup_83 : decode cX6_waysOfGroup 83 = .ok (.iadd, 1) := by decide +kernel
theorem dX6_waysOfGroup_84 : decode cX6_waysOfGroup 84 = .ok (.istore 6, 2) := by decide +kernel
theorem dX6_waysOfGroup_86 : decode cX6_waysOfGroup 86 = .ok (.iinc 7 4, 3) := by decide +kernel
theorem dX6_waysOfGroup_89 : decode cX6_waysOfGroup 89 = .ok (.goto (-79), 3) := by decide +kernel
theorem dX6_waysOfGroup_92 : decode cX6_waysOfGroup 92 = .ok (.iload 6, 2) := by decide +kernel
theorem dX6_waysOfGroup_94 : decode cX6_waysOfGroup 94 = .ok (.ireturn, 1) := by decide +kernel
theorem dX6_waysOfHole_0 : decode cX6_waysOfHole 0 = .ok (.iconst 0, 1) := by decide +kernel
theorem dX6_waysOfHole_1 : decode cX6_waysOfHole 1 = .ok (.istore 6, 2) := by decide +kernel
theorem dX6_waysOfHole_3 : decode cX6_waysOfHole 3 = .ok (.iload 5, 2) := by decide +kernel
theorem dX6_waysOfHole_5 : decode cX6_waysOfHole 5 = .ok (.aload_n 3, 1) := by decide +kernel
theorem dX6_waysOfHole_6 : decode cX6_waysOfHole 6 = .ok (.iload 4, 2) := by decide +kernel
theorem dX6_waysOfHole_8 : decode cX6_waysOfHole 8 = .ok (.invokevirtual 93, 3) := by decide +kernel
theorem dX6_waysOfHole_11 : decode cX6_waysOfHole 11 = .ok (.iconst 0, 1) := by decide +kernel
theorem dX6_waysOfHole_12 : decode cX6_waysOfHole 12 = .ok (.invokestatic 96, 3) := by decide +kernel
theorem dX6_waysOfHole_15 : decode cX6_waysOfHole 15 = .ok (.iadd, 1) := by decide +kernel
theorem dX6_waysOfHole_16 : decode cX6_waysOfHole 16 = .ok (.istore 7, 2) := by decide +kernel
theorem dX6_waysOfHole_18 : decode cX6_waysOfHole 18 = .ok (.iconst 0, 1) := by decide +kernel
theorem dX6_waysOfHole_19 : decode cX6_waysOfHole 19 = .ok (.istore 8, 2) := by decide +kernel
theorem dX6_waysOfHole_21 : decode cX6_waysOfHole 21 = .ok (.iload 8, 2) := by decide +kernel
theorem dX6_waysOfHole_23 : decode cX6_waysOfHole 23 = .ok (.aload_n 1, 1) := by decide +kernel
theorem dX6_waysOfHole_24 : decode cX6_waysOfHole 24 = .ok (.getfield 102, 3) := by decide +kernel
theorem dX6_waysOfHole_27 : decode cX6_waysOfHole 27 = .ok (.if_icmp .ge 67, 3) := by decide +kernel
theorem dX6_waysOfHole_30 : decode cX6_waysOfHole 30 = .ok (.aload_n 1, 1) := by decide +kernel
theorem dX6_waysOfHole_31 : decode cX6_waysOfHole 31 = .ok (.iload 8, 2) := by decide +kernel
theorem dX6_waysOfHole_33 : decode cX6_waysOfHole 33 = .ok (.invokevirtual 105, 3) := by decide +kernel
theorem dX6_waysOfHole_36 : decode cX6_waysOfHole 36 = .ok (.astore 9, 2) := by decide +kernel
theorem dX6_waysOfHole_38 : decode cX6_waysOfHole 38 = .ok (.aload 9, 2) := by decide +kernel
theorem dX6_waysOfHole_40 : decode cX6_waysOfHole 40 = .ok (.ifnull 48, 3) := by decide +kernel
theorem dX6_waysOfHole_43 : decode cX6_waysOfHole 43 = .ok (.aload_n 3, 1) := by decide +kernel
theorem dX6_waysOfHole_44 : decode cX6_waysOfHole 44 = .ok (.iload 4, 2) := by decide +kernel
theorem dX6_waysOfHole_46 : decode cX6_waysOfHole 46 = .ok (.aload 9, 2) := by decide +kernel
theorem dX6_waysOfHole_48 : decode cX6_waysOfHole 48 = .ok (.iload 5, 2) := by decide +kernel
theorem dX6_waysOfHole_50 : decode cX6_waysOfHole 50 = .ok (.invokestatic 109, 3) := by decide +kernel
theorem dX6_waysOfHole_53 : decode cX6_waysOfHole 53 = .ok (.ifCond .eq 35, 3) := by decide +kernel
theorem dX6_waysOfHole_56 : decode cX6_waysOfHole 56 = .ok (.aload_n 1, 1) := by decide +kernel
theorem dX6_waysOfHole_57 : decode cX6_waysOfHole 57 = .ok (.aload 9, 2) := by decide +kernel
theorem dX6_waysOfHole_59 : decode cX6_waysOfHole 59 = .ok (.iload 7, 2) := by decide +kernel
theorem dX6_waysOfHole_61 : decode cX6_waysOfHole 61 = .ok (.aload_n 0, 1) := by decide +kernel
theorem dX6_waysOfHole_62 : decode cX6_waysOfHole 62 = .ok (.getfield 14, 3) := by decide +kernel
theorem dX6_waysOfHole_65 : decode cX6_waysOfHole 65 = .ok (.invokevirtual 113, 3) := by decide +kernel
theorem dX6_waysOfHole_68 : decode cX6_waysOfHole 68 = .ok (.iload 6, 2) := by decide +kernel
theorem dX6_waysOfHole_70 : decode cX6_waysOfHole 70 = .ok (.aload_n 0, 1) := by decide +kernel
theorem dX6_waysOfHole_71 : decode cX6_waysOfHole 71 = .ok (.aload_n 2, 1) := by decide +kernel
theorem dX6_waysOfHole_72 : decode cX6_waysOfHole 72 = .ok (.iload 4, 2) := by decide +kernel
theorem dX6_waysOfHole_74 : decode cX6_waysOfHole 74 = .ok (.invokevirtual 117, 3) := by decide +kernel
theorem dX6_waysOfHole_77 : decode cX6_waysOfHole 77 = .ok (.ifCond .eq 7, 3) := by decide +kernel
theorem dX6_waysOfHole_80 : decode cX6_waysOfHole 80 = .ok (.iconst 1, 1) := by decide +kernel
theorem dX6_waysOfHole_81 : decode cX6_waysOfHole 81 = .ok (.goto 4, 3) := by decide +kernel
theorem dX6_waysOfHole_84 : decode cX6_waysOfHole 84 = .ok (.iconst 0, 1) := by decide +kernel
theorem dX6_waysOfHole_85 : decode cX6_waysOfHole 85 = .ok (.iadd, 1) := by decide +kernel
theorem dX6_waysOfHole_86 : decode cX6_waysOfHole 86 = .ok (.istore 6, 2) := by decide +kernel
theorem dX6_waysOfHole_88 : decode cX6_waysOfHole 88 = .ok (.iinc 8 1, 3) := by decide +kernel
theorem dX6_waysOfHole_91 : decode cX6_waysOfHole 91 = .ok (.goto (-70), 3) := by decide +kernel
theorem dX6_waysOfHole_94 : decode cX6_waysOfHole 94 = .ok (.iload 6, 2) := by decide +kernel
theorem dX6_waysOfHole_96 : decode cX6_waysOfHole 96 = .ok (.ireturn, 1) := by decide +kernel
theorem dX6_farnessOfFrame_0 : decode cX6_farnessOfFrame 0 = .ok (.iconst 0, 1) := by decide +kernel
theorem dX6_farnessOfFrame_1 : decode cX6_farnessOfFrame 1 = .ok (.istore 5, 2) := by decide +kernel
theorem dX6_farnessOfFrame_3 : decode cX6_farnessOfFrame 3 = .ok (.iconst 0, 1) := by decide +kernel
theorem dX6_farnessOfFrame_4 : decode cX6_farnessOfFrame 4 = .ok (.istore 6, 2) := by decide +kernel
theorem dX6_farnessOfFrame_6 : decode cX6_farnessOfFrame 6 = .ok (.iload 6, 2) := by decide +kernel
theorem dX6_farnessOfFrame_8 : decode cX6_farnessOfFrame 8 = .ok (.aload_n 3, 1) := by decide +kernel
theorem dX6_farnessOfFrame_9 : decode cX6_farnessOfFrame 9 = .ok (.getfield 53, 3) := by decide +kernel
theorem dX6_farnessOfFrame_12 : decode cX6_farnessOfFrame 12 = .ok (.if_icmp .ge 38, 3) := by decide +kernel
theorem dX6_farnessOfFrame_15 : decode cX6_farnessOfFrame 15 = .ok (.iload 5, 2) := by decide +kernel
theorem dX6_farnessOfFrame_17 : decode cX6_farnessOfFrame 17 = .ok (.aload_n 3, 1) := by decide +kernel
theorem dX6_farnessOfFrame_18 : decode cX6_farnessOfFrame 18 = .ok (.iload 6, 2) := by decide +kernel
theorem dX6_farnessOfFrame_20 : decode cX6_farnessOfFrame 20 = .ok (.invokevirtual 80, 3) := by decide +kernel
theorem dX6_farnessOfFrame_23 : decode cX6_farnessOfFrame 23 = .ok (.iconst (-1), 1) := by decide +kernel
theorem dX6_farnessOfFrame_24 : decode cX6_farnessOfFrame 24 = .ok (.if_icmp .ne 16, 3) := by decide +kernel
theorem dX6_farnessOfFrame_27 : decode cX6_farnessOfFrame 27 = .ok (.aload_n 0, 1) := by decide +kernel
theorem dX6_farnessOfFrame_28 : decode cX6_farnessOfFrame 28 = .ok (.aload_n 1, 1) := by decide +kernel
theorem dX6_farnessOfFrame_29 : decode cX6_farnessOfFrame 29 = .ok (.aload_n 2, 1) := by decide +kernel
theorem dX6_farnessOfFrame_30 : decode cX6_farnessOfFrame 30 = .ok (.aload_n 3, 1) := by decide +kernel
theorem dX6_farnessOfFrame_31 : decode cX6_farnessOfFrame 31 = .ok (.iload 6, 2) := by decide +kernel
theorem dX6_farnessOfFrame_33 : decode cX6_farnessOfFrame 33 = .ok (.iconst 0, 1) := by decide +kernel
theorem dX6_farnessOfFrame_34 : decode cX6_farnessOfFrame 34 = .ok (.invokevirtual 121, 3) := by decide +kernel
theorem dX6_farnessOfFrame_37 : decode cX6_farnessOfFrame 37 = .ok (.goto 4, 3) := by decide +kernel
theorem dX6_farnessOfFrame_40 : decode cX6_farnessOfFrame 40 = .ok (.iconst 0, 1) := by decide +kernel
theorem dX6_farnessOfFrame_41 : decode cX6_farnessOfFrame 41 = .ok (.iadd, 1) := by decide +kernel
theorem dX6_farnessOfFrame_42 : decode cX6_farnessOfFrame 42 = .ok (.istore 5, 2) := by decide +kernel
theorem dX6_farnessOfFrame_44 : decode cX6_farnessOfFrame 44 = .ok (.iinc 6 1, 3) := by decide +kernel
theorem dX6_farnessOfFrame_47 : decode cX6_farnessOfFrame 47 = .ok (.goto (-41), 3) := by decide +kernel
theorem dX6_farnessOfFrame_50 : decode cX6_farnessOfFrame 50 = .ok (.iconst 0, 1) := by decide +kernel
theorem dX6_farnessOfFrame_51 : decode cX6_farnessOfFrame 51 = .ok (.istore 6, 2) := by decide +kernel
theorem dX6_farnessOfFrame_53 : decode cX6_farnessOfFrame 53 = .ok (.iload 6, 2) := by decide +kernel
theorem dX6_farnessOfFrame_55 : decode cX6_farnessOfFrame 55 = .ok (.iconst 3, 1) := by decide +kernel
theorem dX6_farnessOfFrame_56 : decode cX6_farnessOfFrame 56 = .ok (.if_icmp .ge 39, 3) := by decide +kernel
theorem dX6_farnessOfFrame_59 : decode cX6_farnessOfFrame 59 = .ok (.iload 5, 2) := by decide +kernel
theorem dX6_farnessOfFrame_61 : decode cX6_farnessOfFrame 61 = .ok (.aload_n 3, 1) := by decide +kernel
theorem dX6_farnessOfFrame_62 : decode cX6_farnessOfFrame 62 = .ok (.iload 6, 2) := by decide +kernel
theorem dX6_farnessOfFrame_64 : decode cX6_farnessOfFrame 64 = .ok (.invokevirtual 87, 3) := by decide +kernel
theorem dX6_farnessOfFrame_67 : decode cX6_farnessOfFrame 67 = .ok (.iconst (-1), 1) := by decide +kernel
theorem dX6_farnessOfFrame_68 : decode cX6_farnessOfFrame 68 = .ok (.if_icmp .ne 7, 3) := by decide +kernel
theorem dX6_farnessOfFrame_71 : decode cX6_farnessOfFrame 71 = .ok (.iconst 0, 1) := by decide +kernel
theorem dX6_farnessOfFrame_72 : decode cX6_farnessOfFrame 72 = .ok (.goto 14, 3) := by decide +kernel
theorem dX6_farnessOfFrame_75 : decode cX6_farnessOfFrame 75 = .ok (.aload_n 0, 1) := by decide +kernel
theorem dX6_farnessOfFrame_76 : decode cX6_farnessOfFrame 76 = .ok (.aload_n 1, 1) := by decide +kernel
theorem dX6_farnessOfFrame_77 : decode cX6_farnessOfFrame 77 = .ok (.aload_n 2, 1) := by decide +kernel
theorem dX6_farnessOfFrame_78 : decode cX6_farnessOfFrame 78 = .ok (.aload_n 3, 1) := by decide +kernel
theorem dX6_farnessOfFrame_79 : decode cX6_farnessOfFrame 79 = .ok (.iload 6, 2) := by decide +kernel
theorem dX6_farnessOfFrame_81 : decode cX6_farnessOfFrame 81 = .ok (.iload 4, 2) := by decide +kernel
theorem dX6_farnessOfFrame_83 : decode cX6_farnessOfFrame 83 = .ok (.invokevirtual 124, 3) := by decide +kernel
theorem dX6_farnessOfFrame_86 : decode cX6_farnessOfFrame 86 = .ok (.iadd, 1) := by decide +kernel
theorem dX6_farnessOfFrame_87 : decode cX6_farnessOfFrame 87 = .ok (.istore 5, 2) := by decide +kernel
theorem dX6_farnessOfFrame_89 : decode cX6_farnessOfFrame 89 = .ok (.iinc 6 1, 3) := by decide +kernel
theorem dX6_farnessOfFrame_92 : decode cX6_farnessOfFrame 92 = .ok (.goto (-39), 3) := by decide +kernel
theorem dX6_farnessOfFrame_95 : decode cX6_farnessOfFrame 95 = .ok (.iload 5, 2) := by decide +kernel
theorem dX6_farnessOfFrame_97 : decode cX6_farnessOfFrame 97 = .ok (.ireturn, 1) := by decide +kernel
theorem dX6_farnessOfGroup_0 : decode cX6_farnessOfGroup 0 = .ok (.ldc 65, 2) := by decide +kernel
theorem dX6_farnessOfGroup_2 : decode cX6_farnessOfGroup 2 = .ok (.istore 6, 2) := by decide +kernel
theorem dX6_farnessOfGroup_4 : decode cX6_farnessOfGroup 4 = .ok (.iload 5, 2) := by decide +kernel
theorem dX6_farnessOfGroup_6 : decode cX6_farnessOfGroup 6 = .ok (.bipush 24, 2) := by decide +kernel
theorem dX6_farnessOfGroup_8 : decode cX6_farnessOfGroup 8 = .ok (.imul, 1) := by decide +kernel
theorem dX6_farnessOfGroup_9 : decode cX6_farnessOfGroup 9 = .ok (.istore 7, 2) := by decide +kernel
theorem dX6_farnessOfGroup_11 : decode cX6_farnessOfGroup 11 = .ok (.iload 7, 2) := by decide +kernel
theorem dX6_farnessOfGroup_13 : decode cX6_farnessOfGroup 13 = .ok (.iload 5, 2) := by decide +kernel
theorem dX6_farnessOfGroup_15 : decode cX6_farnessOfGroup 15 = .ok (.iconst 1, 1) := by decide +kernel
theorem dX6_farnessOfGroup_16 : decode cX6_farnessOfGroup 16 = .ok (.iadd, 1) := by decide +kernel
theorem dX6_farnessOfGroup_17 : decode cX6_farnessOfGroup 17 = .ok (.bipush 24, 2) := by decide +kernel
theorem dX6_farnessOfGroup_19 : decode cX6_farnessOfGroup 19 = .ok (.imul, 1) := by decide +kernel
theorem dX6_farnessOfGroup_20 : decode cX6_farnessOfGroup 20 = .ok (.if_icmp .ge 77, 3) := by decide +kernel
theorem dX6_farnessOfGroup_23 : decode cX6_farnessOfGroup 23 = .ok (.iconst 0, 1) := by decide +kernel
theorem dX6_farnessOfGroup_24 : decode cX6_farnessOfGroup 24 = .ok (.istore 8, 2) := by decide +kernel
theorem dX6_farnessOfGroup_26 : decode cX6_farnessOfGroup 26 = .ok (.iconst 0, 1) := by decide +kernel
theorem dX6_farnessOfGroup_27 : decode cX6_farnessOfGroup 27 = .ok (.istore 9, 2) := by decide +kernel
theorem dX6_farnessOfGroup_29 : decode cX6_farnessOfGroup 29 = .ok (.iload 9, 2) := by decide +kernel
theorem dX6_farnessOfGroup_31 : decode cX6_farnessOfGroup 31 = .ok (.aload_n 3, 1) := by decide +kernel
theorem dX6_farnessOfGroup_32 : decode cX6_farnessOfGroup 32 = .ok (.getfield 53, 3) := by decide +kernel
theorem dX6_farnessOfGroup_35 : decode cX6_farnessOfGroup 35 = .ok (.if_icmp .ge 47, 3) := by decide +kernel
theorem dX6_farnessOfGroup_38 : decode cX6_farnessOfGroup 38 = .ok (.iload 8, 2) := by decide +kernel
theorem dX6_farnessOfGroup_40 : decode cX6_farnessOfGroup 40 = .ok (.iload 6, 2) := by decide +kernel
theorem dX6_farnessOfGroup_42 : decode cX6_farnessOfGroup 42 = .ok (.if_icmp .ge 40, 3) := by decide +kernel
theorem dX6_farnessOfGroup_45 : decode cX6_farnessOfGroup 45 = .ok (.iload 8, 2) := by decide +kernel
theorem dX6_farnessOfGroup_47 : decode cX6_farnessOfGroup 47 = .ok (.aload_n 3, 1) := by decide +kernel
theorem dX6_farnessOfGroup_48 : decode cX6_farnessOfGroup 48 = .ok (.iload 9, 2) := by decide +kernel
theorem dX6_farnessOfGroup_50 : decode cX6_farnessOfGroup 50 = .ok (.invokevirtual 80, 3) := by decide +kernel
theorem dX6_farnessOfGroup_53 : decode cX6_farnessOfGroup 53 = .ok (.iload 4, 2) := by decide +kernel
theorem dX6_farnessOfGroup_55 : decode cX6_farnessOfGroup 55 = .ok (.if_icmp .ne 17, 3) := by decide +kernel
theorem dX6_farnessOfGroup_58 : decode cX6_farnessOfGroup 58 = .ok (.aload_n 0, 1) := by decide +kernel
theorem dX6_farnessOfGroup_59 : decode cX6_farnessOfGroup 59 = .ok (.aload_n 1, 1) := by decide +kernel
theorem dX6_farnessOfGroup_60 : decode cX6_farnessOfGroup 60 = .ok (.aload_n 2, 1) := by decide +kernel
theorem dX6_farnessOfGroup_61 : decode cX6_farnessOfGroup 61 = .ok (.aload_n 3, 1) := by decide +kernel
theorem dX6_farnessOfGroup_62 : decode cX6_farnessOfGroup 62 = .ok (.iload 9, 2) := by decide +kernel
theorem dX6_farnessOfGroup_64 : decode cX6_farnessOfGroup 64 = .ok (.iload 7, 2) := by decide +kernel
theorem dX6_farnessOfGroup_66 : decode cX6_farnessOfGroup 66 = .ok (.invokevirtual 121, 3) := by decide +kernel
theorem dX6_farnessOfGroup_69 : decode cX6_farnessOfGroup 69 = .ok (.goto 4, 3) := by decide +kernel
theorem dX6_farnessOfGroup_72 : decode cX6_farnessOfGroup 72 = .ok (.iconst 0, 1) := by decide +kernel
theorem dX6_farnessOfGroup_73 : decode cX6_farnessOfGroup 73 = .ok (.iadd, 1) := by decide +kernel
theorem dX6_farnessOfGroup_74 : decode cX6_farnessOfGroup 74 = .ok (.istore 8, 2) := by decide +kernel
theorem dX6_farnessOfGroup_76 : decode cX6_farnessOfGroup 76 = .ok (.iinc 9 1, 3) := by decide +kernel
theorem dX6_farnessOfGroup_79 : decode cX6_farnessOfGroup 79 = .ok (.goto (-50), 3) := by decide +kernel
theorem dX6_farnessOfGroup_82 : decode cX6_farnessOfGroup 82 = .ok (.iload 6, 2) := by decide +kernel
theorem dX6_farnessOfGroup_84 : decode cX6_farnessOfGroup 84 = .ok (.iload 8, 2) := by decide +kernel
theorem dX6_farnessOfGroup_86 : decode cX6_farnessOfGroup 86 = .ok (.invokestatic 127, 3) := by decide +kernel
