theorem dX6_farnessOfGroup_89 : decode cX6_farnessOfGroup 89 = .ok (.istore 6, 2) := by decide +kernel
theorem dX6_farnessOfGroup_91 : decode cX6_farnessOfGroup 91 = .ok (.iinc 7 4, 3) := by decide +kernel
theorem dX6_farnessOfGroup_94 : decode cX6_farnessOfGroup 94 = .ok (.goto (-83), 3) := by decide +kernel
theorem dX6_farnessOfGroup_97 : decode cX6_farnessOfGroup 97 = .ok (.iload 6, 2) := by decide +kernel
theorem dX6_farnessOfGroup_99 : decode cX6_farnessOfGroup 99 = .ok (.ireturn, 1) := by decide +kernel
theorem dX6_farnessOfHole_0 : decode cX6_farnessOfHole 0 = .ok (.ldc 65, 2) := by decide +kernel
theorem dX6_farnessOfHole_2 : decode cX6_farnessOfHole 2 = .ok (.istore 6, 2) := by decide +kernel
theorem dX6_farnessOfHole_4 : decode cX6_farnessOfHole 4 = .ok (.iload 5, 2) := by decide +kernel
theorem dX6_farnessOfHole_6 : decode cX6_farnessOfHole 6 = .ok (.aload_n 3, 1) := by decide +kernel
theorem dX6_farnessOfHole_7 : decode cX6_farnessOfHole 7 = .ok (.iload 4, 2) := by decide +kernel
theorem dX6_farnessOfHole_9 : decode cX6_farnessOfHole 9 = .ok (.invokevirtual 93, 3) := by decide +kernel
theorem dX6_farnessOfHole_12 : decode cX6_farnessOfHole 12 = .ok (.iconst 0, 1) := by decide +kernel
theorem dX6_farnessOfHole_13 : decode cX6_farnessOfHole 13 = .ok (.invokestatic 96, 3) := by decide +kernel
theorem dX6_farnessOfHole_16 : decode cX6_farnessOfHole 16 = .ok (.iadd, 1) := by decide +kernel
theorem dX6_farnessOfHole_17 : decode cX6_farnessOfHole 17 = .ok (.istore 7, 2) := by decide +kernel
theorem dX6_farnessOfHole_19 : decode cX6_farnessOfHole 19 = .ok (.iconst 0, 1) := by decide +kernel
theorem dX6_farnessOfHole_20 : decode cX6_farnessOfHole 20 = .ok (.istore 8, 2) := by decide +kernel
theorem dX6_farnessOfHole_22 : decode cX6_farnessOfHole 22 = .ok (.iload 8, 2) := by decide +kernel
theorem dX6_farnessOfHole_24 : decode cX6_farnessOfHole 24 = .ok (.aload_n 1, 1) := by decide +kernel
theorem dX6_farnessOfHole_25 : decode cX6_farnessOfHole 25 = .ok (.getfield 102, 3) := by decide +kernel
theorem dX6_farnessOfHole_28 : decode cX6_farnessOfHole 28 = .ok (.if_icmp .ge 61, 3) := by decide +kernel
theorem dX6_farnessOfHole_31 : decode cX6_farnessOfHole 31 = .ok (.aload_n 1, 1) := by decide +kernel
theorem dX6_farnessOfHole_32 : decode cX6_farnessOfHole 32 = .ok (.iload 8, 2) := by decide +kernel
theorem dX6_farnessOfHole_34 : decode cX6_farnessOfHole 34 = .ok (.invokevirtual 105, 3) := by decide +kernel
theorem dX6_farnessOfHole_37 : decode cX6_farnessOfHole 37 = .ok (.astore 9, 2) := by decide +kernel
theorem dX6_farnessOfHole_39 : decode cX6_farnessOfHole 39 = .ok (.aload 9, 2) := by decide +kernel
theorem dX6_farnessOfHole_41 : decode cX6_farnessOfHole 41 = .ok (.ifnull 42, 3) := by decide +kernel
theorem dX6_farnessOfHole_44 : decode cX6_farnessOfHole 44 = .ok (.aload_n 3, 1) := by decide +kernel
theorem dX6_farnessOfHole_45 : decode cX6_farnessOfHole 45 = .ok (.iload 4, 2) := by decide +kernel
theorem dX6_farnessOfHole_47 : decode cX6_farnessOfHole 47 = .ok (.aload 9, 2) := by decide +kernel
theorem dX6_farnessOfHole_49 : decode cX6_farnessOfHole 49 = .ok (.iload 5, 2) := by decide +kernel
theorem dX6_farnessOfHole_51 : decode cX6_farnessOfHole 51 = .ok (.invokestatic 109, 3) := by decide +kernel
theorem dX6_farnessOfHole_54 : decode cX6_farnessOfHole 54 = .ok (.ifCond .eq 29, 3) := by decide +kernel
theorem dX6_farnessOfHole_57 : decode cX6_farnessOfHole 57 = .ok (.aload_n 1, 1) := by decide +kernel
theorem dX6_farnessOfHole_58 : decode cX6_farnessOfHole 58 = .ok (.aload 9, 2) := by decide +kernel
theorem dX6_farnessOfHole_60 : decode cX6_farnessOfHole 60 = .ok (.iload 7, 2) := by decide +kernel
theorem dX6_farnessOfHole_62 : decode cX6_farnessOfHole 62 = .ok (.aload_n 0, 1) := by decide +kernel
theorem dX6_farnessOfHole_63 : decode cX6_farnessOfHole 63 = .ok (.getfield 14, 3) := by decide +kernel
theorem dX6_farnessOfHole_66 : decode cX6_farnessOfHole 66 = .ok (.invokevirtual 113, 3) := by decide +kernel
theorem dX6_farnessOfHole_69 : decode cX6_farnessOfHole 69 = .ok (.iload 6, 2) := by decide +kernel
theorem dX6_farnessOfHole_71 : decode cX6_farnessOfHole 71 = .ok (.aload_n 0, 1) := by decide +kernel
theorem dX6_farnessOfHole_72 : decode cX6_farnessOfHole 72 = .ok (.aload_n 2, 1) := by decide +kernel
theorem dX6_farnessOfHole_73 : decode cX6_farnessOfHole 73 = .ok (.iload 4, 2) := by decide +kernel
theorem dX6_farnessOfHole_75 : decode cX6_farnessOfHole 75 = .ok (.invokevirtual 130, 3) := by decide +kernel
theorem dX6_farnessOfHole_78 : decode cX6_farnessOfHole 78 = .ok (.invokestatic 127, 3) := by decide +kernel
theorem dX6_farnessOfHole_81 : decode cX6_farnessOfHole 81 = .ok (.istore 6, 2) := by decide +kernel
theorem dX6_farnessOfHole_83 : decode cX6_farnessOfHole 83 = .ok (.iinc 8 1, 3) := by decide +kernel
theorem dX6_farnessOfHole_86 : decode cX6_farnessOfHole 86 = .ok (.goto (-64), 3) := by decide +kernel
theorem dX6_farnessOfHole_89 : decode cX6_farnessOfHole 89 = .ok (.iload 6, 2) := by decide +kernel
theorem dX6_farnessOfHole_91 : decode cX6_farnessOfHole 91 = .ok (.ireturn, 1) := by decide +kernel
theorem dX6_fits_0 : decode cX6_fits 0 = .ok (.aload_n 0, 1) := by decide +kernel
theorem dX6_fits_1 : decode cX6_fits 1 = .ok (.iload_n 1, 1) := by decide +kernel
theorem dX6_fits_2 : decode cX6_fits 2 = .ok (.aload_n 2, 1) := by decide +kernel
theorem dX6_fits_3 : decode cX6_fits 3 = .ok (.invokevirtual 134, 3) := by decide +kernel
theorem dX6_fits_6 : decode cX6_fits 6 = .ok (.ifCond .ne 5, 3) := by decide +kernel
theorem dX6_fits_9 : decode cX6_fits 9 = .ok (.iconst 0, 1) := by decide +kernel
theorem dX6_fits_10 : decode cX6_fits 10 = .ok (.ireturn, 1) := by decide +kernel
theorem dX6_fits_11 : decode cX6_fits 11 = .ok (.iload_n 3, 1) := by decide +kernel
theorem dX6_fits_12 : decode cX6_fits 12 = .ok (.iconst 4, 1) := by decide +kernel
theorem dX6_fits_13 : decode cX6_fits 13 = .ok (.idiv, 1) := by decide +kernel
theorem dX6_fits_14 : decode cX6_fits 14 = .ok (.iconst 2, 1) := by decide +kernel
theorem dX6_fits_15 : decode cX6_fits 15 = .ok (.irem, 1) := by decide +kernel
theorem dX6_fits_16 : decode cX6_fits 16 = .ok (.istore 4, 2) := by decide +kernel
theorem dX6_fits_18 : decode cX6_fits 18 = .ok (.iload_n 3, 1) := by decide +kernel
theorem dX6_fits_19 : decode cX6_fits 19 = .ok (.bipush 8, 2) := by decide +kernel
theorem dX6_fits_21 : decode cX6_fits 21 = .ok (.idiv, 1) := by decide +kernel
theorem dX6_fits_22 : decode cX6_fits 22 = .ok (.iconst 3, 1) := by decide +kernel
theorem dX6_fits_23 : decode cX6_fits 23 = .ok (.irem, 1) := by decide +kernel
theorem dX6_fits_24 : decode cX6_fits 24 = .ok (.istore 5, 2) := by decide +kernel
theorem dX6_fits_26 : decode cX6_fits 26 = .ok (.aload_n 0, 1) := by decide +kernel
theorem dX6_fits_27 : decode cX6_fits 27 = .ok (.iload_n 1, 1) := by decide +kernel
theorem dX6_fits_28 : decode cX6_fits 28 = .ok (.invokevirtual 138, 3) := by decide +kernel
theorem dX6_fits_31 : decode cX6_fits 31 = .ok (.ifCond .ne 25, 3) := by decide +kernel
theorem dX6_fits_34 : decode cX6_fits 34 = .ok (.aload_n 2, 1) := by decide +kernel
theorem dX6_fits_35 : decode cX6_fits 35 = .ok (.getfield 141, 3) := by decide +kernel
theorem dX6_fits_38 : decode cX6_fits 38 = .ok (.iload 5, 2) := by decide +kernel
theorem dX6_fits_40 : decode cX6_fits 40 = .ok (.if_icmp .ne 20, 3) := by decide +kernel
theorem dX6_fits_43 : decode cX6_fits 43 = .ok (.aload_n 2, 1) := by decide +kernel
theorem dX6_fits_44 : decode cX6_fits 44 = .ok (.getfield 146, 3) := by decide +kernel
theorem dX6_fits_47 : decode cX6_fits 47 = .ok (.iconst 3, 1) := by decide +kernel
theorem dX6_fits_48 : decode cX6_fits 48 = .ok (.if_icmp .ne 8, 3) := by decide +kernel
theorem dX6_fits_51 : decode cX6_fits 51 = .ok (.iload 4, 2) := by decide +kernel
theorem dX6_fits_53 : decode cX6_fits 53 = .ok (.ifCond .ne 7, 3) := by decide +kernel
theorem dX6_fits_56 : decode cX6_fits 56 = .ok (.iconst 1, 1) := by decide +kernel
theorem dX6_fits_57 : decode cX6_fits 57 = .ok (.goto 4, 3) := by decide +kernel
theorem dX6_fits_60 : decode cX6_fits 60 = .ok (.iconst 0, 1) := by decide +kernel
theorem dX6_fits_61 : decode cX6_fits 61 = .ok (.ireturn, 1) := by decide +kernel
theorem dX6_startOf_0 : decode cX6_startOf 0 = .ok (.iload_n 1, 1) := by decide +kernel
theorem dX6_startOf_1 : decode cX6_startOf 1 = .ok (.bipush 6, 2) := by decide +kernel
theorem dX6_startOf_3 : decode cX6_startOf 3 = .ok (.invokestatic 149, 3) := by decide +kernel
theorem dX6_startOf_6 : decode cX6_startOf 6 = .ok (.ifCond .eq 12, 3) := by decide +kernel
theorem dX6_startOf_9 : decode cX6_startOf 9 = .ok (.aload_n 0, 1) := by decide +kernel
theorem dX6_startOf_10 : decode cX6_startOf 10 = .ok (.getfield 20, 3) := by decide +kernel
theorem dX6_startOf_13 : decode cX6_startOf 13 = .ok (.iload_n 1, 1) := by decide +kernel
theorem dX6_startOf_14 : decode cX6_startOf 14 = .ok (.iaload, 1) := by decide +kernel
theorem dX6_startOf_15 : decode cX6_startOf 15 = .ok (.goto 4, 3) := by decide +kernel
theorem dX6_startOf_18 : decode cX6_startOf 18 = .ok (.iconst 0, 1) := by decide +kernel
theorem dX6_startOf_19 : decode cX6_startOf 19 = .ok (.ireturn, 1) := by decide +kernel
theorem dX6_lengthOf_0 : decode cX6_lengthOf 0 = .ok (.iload_n 1, 1) := by decide +kernel
theorem dX6_lengthOf_1 : decode cX6_lengthOf 1 = .ok (.bipush 6, 2) := by decide +kernel
theorem dX6_lengthOf_3 : decode cX6_lengthOf 3 = .ok (.invokestatic 149, 3) := by decide +kernel
theorem dX6_lengthOf_6 : decode cX6_lengthOf 6 = .ok (.ifCond .eq 12, 3) := by decide +kernel
theorem dX6_lengthOf_9 : decode cX6_lengthOf 9 = .ok (.aload_n 0, 1) := by decide +kernel
theorem dX6_lengthOf_10 : decode cX6_lengthOf 10 = .ok (.getfield 24, 3) := by decide +kernel
theorem dX6_lengthOf_13 : decode cX6_lengthOf 13 = .ok (.iload_n 1, 1) := by decide +kernel
theorem dX6_lengthOf_14 : decode cX6_lengthOf 14 = .ok (.iaload, 1) := by decide +kernel
theorem dX6_lengthOf_15 : decode cX6_lengthOf 15 = .ok (.goto 4, 3) := by decide +kernel
theorem dX6_lengthOf_18 : decode cX6_lengthOf 18 = .ok (.iconst 0, 1) := by decide +kernel
theorem dX6_lengthOf_19 : decode cX6_lengthOf 19 = .ok (.ireturn, 1) := by decide +kernel
theorem dX6_isSpelledAt_0 : decode cX6_isSpelledAt 0 = .ok (.aload_n 0, 1) := by decide +kernel
theorem dX6_isSpelledAt_1 : decode cX6_isSpelledAt 1 = .ok (.getfield 14, 3) := by decide +kernel
theorem dX6_isSpelledAt_4 : decode cX6_isSpelledAt 4 = .ok (.getfield 75, 3) := by decide +kernel
theorem dX6_isSpelledAt_7 : decode cX6_isSpelledAt 7 = .ok (.aload_n 0, 1) := by decide +kernel
theorem dX6_isSpelledAt_8 : decode cX6_isSpelledAt 8 = .ok (.iload_n 2, 1) := by decide +kernel
theorem dX6_isSpelledAt_9 : decode cX6_isSpelledAt 9 = .ok (.invokevirtual 153, 3) := by decide +kernel
theorem dX6_isSpelledAt_12 : decode cX6_isSpelledAt 12 = .ok (.if_icmp .eq 5, 3) := by decide +kernel
theorem dX6_isSpelledAt_15 : decode cX6_isSpelledAt 15 = .ok (.iconst 0, 1) := by decide +kernel
theorem dX6_isSpelledAt_16 : decode cX6_isSpelledAt 16 = .ok (.ireturn, 1) := by decide +kernel
theorem dX6_isSpelledAt_17 : decode cX6_isSpelledAt 17 = .ok (.iconst 0, 1) := by decide +kernel
theorem dX6_isSpelledAt_18 : decode cX6_isSpelledAt 18 = .ok (.istore_n 3, 1) := by decide +kernel
theorem dX6_isSpelledAt_19 : decode cX6_isSpelledAt 19 = .ok (.iload_n 3, 1) := by decide +kernel
theorem dX6_isSpelledAt_20 : decode cX6_isSpelledAt 20 = .ok (.aload_n 0, 1) := by decide +kernel
theorem dX6_isSpelledAt_21 : decode cX6_isSpelledAt 21 = .ok (.getfield 14, 3) := by decide +kernel
theorem dX6_isSpelledAt_24 : decode cX6_isSpelledAt 24 = .ok (.getfield 75, 3) := by decide +kernel
theorem dX6_isSpelledAt_27 : decode cX6_isSpelledAt 27 = .ok (.if_icmp .ge 33, 3) := by decide +kernel
theorem dX6_isSpelledAt_30 : decode cX6_isSpelledAt 30 = .ok (.aload_n 0, 1) := by decide +kernel
theorem dX6_isSpelledAt_31 : decode cX6_isSpelledAt 31 = .ok (.getfield 14, 3) := by decide +kernel
theorem dX6_isSpelledAt_34 : decode cX6_isSpelledAt 34 = .ok (.iload_n 3, 1) := by decide +kernel
theorem dX6_isSpelledAt_35 : decode cX6_isSpelledAt 35 = .ok (.invokevirtual 76, 3) := by decide +kernel
theorem dX6_isSpelledAt_38 : decode cX6_isSpelledAt 38 = .ok (.aload_n 1, 1) := by decide +kernel
theorem dX6_isSpelledAt_39 : decode cX6_isSpelledAt 39 = .ok (.aload_n 0, 1) := by decide +kernel
theorem dX6_isSpelledAt_40 : decode cX6_isSpelledAt 40 = .ok (.iload_n 2, 1) := by decide +kernel
theorem dX6_isSpelledAt_41 : decode cX6_isSpelledAt 41 = .ok (.invokevirtual 156, 3) := by decide +kernel
theorem dX6_isSpelledAt_44 : decode cX6_isSpelledAt 44 = .ok (.iload_n 3, 1) := by decide +kernel
theorem dX6_isSpelledAt_45 : decode cX6_isSpelledAt 45 = .ok (.iadd, 1) := by decide +kernel
theorem dX6_isSpelledAt_46 : decode cX6_isSpelledAt 46 = .ok (.invokevirtual 76, 3) := by decide +kernel
theorem dX6_isSpelledAt_49 : decode cX6_isSpelledAt 49 = .ok (.if_icmp .eq 5, 3) := by decide +kernel
theorem dX6_isSpelledAt_52 : decode cX6_isSpelledAt 52 = .ok (.iconst 0, 1) := by decide +kernel
theorem dX6_isSpelledAt_53 : decode cX6_isSpelledAt 53 = .ok (.ireturn, 1) := by decide +kernel
theorem dX6_isSpelledAt_54 : decode cX6_isSpelledAt 54 = .ok (.iinc 3 1, 3) := by decide +kernel
theorem dX6_isSpelledAt_57 : decode cX6_isSpelledAt 57 = .ok (.goto (-38), 3) := by decide +kernel
theorem dX6_isSpelledAt_60 : decode cX6_isSpelledAt 60 = .ok (.iconst 1, 1) := by decide +kernel
theorem dX6_isSpelledAt_61 : decode cX6_isSpelledAt 61 = .ok (.ireturn, 1) := by decide +kernel
theorem dX6_apartFrom_0 : decode cX6_apartFrom 0 = .ok (.aload_n 0, 1) := by decide +kernel
theorem dX6_apartFrom_1 : decode cX6_apartFrom 1 = .ok (.getfield 14, 3) := by decide +kernel
theorem dX6_apartFrom_4 : decode cX6_apartFrom 4 = .ok (.getfield 75, 3) := by decide +kernel
theorem dX6_apartFrom_7 : decode cX6_apartFrom 7 = .ok (.bipush 10, 2) := by decide +kernel
theorem dX6_apartFrom_9 : decode cX6_apartFrom 9 = .ok (.invokestatic 127, 3) := by decide +kernel
theorem dX6_apartFrom_12 : decode cX6_apartFrom 12 = .ok (.istore_n 3, 1) := by decide +kernel
theorem dX6_apartFrom_13 : decode cX6_apartFrom 13 = .ok (.iconst 0, 1) := by decide +kernel
theorem dX6_apartFrom_14 : decode cX6_apartFrom 14 = .ok (.istore 4, 2) := by decide +kernel
theorem dX6_apartFrom_16 : decode cX6_apartFrom 16 = .ok (.iload 4, 2) := by decide +kernel
theorem dX6_apartFrom_18 : decode cX6_apartFrom 18 = .ok (.iload_n 3, 1) := by decide +kernel
theorem dX6_apartFrom_19 : decode cX6_apartFrom 19 = .ok (.if_icmp .gt 18, 3) := by decide +kernel
theorem dX6_apartFrom_22 : decode cX6_apartFrom 22 = .ok (.aload_n 0, 1) := by decide +kernel
theorem dX6_apartFrom_23 : decode cX6_apartFrom 23 = .ok (.getfield 27, 3) := by decide +kernel
theorem dX6_apartFrom_26 : decode cX6_apartFrom 26 = .ok (.iload 4, 2) := by decide +kernel
theorem dX6_apartFrom_28 : decode cX6_apartFrom 28 = .ok (.iload 4, 2) := by decide +kernel
theorem dX6_apartFrom_30 : decode cX6_apartFrom 30 = .ok (.iastore, 1) := by decide +kernel
theorem dX6_apartFrom_31 : decode cX6_apartFrom 31 = .ok (.iinc 4 1, 3) := by decide +kernel
theorem dX6_apartFrom_34 : decode cX6_apartFrom 34 = .ok (.goto (-18), 3) := by decide +kernel
theorem dX6_apartFrom_37 : decode cX6_apartFrom 37 = .ok (.iconst 1, 1) := by decide +kernel
theorem dX6_apartFrom_38 : decode cX6_apartFrom 38 = .ok (.istore 4, 2) := by decide +kernel
theorem dX6_apartFrom_40 : decode cX6_apartFrom 40 = .ok (.iload 4, 2) := by decide +kernel
theorem dX6_apartFrom_42 : decode cX6_apartFrom 42 = .ok (.aload_n 0, 1) := by decide +kernel
theorem dX6_apartFrom_43 : decode cX6_apartFrom 43 = .ok (.iload_n 2, 1) := by decide +kernel
theorem dX6_apartFrom_44 : decode cX6_apartFrom 44 = .ok (.invokevirtual 153, 3) := by decide +kernel
theorem dX6_apartFrom_47 : decode cX6_apartFrom 47 = .ok (.if_icmp .gt 124, 3) := by decide +kernel
theorem dX6_apartFrom_50 : decode cX6_apartFrom 50 = .ok (.aload_n 1, 1) := by decide +kernel
theorem dX6_apartFrom_51 : decode cX6_apartFrom 51 = .ok (.aload_n 0, 1) := by decide +kernel
theorem dX6_apartFrom_52 : decode cX6_apartFrom 52 = .ok (.iload_n 2, 1) := by decide +kernel
theorem dX6_apartFrom_53 : decode cX6_apartFrom 53 = .ok (.invokevirtual 156, 3) := by decide +kernel
theorem dX6_apartFrom_56 : decode cX6_apartFrom 56 = .ok (.iload 4, 2) := by decide +kernel
theorem dX6_apartFrom_58 : decode cX6_apartFrom 58 = .ok (.iadd, 1) := by decide +kernel
theorem dX6_apartFrom_59 : decode cX6_apartFrom 59 = .ok (.iconst 1, 1) := by decide +kernel
theorem dX6_apartFrom_60 : decode cX6_apartFrom 60 = .ok (.isub, 1) := by decide +kernel
theorem dX6_apartFrom_61 : decode cX6_apartFrom 61 = .ok (.invokevirtual 76, 3) := by decide +kernel
theorem dX6_apartFrom_64 : decode cX6_apartFrom 64 = .ok (.istore 5, 2) := by decide +kernel
theorem dX6_apartFrom_66 : decode cX6_apartFrom 66 = .ok (.aload_n 0, 1) := by decide +kernel
theorem dX6_apartFrom_67 : decode cX6_apartFrom 67 = .ok (.getfield 27, 3) := by decide +kernel
theorem dX6_apartFrom_70 : decode cX6_apartFrom 70 = .ok (.iconst 0, 1) := by decide +kernel
theorem dX6_apartFrom_71 : decode cX6_apartFrom 71 = .ok (.iaload, 1) := by decide +kernel
theorem dX6_apartFrom_72 : decode cX6_apartFrom 72 = .ok (.istore 6, 2) := by decide +kernel
theorem dX6_apartFrom_74 : decode cX6_apartFrom 74 = .ok (.aload_n 0, 1) := by decide +kernel
theorem dX6_apartFrom_75 : decode cX6_apartFrom 75 = .ok (.getfield 27, 3) := by decide +kernel
theorem dX6_apartFrom_78 : decode cX6_apartFrom 78 = .ok (.iconst 0, 1) := by decide +kernel
theorem dX6_apartFrom_79 : decode cX6_apartFrom 79 = .ok (.iload 4, 2) := by decide +kernel
theorem dX6_apartFrom_81 : decode cX6_apartFrom 81 = .ok (.iastore, 1) := by decide +kernel
theorem dX6_apartFrom_82 : decode cX6_apartFrom 82 = .ok (.iconst 1, 1) := by decide +kernel
theorem dX6_apartFrom_83 : decode cX6_apartFrom 83 = .ok (.istore 7, 2) := by decide +kernel
theorem dX6_apartFrom_85 : decode cX6_apartFrom 85 = .ok (.iload 7, 2) := by decide +kernel
theorem dX6_apartFrom_87 : decode cX6_apartFrom 87 = .ok (.iload_n 3, 1) := by decide +kernel
theorem dX6_apartFrom_88 : decode cX6_apartFrom 88 = .ok (.if_icmp .gt 77, 3) := by decide +kernel
theorem dX6_apartFrom_91 : decode cX6_apartFrom 91 = .ok (.iload 6, 2) := by decide +kernel
theorem dX6_apartFrom_93 : decode cX6_apartFrom 93 = .ok (.aload_n 0, 1) := by decide +kernel
theorem dX6_apartFrom_94 : decode cX6_apartFrom 94 = .ok (.getfield 14, 3) := by decide +kernel
theorem dX6_apartFrom_97 : decode cX6_apartFrom 97 = .ok (.iload 7, 2) := by decide +kernel
theorem dX6_apartFrom_99 : decode cX6_apartFrom 99 = .ok (.iconst 1, 1) := by decide +kernel
theorem dX6_apartFrom_100 : decode cX6_apartFrom 100 = .ok (.isub, 1) := by decide +kernel
theorem dX6_apartFrom_101 : decode cX6_apartFrom 101 = .ok (.invokevirtual 76, 3) := by decide +kernel
theorem dX6_apartFrom_104 : decode cX6_apartFrom 104 = .ok (.iload 5, 2) := by decide +kernel
theorem dX6_apartFrom_106 : decode cX6_apartFrom 106 = .ok (.if_icmp .ne 7, 3) := by decide +kernel
theorem dX6_apartFrom_109 : decode cX6_apartFrom 109 = .ok (.iconst 0, 1) := by decide +kernel
theorem dX6_apartFrom_110 : decode cX6_apartFrom 110 = .ok (.goto 4, 3) := by decide +kernel
theorem dX6_apartFrom_113 : decode cX6_apartFrom 113 = .ok (.iconst 1, 1) := by decide +kernel
theorem dX6_apartFrom_114 : decode cX6_apartFrom 114 = .ok (.iadd, 1) := by decide +kernel
theorem dX6_apartFrom_115 : decode cX6_apartFrom 115 = .ok (.istore 8, 2) := by decide +kernel
theorem dX6_apartFrom_117 : decode cX6_apartFrom 117 = .ok (.aload_n 0, 1) := by decide +kernel
theorem dX6_apartFrom_118 : decode cX6_apartFrom 118 = .ok (.getfield 27, 3) := by decide +kernel
theorem dX6_apartFrom_121 : decode cX6_apartFrom 121 = .ok (.iload 7, 2) := by decide +kernel
theorem dX6_apartFrom_123 : decode cX6_apartFrom 123 = .ok (.iaload, 1) := by decide +kernel
theorem dX6_apartFrom_124 : decode cX6_apartFrom 124 = .ok (.istore 6, 2) := by decide +kernel
theorem dX6_apartFrom_126 : decode cX6_apartFrom 126 = .ok (.aload_n 0, 1) := by decide +kernel
theorem dX6_apartFrom_127 : decode cX6_apartFrom 127 = .ok (.getfield 27, 3) := by decide +kernel
theorem dX6_apartFrom_130 : decode cX6_apartFrom 130 = .ok (.iload 7, 2) := by decide +kernel
theorem dX6_apartFrom_132 : decode cX6_apartFrom 132 = .ok (.iload 8, 2) := by decide +kernel
theorem dX6_apartFrom_134 : decode cX6_apartFrom 134 = .ok (.aload_n 0, 1) := by decide +kernel
theorem dX6_apartFrom_135 : decode cX6_apartFrom 135 = .ok (.getfield 27, 3) := by decide +kernel
theorem dX6_apartFrom_138 : decode cX6_apartFrom 138 = .ok (.iload 7, 2) := by decide +kernel
theorem dX6_apartFrom_140 : decode cX6_apartFrom 140 = .ok (.iconst 1, 1) := by decide +kernel
theorem dX6_apartFrom_141 : decode cX6_apartFrom 141 = .ok (.isub, 1) := by decide +kernel
theorem dX6_apartFrom_142 : decode cX6_apartFrom 142 = .ok (.iaload, 1) := by decide +kernel
theorem dX6_apartFrom_143 : decode cX6_apartFrom 143 = .ok (.aload_n 0, 1) := by decide +kernel
theorem dX6_apartFrom_144 : decode cX6_apartFrom 144 = .ok (.getfield 27, 3) := by decide +kernel
theorem dX6_apartFrom_147 : decode cX6_apartFrom 147 = .ok (.iload 7, 2) := by decide +kernel
theorem dX6_apartFrom_149 : decode cX6_apartFrom 149 = .ok (.iaload, 1) := by decide +kernel
theorem dX6_apartFrom_150 : decode cX6_apartFrom 150 = .ok (.invokestatic 127, 3) := by decide +kernel
theorem dX6_apartFrom_153 : decode cX6_apartFrom 153 = .ok (.iconst 1, 1) := by decide +kernel
theorem dX6_apartFrom_154 : decode cX6_apartFrom 154 = .ok (.iadd, 1) := by decide +kernel
theorem dX6_apartFrom_155 : decode cX6_apartFrom 155 = .ok (.invokestatic 127, 3) := by decide +kernel
theorem dX6_apartFrom_158 : decode cX6_apartFrom 158 = .ok (.iastore, 1) := by decide +kernel
theorem dX6_apartFrom_159 : decode cX6_apartFrom 159 = .ok (.iinc 7 1, 3) := by decide +kernel
theorem dX6_apartFrom_162 : decode cX6_apartFrom 162 = .ok (.goto (-77), 3) := by decide +kernel
theorem dX6_apartFrom_165 : decode cX6_apartFrom 165 = .ok (.iinc 4 1, 3) := by decide +kernel
theorem dX6_apartFrom_168 : decode cX6_apartFrom 168 = .ok (.goto (-128), 3) := by decide +kernel
theorem dX6_apartFrom_171 : decode cX6_apartFrom 171 = .ok (.aload_n 0, 1) := by decide +kernel
theorem dX6_apartFrom_172 : decode cX6_apartFrom 172 = .ok (.getfield 27, 3) := by decide +kernel
theorem dX6_apartFrom_175 : decode cX6_apartFrom 175 = .ok (.iload_n 3, 1) := by decide +kernel
theorem dX6_apartFrom_176 : decode cX6_apartFrom 176 = .ok (.iaload, 1) := by decide +kernel
theorem dX6_apartFrom_177 : decode cX6_apartFrom 177 = .ok (.ireturn, 1) := by decide +kernel
theorem dX7_init_0 : decode cX7_init 0 = .ok (.aload_n 0, 1) := by decide +kernel
theorem dX7_init_1 : decode cX7_init 1 = .ok (.invokespecial 3, 3) := by decide +kernel
theorem dX7_init_4 : decode cX7_init 4 = .ok (.aload_n 0, 1) := by decide +kernel
theorem dX7_init_5 : decode cX7_init 5 = .ok (.iconst (-1), 1) := by decide +kernel
theorem dX7_init_6 : decode cX7_init 6 = .ok (.putfield 9, 3) := by decide +kernel
theorem dX7_init_9 : decode cX7_init 9 = .ok (.aload_n 0, 1) := by decide +kernel
theorem dX7_init_10 : decode cX7_init 10 = .ok (.bipush 40, 2) := by decide +kernel
theorem dX7_init_12 : decode cX7_init 12 = .ok (.newarray .int, 2) := by decide +kernel
theorem dX7_init_14 : decode cX7_init 14 = .ok (.putfield 15, 3) := by decide +kernel
theorem dX7_init_17 : decode cX7_init 17 = .ok (.return_, 1) := by decide +kernel
theorem dX7_begin_0 : decode cX7_begin 0 = .ok (.aload_n 0, 1) := by decide +kernel
theorem dX7_begin_1 : decode cX7_begin 1 = .ok (.iload_n 1, 1) := by decide +kernel
theorem dX7_begin_2 : decode cX7_begin 2 = .ok (.putfield 9, 3) := by decide +kernel
theorem dX7_begin_5 : decode cX7_begin 5 = .ok (.aload_n 0, 1) := by decide +kernel
theorem dX7_begin_6 : decode cX7_begin 6 = .ok (.iload_n 2, 1) := by decide +kernel
theorem dX7_begin_7 : decode cX7_begin 7 = .ok (.putfield 19, 3) := by decide +kernel
theorem dX7_begin_10 : decode cX7_begin 10 = .ok (.aload_n 0, 1) := by decide +kernel
theorem dX7_begin_11 : decode cX7_begin 11 = .ok (.getfield 15, 3) := by decide +kernel
theorem dX7_begin_14 : decode cX7_begin 14 = .ok (.iconst 0, 1) := by decide +kernel
theorem dX7_begin_15 : decode cX7_begin 15 = .ok (.invokestatic 22, 3) := by decide +kernel
theorem dX7_begin_18 : decode cX7_begin 18 = .ok (.return_, 1) := by decide +kernel
theorem dX7_isMissing_0 : decode cX7_isMissing 0 = .ok (.aload_n 0, 1) := by decide +kernel
theorem dX7_isMissing_1 : decode cX7_isMissing 1 = .ok (.getfield 9, 3) := by decide +kernel
theorem dX7_isMissing_4 : decode cX7_isMissing 4 = .ok (.iconst (-1), 1) := by decide +kernel
theorem dX7_isMissing_5 : decode cX7_isMissing 5 = .ok (.if_icmp .ne 7, 3) := by decide +kernel
theorem dX7_isMissing_8 : decode cX7_isMissing 8 = .ok (.iconst 1, 1) := by decide +kernel
theorem dX7_isMissing_9 : decode cX7_isMissing 9 = .ok (.goto 4, 3) := by decide +kernel
theorem dX7_isMissing_12 : decode cX7_isMissing 12 = .ok (.iconst 0, 1) := by decide +kernel
theorem dX7_isMissing_13 : decode cX7_isMissing 13 = .ok (.ireturn, 1) := by decide +kernel
theorem dX7_hasRun_0 : decode cX7_hasRun 0 = .ok (.iload_n 1, 1) := by decide +kernel
theorem dX7_hasRun_1 : decode cX7_hasRun 1 = .ok (.ifCond .lt 29, 3) := by decide +kernel
theorem dX7_hasRun_4 : decode cX7_hasRun 4 = .ok (.iload_n 2, 1) := by decide +kernel
theorem dX7_hasRun_5 : decode cX7_hasRun 5 = .ok (.ifCond .lt 25, 3) := by decide +kernel
theorem dX7_hasRun_8 : decode cX7_hasRun 8 = .ok (.iload_n 1, 1) := by decide +kernel
theorem dX7_hasRun_9 : decode cX7_hasRun 9 = .ok (.aload_n 0, 1) := by decide +kernel
theorem dX7_hasRun_10 : decode cX7_hasRun 10 = .ok (.getfield 19, 3) := by decide +kernel
theorem dX7_hasRun_13 : decode cX7_hasRun 13 = .ok (.if_icmp .gt 17, 3) := by decide +kernel
theorem dX7_hasRun_16 : decode cX7_hasRun 16 = .ok (.iload_n 2, 1) := by decide +kernel
theorem dX7_hasRun_17 : decode cX7_hasRun 17 = .ok (.aload_n 0, 1) := by decide +kernel
theorem dX7_hasRun_18 : decode cX7_hasRun 18 = .ok (.getfield 19, 3) := by decide +kernel
theorem dX7_hasRun_21 : decode cX7_hasRun 21 = .ok (.iload_n 1, 1) := by decide +kernel
theorem dX7_hasRun_22 : decode cX7_hasRun 22 = .ok (.isub, 1) := by decide +kernel
theorem dX7_hasRun_23 : decode cX7_hasRun 23 = .ok (.if_icmp .gt 7, 3) := by decide +kernel
theorem dX7_hasRun_26 : decode cX7_hasRun 26 = .ok (.iconst 1, 1) := by decide +kernel
theorem dX7_hasRun_27 : decode cX7_hasRun 27 = .ok (.goto 4, 3) := by decide +kernel
theorem dX7_hasRun_30 : decode cX7_hasRun 30 = .ok (.iconst 0, 1) := by decide +kernel
theorem dX7_hasRun_31 : decode cX7_hasRun 31 = .ok (.ireturn, 1) := by decide +kernel
theorem dX7_at_0 : decode cX7_at 0 = .ok (.aload_n 0, 1) := by decide +kernel
theorem dX7_at_1 : decode cX7_at 1 = .ok (.iload_n 1, 1) := by decide +kernel
theorem dX7_at_2 : decode cX7_at 2 = .ok (.iconst 1, 1) := by decide +kernel
theorem dX7_at_3 : decode cX7_at 3 = .ok (.invokevirtual 28, 3) := by decide +kernel
theorem dX7_at_6 : decode cX7_at 6 = .ok (.ifCond .eq 12, 3) := by decide +kernel
theorem dX7_at_9 : decode cX7_at 9 = .ok (.aload_n 0, 1) := by decide +kernel
theorem dX7_at_10 : decode cX7_at 10 = .ok (.getfield 15, 3) := by decide +kernel
theorem dX7_at_13 : decode cX7_at 13 = .ok (.iload_n 1, 1) := by decide +kernel
theorem dX7_at_14 : decode cX7_at 14 = .ok (.iaload, 1) := by decide +kernel
theorem dX7_at_15 : decode cX7_at 15 = .ok (.goto 4, 3) := by decide +kernel
theorem dX7_at_18 : decode cX7_at 18 = .ok (.iconst 0, 1) := by decide +kernel
theorem dX7_at_19 : decode cX7_at 19 = .ok (.ireturn, 1) := by decide +kernel
theorem dX7_set_0 : decode cX7_set 0 = .ok (.aload_n 0, 1) := by decide +kernel
theorem dX7_set_1 : decode cX7_set 1 = .ok (.iload_n 1, 1) := by decide +kernel
theorem dX7_set_2 : decode cX7_set 2 = .ok (.iconst 1, 1) := by decide +kernel
theorem dX7_set_3 : decode cX7_set 3 = .ok (.invokevirtual 28, 3) := by decide +kernel
theorem dX7_set_6 : decode cX7_set 6 = .ok (.ifCond .eq 22, 3) := by decide +kernel
theorem dX7_set_9 : decode cX7_set 9 = .ok (.aload_n 0, 1) := by decide +kernel
theorem dX7_set_10 : decode cX7_set 10 = .ok (.getfield 15, 3) := by decide +kernel
theorem dX7_set_13 : decode cX7_set 13 = .ok (.iload_n 1, 1) := by decide +kernel
theorem dX7_set_14 : decode cX7_set 14 = .ok (.aload_n 0, 1) := by decide +kernel
theorem dX7_set_15 : decode cX7_set 15 = .ok (.getfield 9, 3) := by decide +kernel
theorem dX7_set_18 : decode cX7_set 18 = .ok (.ifCond .ne 8, 3) := by decide +kernel
theorem dX7_set_21 : decode cX7_set 21 = .ok (.iload_n 2, 1) := by decide +kernel
theorem dX7_set_22 : decode cX7_set 22 = .ok (.i2s, 1) := by decide +kernel
theorem dX7_set_23 : decode cX7_set 23 = .ok (.goto 4, 3) := by decide +kernel
theorem dX7_set_26 : decode cX7_set 26 = .ok (.iload_n 2, 1) := by decide +kernel
theorem dX7_set_27 : decode cX7_set 27 = .ok (.iastore, 1) := by decide +kernel
theorem dX7_set_28 : decode cX7_set 28 = .ok (.return_, 1) := by decide +kernel
theorem dX7_take_0 : decode cX7_take 0 = .ok (.aload_n 2, 1) := by decide +kernel
theorem dX7_take_1 : decode cX7_take 1 = .ok (.iload_n 3, 1) := by decide +kernel
theorem dX7_take_2 : decode cX7_take 2 = .ok (.iload 4, 2) := by decide +kernel
theorem dX7_take_4 : decode cX7_take 4 = .ok (.invokevirtual 28, 3) := by decide +kernel
theorem dX7_take_7 : decode cX7_take 7 = .ok (.ifCond .eq 28, 3) := by decide +kernel
theorem dX7_take_10 : decode cX7_take 10 = .ok (.aload_n 0, 1) := by decide +kernel
theorem dX7_take_11 : decode cX7_take 11 = .ok (.iload_n 1, 1) := by decide +kernel
theorem dX7_take_12 : decode cX7_take 12 = .ok (.iload 4, 2) := by decide +kernel
theorem dX7_take_14 : decode cX7_take 14 = .ok (.invokevirtual 28, 3) := by decide +kernel
theorem dX7_take_17 : decode cX7_take 17 = .ok (.ifCond .eq 18, 3) := by decide +kernel
theorem dX7_take_20 : decode cX7_take 20 = .ok (.aload_n 2, 1) := by decide +kernel
theorem dX7_take_21 : decode cX7_take 21 = .ok (.getfield 15, 3) := by decide +kernel
theorem dX7_take_24 : decode cX7_take 24 = .ok (.iload_n 3, 1) := by decide +kernel
theorem dX7_take_25 : decode cX7_take 25 = .ok (.aload_n 0, 1) := by decide +kernel
theorem dX7_take_26 : decode cX7_take 26 = .ok (.getfield 15, 3) := by decide +kernel
theorem dX7_take_29 : decode cX7_take 29 = .ok (.iload_n 1, 1) := by decide +kernel
theorem dX7_take_30 : decode cX7_take 30 = .ok (.iload 4, 2) := by decide +kernel
theorem dX7_take_32 : decode cX7_take 32 = .ok (.invokestatic 32, 3) := by decide +kernel
theorem dX7_take_35 : decode cX7_take 35 = .ok (.return_, 1) := by decide +kernel
theorem dX8_init_0 : decode cX8_init 0 = .ok (.aload_n 0, 1) := by decide +kernel
theorem dX8_init_1 : decode cX8_init 1 = .ok (.invokespecial 3, 3) := by decide +kernel
theorem dX8_init_4 : decode cX8_init 4 = .ok (.aload_n 0, 1) := by decide +kernel
theorem dX8_init_5 : decode cX8_init 5 = .ok (.new 9, 3) := by decide +kernel
theorem dX8_init_8 : decode cX8_init 8 = .ok (.dup, 1) := by decide +kernel
theorem dX8_init_9 : decode cX8_init 9 = .ok (.bipush 10, 2) := by decide +kernel
theorem dX8_init_11 : decode cX8_init 11 = .ok (.invokespecial 11, 3) := by decide +kernel
theorem dX8_init_14 : decode cX8_init 14 = .ok (.putfield 14, 3) := by decide +kernel
theorem dX8_init_17 : decode cX8_init 17 = .ok (.aload_n 0, 1) := by decide +kernel
theorem dX8_init_18 : decode cX8_init 18 = .ok (.new 9, 3) := by decide +kernel
theorem dX8_init_21 : decode cX8_init 21 = .ok (.dup, 1) := by decide +kernel
theorem dX8_init_22 : decode cX8_init 22 = .ok (.bipush 66, 2) := by decide +kernel
theorem dX8_init_24 : decode cX8_init 24 = .ok (.invokespecial 11, 3) := by decide +kernel
theorem dX8_init_27 : decode cX8_init 27 = .ok (.putfield 20, 3) := by decide +kernel
theorem dX8_init_30 : decode cX8_init 30 = .ok (.aload_n 0, 1) := by decide +kernel
theorem dX8_init_31 : decode cX8_init 31 = .ok (.bipush 6, 2) := by decide +kernel
theorem dX8_init_33 : decode cX8_init 33 = .ok (.newarray .int, 2) := by decide +kernel
theorem dX8_init_35 : decode cX8_init 35 = .ok (.putfield 23, 3) := by decide +kernel
theorem dX8_init_38 : decode cX8_init 38 = .ok (.return_, 1) := by decide +kernel
theorem dX8_say_0 : decode cX8_say 0 = .ok (.aload_n 0, 1) := by decide +kernel
theorem dX8_say_1 : decode cX8_say 1 = .ok (.getfield 20, 3) := by decide +kernel
theorem dX8_say_4 : decode cX8_say 4 = .ok (.invokevirtual 27, 3) := by decide +kernel
theorem dX8_say_7 : decode cX8_say 7 = .ok (.aload_n 0, 1) := by decide +kernel
theorem dX8_say_8 : decode cX8_say 8 = .ok (.iconst 0, 1) := by decide +kernel
theorem dX8_say_9 : decode cX8_say 9 = .ok (.putfield 30, 3) := by decide +kernel
theorem dX8_say_12 : decode cX8_say 12 = .ok (.aload_n 1, 1) := by decide +kernel
theorem dX8_say_13 : decode cX8_say 13 = .ok (.aload_n 2, 1) := by decide +kernel
theorem dX8_say_14 : decode cX8_say 14 = .ok (.getfield 34, 3) := by decide +kernel
theorem dX8_say_17 : decode cX8_say 17 = .ok (.invokevirtual 39, 3) := by decide +kernel
theorem dX8_say_20 : decode cX8_say 20 = .ok (.astore 5, 2) := by decide +kernel
theorem dX8_say_22 : decode cX8_say 22 = .ok (.aload 5, 2) := by decide +kernel
theorem dX8_say_24 : decode cX8_say 24 = .ok (.ifnonnull 5, 3) := by decide +kernel
theorem dX8_say_27 : decode cX8_say 27 = .ok (.iconst 0, 1) := by decide +kernel
theorem dX8_say_28 : decode cX8_say 28 = .ok (.ireturn, 1) := by decide +kernel
theorem dX8_say_29 : decode cX8_say 29 = .ok (.iconst 0, 1) := by decide +kernel
theorem dX8_say_30 : decode cX8_say 30 = .ok (.istore 6, 2) := by decide +kernel
theorem dX8_say_32 : decode cX8_say 32 = .ok (.iload 6, 2) := by decide +kernel
theorem dX8_say_34 : decode cX8_say 34 = .ok (.aload 5, 2) := by decide +kernel
theorem dX8_say_36 : decode cX8_say 36 = .ok (.getfield 45, 3) := by decide +kernel
theorem dX8_say_39 : decode cX8_say 39 = .ok (.if_icmp .ge 68, 3) := by decide +kernel
theorem dX8_say_42 : decode cX8_say 42 = .ok (.aload_n 1, 1) := by decide +kernel
theorem dX8_say_43 : decode cX8_say 43 = .ok (.aload_n 2, 1) := by decide +kernel
theorem dX8_say_44 : decode cX8_say 44 = .ok (.iload 6, 2) := by decide +kernel
theorem dX8_say_46 : decode cX8_say 46 = .ok (.invokevirtual 50, 3) := by decide +kernel
theorem dX8_say_49 : decode cX8_say 49 = .ok (.invokevirtual 54, 3) := by decide +kernel
theorem dX8_say_52 : decode cX8_say 52 = .ok (.astore 7, 2) := by decide +kernel
theorem dX8_say_54 : decode cX8_say 54 = .ok (.aload 7, 2) := by decide +kernel
theorem dX8_say_56 : decode cX8_say 56 = .ok (.ifnonnull 17, 3) := by decide +kernel
theorem dX8_say_59 : decode cX8_say 59 = .ok (.aload_n 0, 1) := by decide +kernel
theorem dX8_say_60 : decode cX8_say 60 = .ok (.getfield 20, 3) := by decide +kernel
theorem dX8_say_63 : decode cX8_say 63 = .ok (.invokevirtual 27, 3) := by decide +kernel
theorem dX8_say_66 : decode cX8_say 66 = .ok (.aload_n 0, 1) := by decide +kernel
theorem dX8_say_67 : decode cX8_say 67 = .ok (.iconst 0, 1) := by decide +kernel
theorem dX8_say_68 : decode cX8_say 68 = .ok (.putfield 30, 3) := by decide +kernel
theorem dX8_say_71 : decode cX8_say 71 = .ok (.iconst 0, 1) := by decide +kernel
theorem dX8_say_72 : decode cX8_say 72 = .ok (.ireturn, 1) := by decide +kernel
theorem dX8_say_73 : decode cX8_say 73 = .ok (.aload_n 1, 1) := by decide +kernel
theorem dX8_say_74 : decode cX8_say 74 = .ok (.aload 7, 2) := by decide +kernel
theorem dX8_say_76 : decode cX8_say 76 = .ok (.aload_n 1, 1) := by decide +kernel
theorem dX8_say_77 : decode cX8_say 77 = .ok (.aload_n 2, 1) := by decide +kernel
theorem dX8_say_78 : decode cX8_say 78 = .ok (.iload 6, 2) := by decide +kernel
theorem dX8_say_80 : decode cX8_say 80 = .ok (.iload 4, 2) := by decide +kernel
theorem dX8_say_82 : decode cX8_say 82 = .ok (.invokestatic 58, 3) := by decide +kernel
theorem dX8_say_85 : decode cX8_say 85 = .ok (.iload_n 3, 1) := by decide +kernel
theorem dX8_say_86 : decode cX8_say 86 = .ok (.bipush 24, 2) := by decide +kernel
theorem dX8_say_88 : decode cX8_say 88 = .ok (.imul, 1) := by decide +kernel
theorem dX8_say_89 : decode cX8_say 89 = .ok (.iadd, 1) := by decide +kernel
theorem dX8_say_90 : decode cX8_say 90 = .ok (.aload_n 0, 1) := by decide +kernel
theorem dX8_say_91 : decode cX8_say 91 = .ok (.getfield 14, 3) := by decide +kernel
theorem dX8_say_94 : decode cX8_say 94 = .ok (.invokevirtual 62, 3) := by decide +kernel
theorem dX8_say_97 : decode cX8_say 97 = .ok (.aload_n 0, 1) := by decide +kernel
theorem dX8_say_98 : decode cX8_say 98 = .ok (.invokevirtual 66, 3) := by decide +kernel
theorem dX8_say_101 : decode cX8_say 101 = .ok (.iinc 6 1, 3) := by decide +kernel
theorem dX8_say_104 : decode cX8_say 104 = .ok (.goto (-72), 3) := by decide +kernel
theorem dX8_say_107 : decode cX8_say 107 = .ok (.iconst 1, 1) := by decide +kernel
theorem dX8_say_108 : decode cX8_say 108 = .ok (.ireturn, 1) := by decide +kernel
theorem dX8_lengthOf_0 : decode cX8_lengthOf 0 = .ok (.iload_n 1, 1) := by decide +kernel
theorem dX8_lengthOf_1 : decode cX8_lengthOf 1 = .ok (.aload_n 0, 1) := by decide +kernel
theorem dX8_lengthOf_2 : decode cX8_lengthOf 2 = .ok (.getfield 30, 3) := by decide +kernel
theorem dX8_lengthOf_5 : decode cX8_lengthOf 5 = .ok (.invokestatic 69, 3) := by decide +kernel
theorem dX8_lengthOf_8 : decode cX8_lengthOf 8 = .ok (.ifCond .eq 18, 3) := by decide +kernel
theorem dX8_lengthOf_11 : decode cX8_lengthOf 11 = .ok (.iload_n 1, 1) := by decide +kernel
theorem dX8_lengthOf_12 : decode cX8_lengthOf 12 = .ok (.bipush 6, 2) := by decide +kernel
theorem dX8_lengthOf_14 : decode cX8_lengthOf 14 = .ok (.if_icmp .ge 12, 3) := by decide +kernel
theorem dX8_lengthOf_17 : decode cX8_lengthOf 17 = .ok (.aload_n 0, 1) := by decide +kernel
theorem dX8_lengthOf_18 : decode cX8_lengthOf 18 = .ok (.getfield 23, 3) := by decide +kernel
theorem dX8_lengthOf_21 : decode cX8_lengthOf 21 = .ok (.iload_n 1, 1) := by decide +kernel
theorem dX8_lengthOf_22 : decode cX8_lengthOf 22 = .ok (.iaload, 1) := by decide +kernel
theorem dX8_lengthOf_23 : decode cX8_lengthOf 23 = .ok (.goto 4, 3) := by decide +kernel
theorem dX8_lengthOf_26 : decode cX8_lengthOf 26 = .ok (.iconst (-1), 1) := by decide +kernel
theorem dX8_lengthOf_27 : decode cX8_lengthOf 27 = .ok (.ireturn, 1) := by decide +kernel
theorem dX8_timeBy_0 : decode cX8_timeBy 0 = .ok (.fconst 0, 1) := by decide +kernel
theorem dX8_timeBy_1 : decode cX8_timeBy 1 = .ok (.fstore_n 2, 1) := by decide +kernel
theorem dX8_timeBy_2 : decode cX8_timeBy 2 = .ok (.iconst 0, 1) := by decide +kernel
theorem dX8_timeBy_3 : decode cX8_timeBy 3 = .ok (.istore_n 3, 1) := by decide +kernel
theorem dX8_timeBy_4 : decode cX8_timeBy 4 = .ok (.iload_n 3, 1) := by decide +kernel
theorem dX8_timeBy_5 : decode cX8_timeBy 5 = .ok (.aload_n 0, 1) := by decide +kernel
theorem dX8_timeBy_6 : decode cX8_timeBy 6 = .ok (.getfield 20, 3) := by decide +kernel
theorem dX8_timeBy_9 : decode cX8_timeBy 9 = .ok (.getfield 73, 3) := by decide +kernel
theorem dX8_timeBy_12 : decode cX8_timeBy 12 = .ok (.if_icmp .ge 85, 3) := by decide +kernel
theorem dX8_timeBy_15 : decode cX8_timeBy 15 = .ok (.aload_n 0, 1) := by decide +kernel
theorem dX8_timeBy_16 : decode cX8_timeBy 16 = .ok (.getfield 20, 3) := by decide +kernel
theorem dX8_timeBy_19 : decode cX8_timeBy 19 = .ok (.iload_n 3, 1) := by decide +kernel
theorem dX8_timeBy_20 : decode cX8_timeBy 20 = .ok (.invokevirtual 74, 3) := by decide +kernel
theorem dX8_timeBy_23 : decode cX8_timeBy 23 = .ok (.istore 4, 2) := by decide +kernel
theorem dX8_timeBy_25 : decode cX8_timeBy 25 = .ok (.iload 4, 2) := by decide +kernel
theorem dX8_timeBy_27 : decode cX8_timeBy 27 = .ok (.bipush 32, 2) := by decide +kernel
theorem dX8_timeBy_29 : decode cX8_timeBy 29 = .ok (.if_icmp .ne 8, 3) := by decide +kernel
theorem dX8_timeBy_32 : decode cX8_timeBy 32 = .ok (.ldc 77, 2) := by decide +kernel
theorem dX8_timeBy_34 : decode cX8_timeBy 34 = .ok (.goto 18, 3) := by decide +kernel
theorem dX8_timeBy_37 : decode cX8_timeBy 37 = .ok (.iload 4, 2) := by decide +kernel
theorem dX8_timeBy_39 : decode cX8_timeBy 39 = .ok (.invokestatic 78, 3) := by decide +kernel
theorem dX8_timeBy_42 : decode cX8_timeBy 42 = .ok (.ifCond .eq 8, 3) := by decide +kernel
theorem dX8_timeBy_45 : decode cX8_timeBy 45 = .ok (.ldc 82, 2) := by decide +kernel
theorem dX8_timeBy_47 : decode cX8_timeBy 47 = .ok (.goto 5, 3) := by decide +kernel
theorem dX8_timeBy_50 : decode cX8_timeBy 50 = .ok (.ldc 83, 2) := by decide +kernel
theorem dX8_timeBy_52 : decode cX8_timeBy 52 = .ok (.fstore 5, 2) := by decide +kernel
theorem dX8_timeBy_54 : decode cX8_timeBy 54 = .ok (.iload 4, 2) := by decide +kernel
theorem dX8_timeBy_56 : decode cX8_timeBy 56 = .ok (.bipush 32, 2) := by decide +kernel
theorem dX8_timeBy_58 : decode cX8_timeBy 58 = .ok (.if_icmp .eq 25, 3) := by decide +kernel
theorem dX8_timeBy_61 : decode cX8_timeBy 61 = .ok (.iload 4, 2) := by decide +kernel
theorem dX8_timeBy_63 : decode cX8_timeBy 63 = .ok (.aload_n 0, 1) := by decide +kernel
theorem dX8_timeBy_64 : decode cX8_timeBy 64 = .ok (.getfield 20, 3) := by decide +kernel
theorem dX8_timeBy_67 : decode cX8_timeBy 67 = .ok (.iload_n 3, 1) := by decide +kernel
theorem dX8_timeBy_68 : decode cX8_timeBy 68 = .ok (.iconst 1, 1) := by decide +kernel
theorem dX8_timeBy_69 : decode cX8_timeBy 69 = .ok (.isub, 1) := by decide +kernel
theorem dX8_timeBy_70 : decode cX8_timeBy 70 = .ok (.invokevirtual 74, 3) := by decide +kernel
theorem dX8_timeBy_73 : decode cX8_timeBy 73 = .ok (.if_icmp .ne 10, 3) := by decide +kernel
theorem dX8_timeBy_76 : decode cX8_timeBy 76 = .ok (.fload 5, 2) := by decide +kernel
theorem dX8_timeBy_78 : decode cX8_timeBy 78 = .ok (.ldc 84, 2) := by decide +kernel
theorem dX8_timeBy_80 : decode cX8_timeBy 80 = .ok (.fmul, 1) := by decide +kernel
theorem dX8_timeBy_81 : decode cX8_timeBy 81 = .ok (.fstore 5, 2) := by decide +kernel
theorem dX8_timeBy_83 : decode cX8_timeBy 83 = .ok (.fload_n 2, 1) := by decide +kernel
theorem dX8_timeBy_84 : decode cX8_timeBy 84 = .ok (.fload 5, 2) := by decide +kernel
theorem dX8_timeBy_86 : decode cX8_timeBy 86 = .ok (.iload_n 1, 1) := by decide +kernel
theorem dX8_timeBy_87 : decode cX8_timeBy 87 = .ok (.i2f, 1) := by decide +kernel
theorem dX8_timeBy_88 : decode cX8_timeBy 88 = .ok (.fdiv, 1) := by decide +kernel
theorem dX8_timeBy_89 : decode cX8_timeBy 89 = .ok (.fadd, 1) := by decide +kernel
theorem dX8_timeBy_90 : decode cX8_timeBy 90 = .ok (.fstore_n 2, 1) := by decide +kernel
theorem dX8_timeBy_91 : decode cX8_timeBy 91 = .ok (.iinc 3 1, 3) := by decide +kernel
theorem dX8_timeBy_94 : decode cX8_timeBy 94 = .ok (.goto (-90), 3) := by decide +kernel
theorem dX8_timeBy_97 : decode cX8_timeBy 97 = .ok (.fload_n 2, 1) := by decide +kernel
theorem dX8_timeBy_98 : decode cX8_timeBy 98 = .ok (.freturn, 1) := by decide +kernel
theorem dX8_addSpelled_0 : decode cX8_addSpelled 0 = .ok (.aload_n 0, 1) := by decide +kernel
theorem dX8_addSpelled_1 : decode cX8_addSpelled 1 = .ok (.getfield 30, 3) := by decide +kernel
theorem dX8_addSpelled_4 : decode cX8_addSpelled 4 = .ok (.ifCond .le 12, 3) := by decide +kernel
theorem dX8_addSpelled_7 : decode cX8_addSpelled 7 = .ok (.aload_n 0, 1) := by decide +kernel
theorem dX8_addSpelled_8 : decode cX8_addSpelled 8 = .ok (.getfield 20, 3) := by decide +kernel
theorem dX8_addSpelled_11 : decode cX8_addSpelled 11 = .ok (.bipush 32, 2) := by decide +kernel
theorem dX8_addSpelled_13 : decode cX8_addSpelled 13 = .ok (.invokevirtual 85, 3) := by decide +kernel
theorem dX8_addSpelled_16 : decode cX8_addSpelled 16 = .ok (.iconst 0, 1) := by decide +kernel
theorem dX8_addSpelled_17 : decode cX8_addSpelled 17 = .ok (.istore_n 1, 1) := by decide +kernel
theorem dX8_addSpelled_18 : decode cX8_addSpelled 18 = .ok (.iload_n 1, 1) := by decide +kernel
theorem dX8_addSpelled_19 : decode cX8_addSpelled 19 = .ok (.aload_n 0, 1) := by decide +kernel
theorem dX8_addSpelled_20 : decode cX8_addSpelled 20 = .ok (.getfield 14, 3) := by decide +kernel
theorem dX8_addSpelled_23 : decode cX8_addSpelled 23 = .ok (.getfield 73, 3) := by decide +kernel
theorem dX8_addSpelled_26 : decode cX8_addSpelled 26 = .ok (.if_icmp .ge 24, 3) := by decide +kernel
theorem dX8_addSpelled_29 : decode cX8_addSpelled 29 = .ok (.aload_n 0, 1) := by decide +kernel
theorem dX8_addSpelled_30 : decode cX8_addSpelled 30 = .ok (.getfield 20, 3) := by decide +kernel
theorem dX8_addSpelled_33 : decode cX8_addSpelled 33 = .ok (.aload_n 0, 1) := by decide +kernel
theorem dX8_addSpelled_34 : decode cX8_addSpelled 34 = .ok (.getfield 14, 3) := by decide +kernel
theorem dX8_addSpelled_37 : decode cX8_addSpelled 37 = .ok (.iload_n 1, 1) := by decide +kernel
theorem dX8_addSpelled_38 : decode cX8_addSpelled 38 = .ok (.invokevirtual 74, 3) := by decide +kernel
theorem dX8_addSpelled_41 : decode cX8_addSpelled 41 = .ok (.invokevirtual 85, 3) := by decide +kernel
theorem dX8_addSpelled_44 : decode cX8_addSpelled 44 = .ok (.iinc 1 1, 3) := by decide +kernel
theorem dX8_addSpelled_47 : decode cX8_addSpelled 47 = .ok (.goto (-29), 3) := by decide +kernel
theorem dX8_addSpelled_50 : decode cX8_addSpelled 50 = .ok (.aload_n 0, 1) := by decide +kernel
theorem dX8_addSpelled_51 : decode cX8_addSpelled 51 = .ok (.getfield 30, 3) := by decide +kernel
theorem dX8_addSpelled_54 : decode cX8_addSpelled 54 = .ok (.bipush 6, 2) := by decide +kernel
theorem dX8_addSpelled_56 : decode cX8_addSpelled 56 = .ok (.if_icmp .ge 29, 3) := by decide +kernel
theorem dX8_addSpelled_59 : decode cX8_addSpelled 59 = .ok (.aload_n 0, 1) := by decide +kernel
theorem dX8_addSpelled_60 : decode cX8_addSpelled 60 = .ok (.getfield 23, 3) := by decide +kernel
theorem dX8_addSpelled_63 : decode cX8_addSpelled 63 = .ok (.aload_n 0, 1) := by decide +kernel
theorem dX8_addSpelled_64 : decode cX8_addSpelled 64 = .ok (.getfield 30, 3) := by decide +kernel
theorem dX8_addSpelled_67 : decode cX8_addSpelled 67 = .ok (.aload_n 0, 1) := by decide +kernel
theorem dX8_addSpelled_68 : decode cX8_addSpelled 68 = .ok (.getfield 14, 3) := by decide +kernel
theorem dX8_addSpelled_71 : decode cX8_addSpelled 71 = .ok (.getfield 73, 3) := by decide +kernel
theorem dX8_addSpelled_74 : decode cX8_addSpelled 74 = .ok (.iastore, 1) := by decide +kernel
theorem dX8_addSpelled_75 : decode cX8_addSpelled 75 = .ok (.aload_n 0, 1) := by decide +kernel
theorem dX8_addSpelled_76 : decode cX8_addSpelled 76 = .ok (.dup, 1) := by decide +kernel
theorem dX8_addSpelled_77 : decode cX8_addSpelled 77 = .ok (.getfield 30, 3) := by decide +kernel
theorem dX8_addSpelled_80 : decode cX8_addSpelled 80 = .ok (.iconst 1, 1) := by decide +kernel
theorem dX8_addSpelled_81 : decode cX8_addSpelled 81 = .ok (.iadd, 1) := by decide +kernel
theorem dX8_addSpelled_82 : decode cX8_addSpelled 82 = .ok (.putfield 30, 3) := by decide +kernel
theorem dX8_addSpelled_85 : decode cX8_addSpelled 85 = .ok (.return_, 1) := by decide +kernel
theorem dX8_agreement_0 : decode cX8_agreement 0 = .ok (.aload_n 0, 1) := by decide +kernel
theorem dX8_agreement_1 : decode cX8_agreement 1 = .ok (.aload_n 1, 1) := by decide +kernel
theorem dX8_agreement_2 : decode cX8_agreement 2 = .ok (.getfield 34, 3) := by decide +kernel
theorem dX8_agreement_5 : decode cX8_agreement 5 = .ok (.invokevirtual 39, 3) := by decide +kernel
theorem dX8_agreement_8 : decode cX8_agreement 8 = .ok (.astore 4, 2) := by decide +kernel
theorem dX8_agreement_10 : decode cX8_agreement 10 = .ok (.aload 4, 2) := by decide +kernel
theorem dX8_agreement_12 : decode cX8_agreement 12 = .ok (.ifnull 13, 3) := by decide +kernel
theorem dX8_agreement_15 : decode cX8_agreement 15 = .ok (.aload 4, 2) := by decide +kernel
theorem dX8_agreement_17 : decode cX8_agreement 17 = .ok (.iload_n 2, 1) := by decide +kernel
theorem dX8_agreement_18 : decode cX8_agreement 18 = .ok (.invokevirtual 88, 3) := by decide +kernel
theorem dX8_agreement_21 : decode cX8_agreement 21 = .ok (.iconst (-1), 1) := by decide +kernel
theorem dX8_agreement_22 : decode cX8_agreement 22 = .ok (.if_icmp .ne 5, 3) := by decide +kernel
theorem dX8_agreement_25 : decode cX8_agreement 25 = .ok (.iconst 0, 1) := by decide +kernel
theorem dX8_agreement_26 : decode cX8_agreement 26 = .ok (.ireturn, 1) := by decide +kernel
theorem dX8_agreement_27 : decode cX8_agreement 27 = .ok (.aload 4, 2) := by decide +kernel
theorem dX8_agreement_29 : decode cX8_agreement 29 = .ok (.iload_n 2, 1) := by decide +kernel
theorem dX8_agreement_30 : decode cX8_agreement 30 = .ok (.invokevirtual 88, 3) := by decide +kernel
theorem dX8_agreement_33 : decode cX8_agreement 33 = .ok (.istore 5, 2) := by decide +kernel
theorem dX8_agreement_35 : decode cX8_agreement 35 = .ok (.aload_n 0, 1) := by decide +kernel
theorem dX8_agreement_36 : decode cX8_agreement 36 = .ok (.aload_n 1, 1) := by decide +kernel
theorem dX8_agreement_37 : decode cX8_agreement 37 = .ok (.aload 4, 2) := by decide +kernel
theorem dX8_agreement_39 : decode cX8_agreement 39 = .ok (.iload 5, 2) := by decide +kernel
theorem dX8_agreement_41 : decode cX8_agreement 41 = .ok (.invokevirtual 91, 3) := by decide +kernel
theorem dX8_agreement_44 : decode cX8_agreement 44 = .ok (.invokevirtual 50, 3) := by decide +kernel
theorem dX8_agreement_47 : decode cX8_agreement 47 = .ok (.invokevirtual 54, 3) := by decide +kernel
theorem dX8_agreement_50 : decode cX8_agreement 50 = .ok (.astore 6, 2) := by decide +kernel
theorem dX8_agreement_52 : decode cX8_agreement 52 = .ok (.aload 6, 2) := by decide +kernel
theorem dX8_agreement_54 : decode cX8_agreement 54 = .ok (.ifnonnull 5, 3) := by decide +kernel
theorem dX8_agreement_57 : decode cX8_agreement 57 = .ok (.iconst 0, 1) := by decide +kernel
theorem dX8_agreement_58 : decode cX8_agreement 58 = .ok (.ireturn, 1) := by decide +kernel
theorem dX8_agreement_59 : decode cX8_agreement 59 = .ok (.aload 6, 2) := by decide +kernel
theorem dX8_agreement_61 : decode cX8_agreement 61 = .ok (.getfield 94, 3) := by decide +kernel
theorem dX8_agreement_64 : decode cX8_agreement 64 = .ok (.iconst 3, 1) := by decide +kernel
theorem dX8_agreement_65 : decode cX8_agreement 65 = .ok (.if_icmp .ne 7, 3) := by decide +kernel
theorem dX8_agreement_68 : decode cX8_agreement 68 = .ok (.iconst 0, 1) := by decide +kernel
theorem dX8_agreement_69 : decode cX8_agreement 69 = .ok (.goto 9, 3) := by decide +kernel
theorem dX8_agreement_72 : decode cX8_agreement 72 = .ok (.iload_n 3, 1) := by decide +kernel
theorem dX8_agreement_73 : decode cX8_agreement 73 = .ok (.iload 5, 2) := by decide +kernel
theorem dX8_agreement_75 : decode cX8_agreement 75 = .ok (.ishr, 1) := by decide +kernel
theorem dX8_agreement_76 : decode cX8_agreement 76 = .ok (.iconst 1, 1) := by decide +kernel
theorem dX8_agreement_77 : decode cX8_agreement 77 = .ok (.iand, 1) := by decide +kernel
theorem dX8_agreement_78 : decode cX8_agreement 78 = .ok (.istore 7, 2) := by decide +kernel
theorem dX8_agreement_80 : decode cX8_agreement 80 = .ok (.aload 4, 2) := by decide +kernel
theorem dX8_agreement_82 : decode cX8_agreement 82 = .ok (.iload_n 2, 1) := by decide +kernel
theorem dX8_agreement_83 : decode cX8_agreement 83 = .ok (.invokevirtual 99, 3) := by decide +kernel
theorem dX8_agreement_86 : decode cX8_agreement 86 = .ok (.iconst 0, 1) := by decide +kernel
theorem dX8_agreement_87 : decode cX8_agreement 87 = .ok (.invokestatic 102, 3) := by decide +kernel
theorem dX8_agreement_90 : decode cX8_agreement 90 = .ok (.iload 7, 2) := by decide +kernel
theorem dX8_agreement_92 : decode cX8_agreement 92 = .ok (.iconst 4, 1) := by decide +kernel
theorem dX8_agreement_93 : decode cX8_agreement 93 = .ok (.imul, 1) := by decide +kernel
theorem dX8_agreement_94 : decode cX8_agreement 94 = .ok (.iadd, 1) := by decide +kernel
theorem dX8_agreement_95 : decode cX8_agreement 95 = .ok (.aload 6, 2) := by decide +kernel
theorem dX8_agreement_97 : decode cX8_agreement 97 = .ok (.getfield 108, 3) := by decide +kernel
theorem dX8_agreement_100 : decode cX8_agreement 100 = .ok (.bipush 8, 2) := by decide +kernel
theorem dX8_agreement_102 : decode cX8_agreement 102 = .ok (.imul, 1) := by decide +kernel
theorem dX8_agreement_103 : decode cX8_agreement 103 = .ok (.iadd, 1) := by decide +kernel
theorem dX8_agreement_104 : decode cX8_agreement 104 = .ok (.ireturn, 1) := by decide +kernel
theorem dX9_init_0 : decode cX9_init 0 = .ok (.aload_n 0, 1) := by decide +kernel
theorem dX9_init_1 : decode cX9_init 1 = .ok (.invokespecial 3, 3) := by decide +kernel
theorem dX9_init_4 : decode cX9_init 4 = .ok (.aload_n 0, 1) := by decide +kernel
theorem dX9_init_5 : decode cX9_init 5 = .ok (.iconst (-1), 1) := by decide +kernel
theorem dX9_init_6 : decode cX9_init 6 = .ok (.putfield 9, 3) := by decide +kernel
theorem dX9_init_9 : decode cX9_init 9 = .ok (.aload_n 0, 1) := by decide +kernel
theorem dX9_init_10 : decode cX9_init 10 = .ok (.bipush 20, 2) := by decide +kernel
theorem dX9_init_12 : decode cX9_init 12 = .ok (.newarray .int, 2) := by decide +kernel
theorem dX9_init_14 : decode cX9_init 14 = .ok (.putfield 15, 3) := by decide +kernel
theorem dX9_init_17 : decode cX9_init 17 = .ok (.return_, 1) := by decide +kernel
theorem dX9_begin_0 : decode cX9_begin 0 = .ok (.aload_n 0, 1) := by decide +kernel
theorem dX9_begin_1 : decode cX9_begin 1 = .ok (.iload_n 1, 1) := by decide +kernel
theorem dX9_begin_2 : decode cX9_begin 2 = .ok (.putfield 9, 3) := by decide +kernel
theorem dX9_begin_5 : decode cX9_begin 5 = .ok (.aload_n 0, 1) := by decide +kernel
theorem dX9_begin_6 : decode cX9_begin 6 = .ok (.iload_n 2, 1) := by decide +kernel
theorem dX9_begin_7 : decode cX9_begin 7 = .ok (.putfield 19, 3) := by decide +kernel
theorem dX9_begin_10 : decode cX9_begin 10 = .ok (.aload_n 0, 1) := by decide +kernel
theorem dX9_begin_11 : decode cX9_begin 11 = .ok (.getfield 15, 3) := by decide +kernel
theorem dX9_begin_14 : decode cX9_begin 14 = .ok (.iconst (-1), 1) := by decide +kernel
theorem dX9_begin_15 : decode cX9_begin 15 = .ok (.invokestatic 22, 3) := by decide +kernel
theorem dX9_begin_18 : decode cX9_begin 18 = .ok (.return_, 1) := by decide +kernel
theorem dX9_become_0 : decode cX9_become 0 = .ok (.aload_n 0, 1) := by decide +kernel
theorem dX9_become_1 : decode cX9_become 1 = .ok (.aload_n 1, 1) := by decide +kernel
theorem dX9_become_2 : decode cX9_become 2 = .ok (.getfield 9, 3) := by decide +kernel
theorem dX9_become_5 : decode cX9_become 5 = .ok (.putfield 9, 3) := by decide +kernel
theorem dX9_become_8 : decode cX9_become 8 = .ok (.aload_n 0, 1) := by decide +kernel
theorem dX9_become_9 : decode cX9_become 9 = .ok (.aload_n 1, 1) := by decide +kernel
theorem dX9_become_10 : decode cX9_become 10 = .ok (.getfield 19, 3) := by decide +kernel
theorem dX9_become_13 : decode cX9_become 13 = .ok (.putfield 19, 3) := by decide +kernel
theorem dX9_become_16 : decode cX9_become 16 = .ok (.aload_n 1, 1) := by decide +kernel
theorem dX9_become_17 : decode cX9_become 17 = .ok (.getfield 15, 3) := by decide +kernel
theorem dX9_become_20 : decode cX9_become 20 = .ok (.iconst 0, 1) := by decide +kernel
theorem dX9_become_21 : decode cX9_become 21 = .ok (.aload_n 0, 1) := by decide +kernel
theorem dX9_become_22 : decode cX9_become 22 = .ok (.getfield 15, 3) := by decide +kernel
theorem dX9_become_25 : decode cX9_become 25 = .ok (.iconst 0, 1) := by decide +kernel
theorem dX9_become_26 : decode cX9_become 26 = .ok (.bipush 20, 2) := by decide +kernel
theorem dX9_become_28 : decode cX9_become 28 = .ok (.invokestatic 28, 3) := by decide +kernel
theorem dX9_become_31 : decode cX9_become 31 = .ok (.return_, 1) := by decide +kernel
theorem dX9_isMissing_0 : decode cX9_isMissing 0 = .ok (.aload_n 0, 1) := by decide +kernel
theorem dX9_isMissing_1 : decode cX9_isMissing 1 = .ok (.getfield 9, 3) := by decide +kernel
theorem dX9_isMissing_4 : decode cX9_isMissing 4 = .ok (.iconst (-1), 1) := by decide +kernel
theorem dX9_isMissing_5 : decode cX9_isMissing 5 = .ok (.if_icmp .ne 7, 3) := by decide +kernel
theorem dX9_isMissing_8 : decode cX9_isMissing 8 = .ok (.iconst 1, 1) := by decide +kernel
theorem dX9_isMissing_9 : decode cX9_isMissing 9 = .ok (.goto 4, 3) := by decide +kernel
theorem dX9_isMissing_12 : decode cX9_isMissing 12 = .ok (.iconst 0, 1) := by decide +kernel
theorem dX9_isMissing_13 : decode cX9_isMissing 13 = .ok (.ireturn, 1) := by decide +kernel
theorem dX9_has_0 : decode cX9_has 0 = .ok (.iload_n 1, 1) := by decide +kernel
theorem dX9_has_1 : decode cX9_has 1 = .ok (.ifCond .lt 21, 3) := by decide +kernel
theorem dX9_has_4 : decode cX9_has 4 = .ok (.iload_n 1, 1) := by decide +kernel
theorem dX9_has_5 : decode cX9_has 5 = .ok (.aload_n 0, 1) := by decide +kernel
theorem dX9_has_6 : decode cX9_has 6 = .ok (.getfield 19, 3) := by decide +kernel
theorem dX9_has_9 : decode cX9_has 9 = .ok (.if_icmp .ge 13, 3) := by decide +kernel
theorem dX9_has_12 : decode cX9_has 12 = .ok (.iload_n 1, 1) := by decide +kernel
theorem dX9_has_13 : decode cX9_has 13 = .ok (.bipush 20, 2) := by decide +kernel
theorem dX9_has_15 : decode cX9_has 15 = .ok (.if_icmp .ge 7, 3) := by decide +kernel
theorem dX9_has_18 : decode cX9_has 18 = .ok (.iconst 1, 1) := by decide +kernel
theorem dX9_has_19 : decode cX9_has 19 = .ok (.goto 4, 3) := by decide +kernel
theorem dX9_has_22 : decode cX9_has 22 = .ok (.iconst 0, 1) := by decide +kernel
theorem dX9_has_23 : decode cX9_has 23 = .ok (.ireturn, 1) := by decide +kernel
theorem dX9_wordAt_0 : decode cX9_wordAt 0 = .ok (.aload_n 0, 1) := by decide +kernel
theorem dX9_wordAt_1 : decode cX9_wordAt 1 = .ok (.iload_n 1, 1) := by decide +kernel
theorem dX9_wordAt_2 : decode cX9_wordAt 2 = .ok (.invokevirtual 34, 3) := by decide +kernel
theorem dX9_wordAt_5 : decode cX9_wordAt 5 = .ok (.ifCond .eq 12, 3) := by decide +kernel
theorem dX9_wordAt_8 : decode cX9_wordAt 8 = .ok (.aload_n 0, 1) := by decide +kernel
theorem dX9_wordAt_9 : decode cX9_wordAt 9 = .ok (.getfield 15, 3) := by decide +kernel
theorem dX9_wordAt_12 : decode cX9_wordAt 12 = .ok (.iload_n 1, 1) := by decide +kernel
theorem dX9_wordAt_13 : decode cX9_wordAt 13 = .ok (.iaload, 1) := by decide +kernel
theorem dX9_wordAt_14 : decode cX9_wordAt 14 = .ok (.goto 4, 3) := by decide +kernel
theorem dX9_wordAt_17 : decode cX9_wordAt 17 = .ok (.iconst (-1), 1) := by decide +kernel
theorem dX9_wordAt_18 : decode cX9_wordAt 18 = .ok (.ireturn, 1) := by decide +kernel
theorem dX9_lay_0 : decode cX9_lay 0 = .ok (.aload_n 0, 1) := by decide +kernel
theorem dX9_lay_1 : decode cX9_lay 1 = .ok (.iload_n 1, 1) := by decide +kernel
theorem dX9_lay_2 : decode cX9_lay 2 = .ok (.invokevirtual 34, 3) := by decide +kernel
theorem dX9_lay_5 : decode cX9_lay 5 = .ok (.ifCond .eq 10, 3) := by decide +kernel
theorem dX9_lay_8 : decode cX9_lay 8 = .ok (.aload_n 0, 1) := by decide +kernel
theorem dX9_lay_9 : decode cX9_lay 9 = .ok (.getfield 15, 3) := by decide +kernel
theorem dX9_lay_12 : decode cX9_lay 12 = .ok (.iload_n 1, 1) := by decide +kernel
theorem dX9_lay_13 : decode cX9_lay 13 = .ok (.iload_n 2, 1) := by decide +kernel
theorem dX9_lay_14 : decode cX9_lay 14 = .ok (.iastore, 1) := by decide +kernel
theorem dX9_lay_15 : decode cX9_lay 15 = .ok (.return_, 1) := by decide +kernel
theorem dX10_init_0 : decode cX10_init 0 = .ok (.aload_n 0, 1) := by decide +kernel
theorem dX10_init_1 : decode cX10_init 1 = .ok (.invokespecial 3, 3) := by decide +kernel
theorem dX10_init_4 : decode cX10_init 4 = .ok (.aload_n 0, 1) := by decide +kernel
theorem dX10_init_5 : decode cX10_init 5 = .ok (.new 9, 3) := by decide +kernel
theorem dX10_init_8 : decode cX10_init 8 = .ok (.dup, 1) := by decide +kernel
theorem dX10_init_9 : decode cX10_init 9 = .ok (.bipush 6, 2) := by decide +kernel
theorem dX10_init_11 : decode cX10_init 11 = .ok (.invokespecial 11, 3) := by decide +kernel
theorem dX10_init_14 : decode cX10_init 14 = .ok (.putfield 14, 3) := by decide +kernel
theorem dX10_init_17 : decode cX10_init 17 = .ok (.aload_n 0, 1) := by decide +kernel
theorem dX10_init_18 : decode cX10_init 18 = .ok (.iload_n 1, 1) := by decide +kernel
theorem dX10_init_19 : decode cX10_init 19 = .ok (.putfield 20, 3) := by decide +kernel
theorem dX10_init_22 : decode cX10_init 22 = .ok (.return_, 1) := by decide +kernel
theorem dX10_become_0 : decode cX10_become 0 = .ok (.aload_n 0, 1) := by decide +kernel
theorem dX10_become_1 : decode cX10_become 1 = .ok (.aload_n 1, 1) := by decide +kernel
theorem dX10_become_2 : decode cX10_become 2 = .ok (.getfield 14, 3) := by decide +kernel
theorem dX10_become_5 : decode cX10_become 5 = .ok (.aload_n 1, 1) := by decide +kernel
theorem dX10_become_6 : decode cX10_become 6 = .ok (.getfield 24, 3) := by decide +kernel
theorem dX10_become_9 : decode cX10_become 9 = .ok (.aload_n 1, 1) := by decide +kernel
theorem dX10_become_10 : decode cX10_become 10 = .ok (.getfield 27, 3) := by decide +kernel
theorem dX10_become_13 : decode cX10_become 13 = .ok (.aload_n 1, 1) := by decide +kernel
theorem dX10_become_14 : decode cX10_become 14 = .ok (.getfield 30, 3) := by decide +kernel
theorem dX10_become_17 : decode cX10_become 17 = .ok (.invokevirtual 33, 3) := by decide +kernel
theorem dX10_become_20 : decode cX10_become 20 = .ok (.return_, 1) := by decide +kernel
theorem dX10_begin_0 : decode cX10_begin 0 = .ok (.aload_n 0, 1) := by decide +kernel
theorem dX10_begin_1 : decode cX10_begin 1 = .ok (.getfield 14, 3) := by decide +kernel
theorem dX10_begin_4 : decode cX10_begin 4 = .ok (.aload_n 1, 1) := by decide +kernel
theorem dX10_begin_5 : decode cX10_begin 5 = .ok (.invokevirtual 37, 3) := by decide +kernel
theorem dX10_begin_8 : decode cX10_begin 8 = .ok (.aload_n 0, 1) := by decide +kernel
theorem dX10_begin_9 : decode cX10_begin 9 = .ok (.iload_n 2, 1) := by decide +kernel
theorem dX10_begin_10 : decode cX10_begin 10 = .ok (.putfield 24, 3) := by decide +kernel
theorem dX10_begin_13 : decode cX10_begin 13 = .ok (.aload_n 0, 1) := by decide +kernel
theorem dX10_begin_14 : decode cX10_begin 14 = .ok (.iload_n 3, 1) := by decide +kernel
theorem dX10_begin_15 : decode cX10_begin 15 = .ok (.putfield 27, 3) := by decide +kernel
theorem dX10_begin_18 : decode cX10_begin 18 = .ok (.aload_n 0, 1) := by decide +kernel
theorem dX10_begin_19 : decode cX10_begin 19 = .ok (.iload 4, 2) := by decide +kernel
theorem dX10_begin_21 : decode cX10_begin 21 = .ok (.putfield 30, 3) := by decide +kernel
theorem dX10_begin_24 : decode cX10_begin 24 = .ok (.return_, 1) := by decide +kernel
theorem dX10_isOf_0 : decode cX10_isOf 0 = .ok (.aload_n 0, 1) := by decide +kernel
theorem dX10_isOf_1 : decode cX10_isOf 1 = .ok (.getfield 24, 3) := by decide +kernel
theorem dX10_isOf_4 : decode cX10_isOf 4 = .ok (.istore_n 2, 1) := by decide +kernel
theorem dX10_isOf_5 : decode cX10_isOf 5 = .ok (.iconst 0, 1) := by decide +kernel
theorem dX10_isOf_6 : decode cX10_isOf 6 = .ok (.istore_n 3, 1) := by decide +kernel
theorem dX10_isOf_7 : decode cX10_isOf 7 = .ok (.iload_n 3, 1) := by decide +kernel
theorem dX10_isOf_8 : decode cX10_isOf 8 = .ok (.bipush 6, 2) := by decide +kernel
theorem dX10_isOf_10 : decode cX10_isOf 10 = .ok (.if_icmp .ge 34, 3) := by decide +kernel
theorem dX10_isOf_13 : decode cX10_isOf 13 = .ok (.iload_n 2, 1) := by decide +kernel
theorem dX10_isOf_14 : decode cX10_isOf 14 = .ok (.ifCond .lt 30, 3) := by decide +kernel
theorem dX10_isOf_17 : decode cX10_isOf 17 = .ok (.iload_n 2, 1) := by decide +kernel
theorem dX10_isOf_18 : decode cX10_isOf 18 = .ok (.getstatic 41, 3) := by decide +kernel
theorem dX10_isOf_21 : decode cX10_isOf 21 = .ok (.arraylength, 1) := by decide +kernel
theorem dX10_isOf_22 : decode cX10_isOf 22 = .ok (.if_icmp .ge 22, 3) := by decide +kernel
theorem dX10_isOf_25 : decode cX10_isOf 25 = .ok (.iload_n 2, 1) := by decide +kernel
theorem dX10_isOf_26 : decode cX10_isOf 26 = .ok (.iload_n 1, 1) := by decide +kernel
theorem dX10_isOf_27 : decode cX10_isOf 27 = .ok (.if_icmp .ne 5, 3) := by decide +kernel
theorem dX10_isOf_30 : decode cX10_isOf 30 = .ok (.iconst 1, 1) := by decide +kernel
theorem dX10_isOf_31 : decode cX10_isOf 31 = .ok (.ireturn, 1) := by decide +kernel
theorem dX10_isOf_32 : decode cX10_isOf 32 = .ok (.getstatic 41, 3) := by decide +kernel
theorem dX10_isOf_35 : decode cX10_isOf 35 = .ok (.iload_n 2, 1) := by decide +kernel
theorem dX10_isOf_36 : decode cX10_isOf 36 = .ok (.iaload, 1) := by decide +kernel
theorem dX10_isOf_37 : decode cX10_isOf 37 = .ok (.istore_n 2, 1) := by decide +kernel
theorem dX10_isOf_38 : decode cX10_isOf 38 = .ok (.iinc 3 1, 3) := by decide +kernel
theorem dX10_isOf_41 : decode cX10_isOf 41 = .ok (.goto (-34), 3) := by decide +kernel
theorem dX10_isOf_44 : decode cX10_isOf 44 = .ok (.iconst 0, 1) := by decide +kernel
theorem dX10_isOf_45 : decode cX10_isOf 45 = .ok (.ireturn, 1) := by decide +kernel
theorem dX11_init_0 : decode cX11_init 0 = .ok (.aload_n 0, 1) := by decide +kernel
theorem dX11_init_1 : decode cX11_init 1 = .ok (.invokespecial 3, 3) := by decide +kernel
theorem dX11_init_4 : decode cX11_init 4 = .ok (.aload_n 0, 1) := by decide +kernel
theorem dX11_init_5 : decode cX11_init 5 = .ok (.new 9, 3) := by decide +kernel
theorem dX11_init_8 : decode cX11_init 8 = .ok (.dup, 1) := by decide +kernel
theorem dX11_init_9 : decode cX11_init 9 = .ok (.bipush 50, 2) := by decide +kernel
theorem dX11_init_11 : decode cX11_init 11 = .ok (.invokespecial 11, 3) := by decide +kernel
theorem dX11_init_14 : decode cX11_init 14 = .ok (.putfield 14, 3) := by decide +kernel
theorem dX11_init_17 : decode cX11_init 17 = .ok (.aload_n 0, 1) := by decide +kernel
theorem dX11_init_18 : decode cX11_init 18 = .ok (.new 18, 3) := by decide +kernel
theorem dX11_init_21 : decode cX11_init 21 = .ok (.dup, 1) := by decide +kernel
theorem dX11_init_22 : decode cX11_init 22 = .ok (.invokespecial 20, 3) := by decide +kernel
theorem dX11_init_25 : decode cX11_init 25 = .ok (.putfield 21, 3) := by decide +kernel
theorem dX11_init_28 : decode cX11_init 28 = .ok (.aload_n 0, 1) := by decide +kernel
theorem dX11_init_29 : decode cX11_init 29 = .ok (.new 18, 3) := by decide +kernel
theorem dX11_init_32 : decode cX11_init 32 = .ok (.dup, 1) := by decide +kernel
theorem dX11_init_33 : decode cX11_init 33 = .ok (.invokespecial 20, 3) := by decide +kernel
theorem dX11_init_36 : decode cX11_init 36 = .ok (.putfield 25, 3) := by decide +kernel
theorem dX11_init_39 : decode cX11_init 39 = .ok (.aload_n 0, 1) := by decide +kernel
theorem dX11_init_40 : decode cX11_init 40 = .ok (.new 28, 3) := by decide +kernel
theorem dX11_init_43 : decode cX11_init 43 = .ok (.dup, 1) := by decide +kernel
theorem dX11_init_44 : decode cX11_init 44 = .ok (.invokespecial 30, 3) := by decide +kernel
theorem dX11_init_47 : decode cX11_init 47 = .ok (.putfield 31, 3) := by decide +kernel
theorem dX11_init_50 : decode cX11_init 50 = .ok (.aload_n 0, 1) := by decide +kernel
theorem dX11_init_51 : decode cX11_init 51 = .ok (.new 9, 3) := by decide +kernel
theorem dX11_init_54 : decode cX11_init 54 = .ok (.dup, 1) := by decide +kernel
theorem dX11_init_55 : decode cX11_init 55 = .ok (.bipush 10, 2) := by decide +kernel
theorem dX11_init_57 : decode cX11_init 57 = .ok (.invokespecial 11, 3) := by decide +kernel
theorem dX11_init_60 : decode cX11_init 60 = .ok (.putfield 35, 3) := by decide +kernel
theorem dX11_init_63 : decode cX11_init 63 = .ok (.aload_n 0, 1) := by decide +kernel
theorem dX11_init_64 : decode cX11_init 64 = .ok (.new 38, 3) := by decide +kernel
theorem dX11_init_67 : decode cX11_init 67 = .ok (.dup, 1) := by decide +kernel
theorem dX11_init_68 : decode cX11_init 68 = .ok (.invokespecial 40, 3) := by decide +kernel
theorem dX11_init_71 : decode cX11_init 71 = .ok (.putfield 41, 3) := by decide +kernel
theorem dX11_init_74 : decode cX11_init 74 = .ok (.aload_n 0, 1) := by decide +kernel
theorem dX11_init_75 : decode cX11_init 75 = .ok (.new 45, 3) := by decide +kernel
theorem dX11_init_78 : decode cX11_init 78 = .ok (.dup, 1) := by decide +kernel
theorem dX11_init_79 : decode cX11_init 79 = .ok (.invokespecial 47, 3) := by decide +kernel
theorem dX11_init_82 : decode cX11_init 82 = .ok (.putfield 48, 3) := by decide +kernel
theorem dX11_init_85 : decode cX11_init 85 = .ok (.aload_n 0, 1) := by decide +kernel
theorem dX11_init_86 : decode cX11_init 86 = .ok (.new 52, 3) := by decide +kernel
theorem dX11_init_89 : decode cX11_init 89 = .ok (.dup, 1) := by decide +kernel
theorem dX11_init_90 : decode cX11_init 90 = .ok (.invokespecial 54, 3) := by decide +kernel
theorem dX11_init_93 : decode cX11_init 93 = .ok (.putfield 55, 3) := by decide +kernel
theorem dX11_init_96 : decode cX11_init 96 = .ok (.aload_n 0, 1) := by decide +kernel
theorem dX11_init_97 : decode cX11_init 97 = .ok (.iconst 4, 1) := by decide +kernel
theorem dX11_init_98 : decode cX11_init 98 = .ok (.anewarray 59, 3) := by decide +kernel
theorem dX11_init_101 : decode cX11_init 101 = .ok (.putfield 61, 3) := by decide +kernel
theorem dX11_init_104 : decode cX11_init 104 = .ok (.aload_n 0, 1) := by decide +kernel
theorem dX11_init_105 : decode cX11_init 105 = .ok (.iconst 4, 1) := by decide +kernel
theorem dX11_init_106 : decode cX11_init 106 = .ok (.anewarray 65, 3) := by decide +kernel
theorem dX11_init_109 : decode cX11_init 109 = .ok (.putfield 67, 3) := by decide +kernel
theorem dX11_init_112 : decode cX11_init 112 = .ok (.iconst 0, 1) := by decide +kernel
theorem dX11_init_113 : decode cX11_init 113 = .ok (.istore_n 1, 1) := by decide +kernel
theorem dX11_init_114 : decode cX11_init 114 = .ok (.iload_n 1, 1) := by decide +kernel
theorem dX11_init_115 : decode cX11_init 115 = .ok (.iconst 4, 1) := by decide +kernel
theorem dX11_init_116 : decode cX11_init 116 = .ok (.if_icmp .ge 22, 3) := by decide +kernel
theorem dX11_init_119 : decode cX11_init 119 = .ok (.aload_n 0, 1) := by decide +kernel
theorem dX11_init_120 : decode cX11_init 120 = .ok (.getfield 61, 3) := by decide +kernel
theorem dX11_init_123 : decode cX11_init 123 = .ok (.iload_n 1, 1) := by decide +kernel
theorem dX11_init_124 : decode cX11_init 124 = .ok (.new 59, 3) := by decide +kernel
theorem dX11_init_127 : decode cX11_init 127 = .ok (.dup, 1) := by decide +kernel
theorem dX11_init_128 : decode cX11_init 128 = .ok (.invokespecial 71, 3) := by decide +kernel
theorem dX11_init_131 : decode cX11_init 131 = .ok (.aastore, 1) := by decide +kernel
theorem dX11_init_132 : decode cX11_init 132 = .ok (.iinc 1 1, 3) := by decide +kernel
theorem dX11_init_135 : decode cX11_init 135 = .ok (.goto (-21), 3) := by decide +kernel
theorem dX11_init_138 : decode cX11_init 138 = .ok (.iconst 0, 1) := by decide +kernel
theorem dX11_init_139 : decode cX11_init 139 = .ok (.istore_n 1, 1) := by decide +kernel
theorem dX11_init_140 : decode cX11_init 140 = .ok (.iload_n 1, 1) := by decide +kernel
theorem dX11_init_141 : decode cX11_init 141 = .ok (.iconst 4, 1) := by decide +kernel
theorem dX11_init_142 : decode cX11_init 142 = .ok (.if_icmp .ge 22, 3) := by decide +kernel
theorem dX11_init_145 : decode cX11_init 145 = .ok (.aload_n 0, 1) := by decide +kernel
theorem dX11_init_146 : decode cX11_init 146 = .ok (.getfield 67, 3) := by decide +kernel
theorem dX11_init_149 : decode cX11_init 149 = .ok (.iload_n 1, 1) := by decide +kernel
theorem dX11_init_150 : decode cX11_init 150 = .ok (.new 65, 3) := by decide +kernel
theorem dX11_init_153 : decode cX11_init 153 = .ok (.dup, 1) := by decide +kernel
theorem dX11_init_154 : decode cX11_init 154 = .ok (.invokespecial 72, 3) := by decide +kernel
theorem dX11_init_157 : decode cX11_init 157 = .ok (.aastore, 1) := by decide +kernel
theorem dX11_init_158 : decode cX11_init 158 = .ok (.iinc 1 1, 3) := by decide +kernel
theorem dX11_init_161 : decode cX11_init 161 = .ok (.goto (-21), 3) := by decide +kernel
theorem dX11_init_164 : decode cX11_init 164 = .ok (.return_, 1) := by decide +kernel
theorem dX11_feed_0 : decode cX11_feed 0 = .ok (.iload_n 1, 1) := by decide +kernel
theorem dX11_feed_1 : decode cX11_feed 1 = .ok (.iconst 1, 1) := by decide +kernel
theorem dX11_feed_2 : decode cX11_feed 2 = .ok (.if_icmp .lt 22, 3) := by decide +kernel
theorem dX11_feed_5 : decode cX11_feed 5 = .ok (.iload_n 1, 1) := by decide +kernel
theorem dX11_feed_6 : decode cX11_feed 6 = .ok (.iconst 5, 1) := by decide +kernel
theorem dX11_feed_7 : decode cX11_feed 7 = .ok (.if_icmp .gt 17, 3) := by decide +kernel
theorem dX11_feed_10 : decode cX11_feed 10 = .ok (.iload_n 2, 1) := by decide +kernel
theorem dX11_feed_11 : decode cX11_feed 11 = .ok (.iload_n 3, 1) := by decide +kernel
theorem dX11_feed_12 : decode cX11_feed 12 = .ok (.iload 4, 2) := by decide +kernel
theorem dX11_feed_14 : decode cX11_feed 14 = .ok (.iload 5, 2) := by decide +kernel
theorem dX11_feed_16 : decode cX11_feed 16 = .ok (.iload 6, 2) := by decide +kernel
theorem dX11_feed_18 : decode cX11_feed 18 = .ok (.invokestatic 73, 3) := by decide +kernel
theorem dX11_feed_21 : decode cX11_feed 21 = .ok (.ifCond .ne 6, 3) := by decide +kernel
theorem dX11_feed_24 : decode cX11_feed 24 = .ok (.bipush (-2), 2) := by decide +kernel
theorem dX11_feed_26 : decode cX11_feed 26 = .ok (.ireturn, 1) := by decide +kernel
theorem dX11_feed_27 : decode cX11_feed 27 = .ok (.aload_n 0, 1) := by decide +kernel
theorem dX11_feed_28 : decode cX11_feed 28 = .ok (.getfield 14, 3) := by decide +kernel
theorem dX11_feed_31 : decode cX11_feed 31 = .ok (.getfield 77, 3) := by decide +kernel
theorem dX11_feed_34 : decode cX11_feed 34 = .ok (.iload_n 1, 1) := by decide +kernel
theorem dX11_feed_35 : decode cX11_feed 35 = .ok (.iadd, 1) := by decide +kernel
theorem dX11_feed_36 : decode cX11_feed 36 = .ok (.bipush 50, 2) := by decide +kernel
theorem dX11_feed_38 : decode cX11_feed 38 = .ok (.if_icmp .le 6, 3) := by decide +kernel
theorem dX11_feed_41 : decode cX11_feed 41 = .ok (.bipush (-4), 2) := by decide +kernel
theorem dX11_feed_43 : decode cX11_feed 43 = .ok (.ireturn, 1) := by decide +kernel
theorem dX11_feed_44 : decode cX11_feed 44 = .ok (.iconst 0, 1) := by decide +kernel
theorem dX11_feed_45 : decode cX11_feed 45 = .ok (.istore 7, 2) := by decide +kernel
theorem dX11_feed_47 : decode cX11_feed 47 = .ok (.iload 7, 2) := by decide +kernel
theorem dX11_feed_49 : decode cX11_feed 49 = .ok (.iload_n 1, 1) := by decide +kernel
theorem dX11_feed_50 : decode cX11_feed 50 = .ok (.if_icmp .ge 59, 3) := by decide +kernel
theorem dX11_feed_53 : decode cX11_feed 53 = .ok (.aload_n 0, 1) := by decide +kernel
theorem dX11_feed_54 : decode cX11_feed 54 = .ok (.getfield 14, 3) := by decide +kernel
theorem dX11_feed_57 : decode cX11_feed 57 = .ok (.iload 7, 2) := by decide +kernel
theorem dX11_feed_59 : decode cX11_feed 59 = .ok (.ifCond .ne 7, 3) := by decide +kernel
theorem dX11_feed_62 : decode cX11_feed 62 = .ok (.iload_n 2, 1) := by decide +kernel
theorem dX11_feed_63 : decode cX11_feed 63 = .ok (.goto 37, 3) := by decide +kernel
theorem dX11_feed_66 : decode cX11_feed 66 = .ok (.iload 7, 2) := by decide +kernel
theorem dX11_feed_68 : decode cX11_feed 68 = .ok (.iconst 1, 1) := by decide +kernel
theorem dX11_feed_69 : decode cX11_feed 69 = .ok (.if_icmp .ne 7, 3) := by decide +kernel
theorem dX11_feed_72 : decode cX11_feed 72 = .ok (.iload_n 3, 1) := by decide +kernel
theorem dX11_feed_73 : decode cX11_feed 73 = .ok (.goto 27, 3) := by decide +kernel
theorem dX11_feed_76 : decode cX11_feed 76 = .ok (.iload 7, 2) := by decide +kernel
theorem dX11_feed_78 : decode cX11_feed 78 = .ok (.iconst 2, 1) := by decide +kernel
theorem dX11_feed_79 : decode cX11_feed 79 = .ok (.if_icmp .ne 8, 3) := by decide +kernel
theorem dX11_feed_82 : decode cX11_feed 82 = .ok (.iload 4, 2) := by decide +kernel
theorem dX11_feed_84 : decode cX11_feed 84 = .ok (.goto 16, 3) := by decide +kernel
theorem dX11_feed_87 : decode cX11_feed 87 = .ok (.iload 7, 2) := by decide +kernel
theorem dX11_feed_89 : decode cX11_feed 89 = .ok (.iconst 3, 1) := by decide +kernel
theorem dX11_feed_90 : decode cX11_feed 90 = .ok (.if_icmp .ne 8, 3) := by decide +kernel
theorem dX11_feed_93 : decode cX11_feed 93 = .ok (.iload 5, 2) := by decide +kernel
theorem dX11_feed_95 : decode cX11_feed 95 = .ok (.goto 5, 3) := by decide +kernel
theorem dX11_feed_98 : decode cX11_feed 98 = .ok (.iload 6, 2) := by decide +kernel
theorem dX11_feed_100 : decode cX11_feed 100 = .ok (.invokevirtual 81, 3) := by decide +kernel
theorem dX11_feed_103 : decode cX11_feed 103 = .ok (.iinc 7 1, 3) := by decide +kernel
theorem dX11_feed_106 : decode cX11_feed 106 = .ok (.goto (-59), 3) := by decide +kernel
theorem dX11_feed_109 : decode cX11_feed 109 = .ok (.aload_n 0, 1) := by decide +kernel
theorem dX11_feed_110 : decode cX11_feed 110 = .ok (.getfield 14, 3) := by decide +kernel
theorem dX11_feed_113 : decode cX11_feed 113 = .ok (.getfield 77, 3) := by decide +kernel
theorem dX11_feed_116 : decode cX11_feed 116 = .ok (.ireturn, 1) := by decide +kernel
theorem dX11_word_0 : decode cX11_word 0 = .ok (.iload_n 1, 1) := by decide +kernel
theorem dX11_word_1 : decode cX11_word 1 = .ok (.bipush 6, 2) := by decide +kernel
theorem dX11_word_3 : decode cX11_word 3 = .ok (.invokestatic 84, 3) := by decide +kernel
theorem dX11_word_6 : decode cX11_word 6 = .ok (.ifCond .eq 19, 3) := by decide +kernel
theorem dX11_word_9 : decode cX11_word 9 = .ok (.iload_n 2, 1) := by decide +kernel
theorem dX11_word_10 : decode cX11_word 10 = .ok (.iconst 4, 1) := by decide +kernel
theorem dX11_word_11 : decode cX11_word 11 = .ok (.invokestatic 84, 3) := by decide +kernel
theorem dX11_word_14 : decode cX11_word 14 = .ok (.ifCond .eq 11, 3) := by decide +kernel
theorem dX11_word_17 : decode cX11_word 17 = .ok (.iload_n 3, 1) := by decide +kernel
theorem dX11_word_18 : decode cX11_word 18 = .ok (.iconst 3, 1) := by decide +kernel
theorem dX11_word_19 : decode cX11_word 19 = .ok (.invokestatic 84, 3) := by decide +kernel
theorem dX11_word_22 : decode cX11_word 22 = .ok (.ifCond .ne 6, 3) := by decide +kernel
theorem dX11_word_25 : decode cX11_word 25 = .ok (.bipush (-2), 2) := by decide +kernel
theorem dX11_word_27 : decode cX11_word 27 = .ok (.ireturn, 1) := by decide +kernel
theorem dX11_word_28 : decode cX11_word 28 = .ok (.aload_n 0, 1) := by decide +kernel
theorem dX11_word_29 : decode cX11_word 29 = .ok (.getfield 14, 3) := by decide +kernel
theorem dX11_word_32 : decode cX11_word 32 = .ok (.getfield 77, 3) := by decide +kernel
theorem dX11_word_35 : decode cX11_word 35 = .ok (.iconst 1, 1) := by decide +kernel
theorem dX11_word_36 : decode cX11_word 36 = .ok (.if_icmp .lt 29, 3) := by decide +kernel
theorem dX11_word_39 : decode cX11_word 39 = .ok (.aload_n 0, 1) := by decide +kernel
theorem dX11_word_40 : decode cX11_word 40 = .ok (.getfield 14, 3) := by decide +kernel
theorem dX11_word_43 : decode cX11_word 43 = .ok (.getfield 77, 3) := by decide +kernel
theorem dX11_word_46 : decode cX11_word 46 = .ok (.bipush 6, 2) := by decide +kernel
theorem dX11_word_48 : decode cX11_word 48 = .ok (.if_icmp .gt 17, 3) := by decide +kernel
theorem dX11_word_51 : decode cX11_word 51 = .ok (.aload_n 0, 1) := by decide +kernel
theorem dX11_word_52 : decode cX11_word 52 = .ok (.getfield 14, 3) := by decide +kernel
theorem dX11_word_55 : decode cX11_word 55 = .ok (.invokevirtual 88, 3) := by decide +kernel
theorem dX11_word_58 : decode cX11_word 58 = .ok (.ifCond .eq 7, 3) := by decide +kernel
theorem dX11_word_61 : decode cX11_word 61 = .ok (.iconst 1, 1) := by decide +kernel
theorem dX11_word_62 : decode cX11_word 62 = .ok (.goto 4, 3) := by decide +kernel
theorem dX11_word_65 : decode cX11_word 65 = .ok (.iconst 0, 1) := by decide +kernel
theorem dX11_word_66 : decode cX11_word 66 = .ok (.istore 4, 2) := by decide +kernel
theorem dX11_word_68 : decode cX11_word 68 = .ok (.iload 4, 2) := by decide +kernel
theorem dX11_word_70 : decode cX11_word 70 = .ok (.ifCond .eq 20, 3) := by decide +kernel
theorem dX11_word_73 : decode cX11_word 73 = .ok (.aload_n 0, 1) := by decide +kernel
theorem dX11_word_74 : decode cX11_word 74 = .ok (.getfield 21, 3) := by decide +kernel
theorem dX11_word_77 : decode cX11_word 77 = .ok (.aload_n 0, 1) := by decide +kernel
theorem dX11_word_78 : decode cX11_word 78 = .ok (.getfield 14, 3) := by decide +kernel
theorem dX11_word_81 : decode cX11_word 81 = .ok (.iload_n 1, 1) := by decide +kernel
theorem dX11_word_82 : decode cX11_word 82 = .ok (.iload_n 2, 1) := by decide +kernel
theorem dX11_word_83 : decode cX11_word 83 = .ok (.iload_n 3, 1) := by decide +kernel
theorem dX11_word_84 : decode cX11_word 84 = .ok (.invokevirtual 92, 3) := by decide +kernel
theorem dX11_word_87 : decode cX11_word 87 = .ok (.goto 5, 3) := by decide +kernel
theorem dX11_word_90 : decode cX11_word 90 = .ok (.bipush (-3), 2) := by decide +kernel
theorem dX11_word_92 : decode cX11_word 92 = .ok (.istore 5, 2) := by decide +kernel
theorem dX11_word_94 : decode cX11_word 94 = .ok (.aload_n 0, 1) := by decide +kernel
theorem dX11_word_95 : decode cX11_word 95 = .ok (.getfield 14, 3) := by decide +kernel
theorem dX11_word_98 : decode cX11_word 98 = .ok (.invokevirtual 96, 3) := by decide +kernel
theorem dX11_word_101 : decode cX11_word 101 = .ok (.iload 5, 2) := by decide +kernel
theorem dX11_word_103 : decode cX11_word 103 = .ok (.ireturn, 1) := by decide +kernel
theorem dX11_ending_0 : decode cX11_ending 0 = .ok (.aload_n 0, 1) := by decide +kernel
theorem dX11_ending_1 : decode cX11_ending 1 = .ok (.getfield 21, 3) := by decide +kernel
theorem dX11_ending_4 : decode cX11_ending 4 = .ok (.iload_n 1, 1) := by decide +kernel
theorem dX11_ending_5 : decode cX11_ending 5 = .ok (.iload_n 2, 1) := by decide +kernel
theorem dX11_ending_6 : decode cX11_ending 6 = .ok (.iload_n 3, 1) := by decide +kernel
theorem dX11_ending_7 : decode cX11_ending 7 = .ok (.invokevirtual 99, 3) := by decide +kernel
theorem dX11_ending_10 : decode cX11_ending 10 = .ok (.astore 4, 2) := by decide +kernel
theorem dX11_ending_12 : decode cX11_ending 12 = .ok (.aload 4, 2) := by decide +kernel
theorem dX11_ending_14 : decode cX11_ending 14 = .ok (.ifnonnull 6, 3) := by decide +kernel
theorem dX11_ending_17 : decode cX11_ending 17 = .ok (.bipush (-2), 2) := by decide +kernel
theorem dX11_ending_19 : decode cX11_ending 19 = .ok (.ireturn, 1) := by decide +kernel
theorem dX11_ending_20 : decode cX11_ending 20 = .ok (.bipush (-3), 2) := by decide +kernel
theorem dX11_ending_22 : decode cX11_ending 22 = .ok (.istore 5, 2) := by decide +kernel
theorem dX11_ending_24 : decode cX11_ending 24 = .ok (.aload_n 0, 1) := by decide +kernel
theorem dX11_ending_25 : decode cX11_ending 25 = .ok (.getfield 14, 3) := by decide +kernel
theorem dX11_ending_28 : decode cX11_ending 28 = .ok (.getfield 77, 3) := by decide +kernel
theorem dX11_ending_31 : decode cX11_ending 31 = .ok (.iconst 3, 1) := by decide +kernel
theorem dX11_ending_32 : decode cX11_ending 32 = .ok (.if_icmp .gt 29, 3) := by decide +kernel
theorem dX11_ending_35 : decode cX11_ending 35 = .ok (.aload_n 0, 1) := by decide +kernel
theorem dX11_ending_36 : decode cX11_ending 36 = .ok (.getfield 14, 3) := by decide +kernel
theorem dX11_ending_39 : decode cX11_ending 39 = .ok (.invokevirtual 88, 3) := by decide +kernel
theorem dX11_ending_42 : decode cX11_ending 42 = .ok (.ifCond .eq 19, 3) := by decide +kernel
theorem dX11_ending_45 : decode cX11_ending 45 = .ok (.aload 4, 2) := by decide +kernel
theorem dX11_ending_47 : decode cX11_ending 47 = .ok (.getfield 77, 3) := by decide +kernel
theorem dX11_ending_50 : decode cX11_ending 50 = .ok (.istore 5, 2) := by decide +kernel
theorem dX11_ending_52 : decode cX11_ending 52 = .ok (.aload 4, 2) := by decide +kernel
theorem dX11_ending_54 : decode cX11_ending 54 = .ok (.aload_n 0, 1) := by decide +kernel
theorem dX11_ending_55 : decode cX11_ending 55 = .ok (.getfield 14, 3) := by decide +kernel
theorem dX11_ending_58 : decode cX11_ending 58 = .ok (.invokevirtual 103, 3) := by decide +kernel
theorem dX11_ending_61 : decode cX11_ending 61 = .ok (.aload_n 0, 1) := by decide +kernel
theorem dX11_ending_62 : decode cX11_ending 62 = .ok (.getfield 14, 3) := by decide +kernel
theorem dX11_ending_65 : decode cX11_ending 65 = .ok (.invokevirtual 96, 3) := by decide +kernel
theorem dX11_ending_68 : decode cX11_ending 68 = .ok (.iload 5, 2) := by decide +kernel
theorem dX11_ending_70 : decode cX11_ending 70 = .ok (.ireturn, 1) := by decide +kernel
theorem dX11_frame_0 : decode cX11_frame 0 = .ok (.aload_n 0, 1) := by decide +kernel
theorem dX11_frame_1 : decode cX11_frame 1 = .ok (.getfield 31, 3) := by decide +kernel
theorem dX11_frame_4 : decode cX11_frame 4 = .ok (.aload_n 0, 1) := by decide +kernel
theorem dX11_frame_5 : decode cX11_frame 5 = .ok (.getfield 21, 3) := by decide +kernel
theorem dX11_frame_8 : decode cX11_frame 8 = .ok (.aload_n 0, 1) := by decide +kernel
theorem dX11_frame_9 : decode cX11_frame 9 = .ok (.getfield 14, 3) := by decide +kernel
theorem dX11_frame_12 : decode cX11_frame 12 = .ok (.invokevirtual 107, 3) := by decide +kernel
theorem dX11_frame_15 : decode cX11_frame 15 = .ok (.istore_n 1, 1) := by decide +kernel
theorem dX11_frame_16 : decode cX11_frame 16 = .ok (.aload_n 0, 1) := by decide +kernel
theorem dX11_frame_17 : decode cX11_frame 17 = .ok (.getfield 14, 3) := by decide +kernel
theorem dX11_frame_20 : decode cX11_frame 20 = .ok (.invokevirtual 96, 3) := by decide +kernel
theorem dX11_frame_23 : decode cX11_frame 23 = .ok (.iload_n 1, 1) := by decide +kernel
theorem dX11_frame_24 : decode cX11_frame 24 = .ok (.iconst (-1), 1) := by decide +kernel
theorem dX11_frame_25 : decode cX11_frame 25 = .ok (.if_icmp .ne 20, 3) := by decide +kernel
theorem dX11_frame_28 : decode cX11_frame 28 = .ok (.aload_n 0, 1) := by decide +kernel
theorem dX11_frame_29 : decode cX11_frame 29 = .ok (.getfield 21, 3) := by decide +kernel
theorem dX11_frame_32 : decode cX11_frame 32 = .ok (.aload_n 0, 1) := by decide +kernel
theorem dX11_frame_33 : decode cX11_frame 33 = .ok (.getfield 31, 3) := by decide +kernel
theorem dX11_frame_36 : decode cX11_frame 36 = .ok (.getfield 111, 3) := by decide +kernel
theorem dX11_frame_39 : decode cX11_frame 39 = .ok (.invokevirtual 115, 3) := by decide +kernel
theorem dX11_frame_42 : decode cX11_frame 42 = .ok (.goto 7, 3) := by decide +kernel
theorem dX11_frame_45 : decode cX11_frame 45 = .ok (.bipush (-100), 2) := by decide +kernel
theorem dX11_frame_47 : decode cX11_frame 47 = .ok (.iload_n 1, 1) := by decide +kernel
theorem dX11_frame_48 : decode cX11_frame 48 = .ok (.isub, 1) := by decide +kernel
theorem dX11_frame_49 : decode cX11_frame 49 = .ok (.ireturn, 1) := by decide +kernel
theorem dX11_told_0 : decode cX11_told 0 = .ok (.aload_n 0, 1) := by decide +kernel
theorem dX11_told_1 : decode cX11_told 1 = .ok (.getfield 21, 3) := by decide +kernel
theorem dX11_told_4 : decode cX11_told 4 = .ok (.iload_n 1, 1) := by decide +kernel
theorem dX11_told_5 : decode cX11_told 5 = .ok (.invokevirtual 119, 3) := by decide +kernel
theorem dX11_told_8 : decode cX11_told 8 = .ok (.astore_n 3, 1) := by decide +kernel
theorem dX11_told_9 : decode cX11_told 9 = .ok (.aload_n 3, 1) := by decide +kernel
theorem dX11_told_10 : decode cX11_told 10 = .ok (.ifnonnull 6, 3) := by decide +kernel
theorem dX11_told_13 : decode cX11_told 13 = .ok (.bipush (-2), 2) := by decide +kernel
theorem dX11_told_15 : decode cX11_told 15 = .ok (.ireturn, 1) := by decide +kernel
theorem dX11_told_16 : decode cX11_told 16 = .ok (.iload_n 2, 1) := by decide +kernel
theorem dX11_told_17 : decode cX11_told 17 = .ok (.tableswitch 54 0 3 #[31, 36, 41, 46], 31) := by decide +kernel
theorem dX11_told_48 : decode cX11_told 48 = .ok (.aload_n 3, 1) := by decide +kernel
theorem dX11_told_49 : decode cX11_told 49 = .ok (.getfield 123, 3) := by decide +kernel
theorem dX11_told_52 : decode cX11_told 52 = .ok (.ireturn, 1) := by decide +kernel
theorem dX11_told_53 : decode cX11_told 53 = .ok (.aload_n 3, 1) := by decide +kernel
theorem dX11_told_54 : decode cX11_told 54 = .ok (.getfield 128, 3) := by decide +kernel
theorem dX11_told_57 : decode cX11_told 57 = .ok (.ireturn, 1) := by decide +kernel
theorem dX11_told_58 : decode cX11_told 58 = .ok (.aload_n 3, 1) := by decide +kernel
theorem dX11_told_59 : decode cX11_told 59 = .ok (.getfield 131, 3) := by decide +kernel
theorem dX11_told_62 : decode cX11_told 62 = .ok (.ireturn, 1) := by decide +kernel
theorem dX11_told_63 : decode cX11_told 63 = .ok (.aload_n 3, 1) := by decide +kernel
theorem dX11_told_64 : decode cX11_told 64 = .ok (.getfield 134, 3) := by decide +kernel
theorem dX11_told_67 : decode cX11_told 67 = .ok (.getfield 77, 3) := by decide +kernel
theorem dX11_told_70 : decode cX11_told 70 = .ok (.ireturn, 1) := by decide +kernel
theorem dX11_told_71 : decode cX11_told 71 = .ok (.bipush (-2), 2) := by decide +kernel
theorem dX11_told_73 : decode cX11_told 73 = .ok (.ireturn, 1) := by decide +kernel
theorem dX11_taken_0 : decode cX11_taken 0 = .ok (.aload_n 0, 1) := by decide +kernel
theorem dX11_taken_1 : decode cX11_taken 1 = .ok (.getfield 21, 3) := by decide +kernel
theorem dX11_taken_4 : decode cX11_taken 4 = .ok (.iload_n 1, 1) := by decide +kernel
theorem dX11_taken_5 : decode cX11_taken 5 = .ok (.invokevirtual 119, 3) := by decide +kernel
theorem dX11_taken_8 : decode cX11_taken 8 = .ok (.astore_n 3, 1) := by decide +kernel
theorem dX11_taken_9 : decode cX11_taken 9 = .ok (.aload_n 3, 1) := by decide +kernel
theorem dX11_taken_10 : decode cX11_taken 10 = .ok (.ifnull 12, 3) := by decide +kernel
theorem dX11_taken_13 : decode cX11_taken 13 = .ok (.iload_n 2, 1) := by decide +kernel
theorem dX11_taken_14 : decode cX11_taken 14 = .ok (.bipush 6, 2) := by decide +kernel
theorem dX11_taken_16 : decode cX11_taken 16 = .ok (.invokestatic 84, 3) := by decide +kernel
theorem dX11_taken_19 : decode cX11_taken 19 = .ok (.ifCond .ne 6, 3) := by decide +kernel
theorem dX11_taken_22 : decode cX11_taken 22 = .ok (.bipush (-2), 2) := by decide +kernel
theorem dX11_taken_24 : decode cX11_taken 24 = .ok (.ireturn, 1) := by decide +kernel
theorem dX11_taken_25 : decode cX11_taken 25 = .ok (.aload_n 3, 1) := by decide +kernel
theorem dX11_taken_26 : decode cX11_taken 26 = .ok (.iload_n 2, 1) := by decide +kernel
theorem dX11_taken_27 : decode cX11_taken 27 = .ok (.invokevirtual 137, 3) := by decide +kernel
theorem dX11_taken_30 : decode cX11_taken 30 = .ok (.ifCond .ne 6, 3) := by decide +kernel
theorem dX11_taken_33 : decode cX11_taken 33 = .ok (.bipush (-13), 2) := by decide +kernel
theorem dX11_taken_35 : decode cX11_taken 35 = .ok (.ireturn, 1) := by decide +kernel
theorem dX11_taken_36 : decode cX11_taken 36 = .ok (.aload_n 0, 1) := by decide +kernel
theorem dX11_taken_37 : decode cX11_taken 37 = .ok (.getfield 21, 3) := by decide +kernel
theorem dX11_taken_40 : decode cX11_taken 40 = .ok (.aload_n 3, 1) := by decide +kernel
theorem dX11_taken_41 : decode cX11_taken 41 = .ok (.iconst 5, 1) := by decide +kernel
theorem dX11_taken_42 : decode cX11_taken 42 = .ok (.aload_n 3, 1) := by decide +kernel
theorem dX11_taken_43 : decode cX11_taken 43 = .ok (.getfield 131, 3) := by decide +kernel
theorem dX11_taken_46 : decode cX11_taken 46 = .ok (.bipush 8, 2) := by decide +kernel
theorem dX11_taken_48 : decode cX11_taken 48 = .ok (.imul, 1) := by decide +kernel
theorem dX11_taken_49 : decode cX11_taken 49 = .ok (.iadd, 1) := by decide +kernel
theorem dX11_taken_50 : decode cX11_taken 50 = .ok (.bipush 24, 2) := by decide +kernel
theorem dX11_taken_52 : decode cX11_taken 52 = .ok (.iadd, 1) := by decide +kernel
theorem dX11_taken_53 : decode cX11_taken 53 = .ok (.aload_n 0, 1) := by decide +kernel
theorem dX11_taken_54 : decode cX11_taken 54 = .ok (.getfield 35, 3) := by decide +kernel
theorem dX11_taken_57 : decode cX11_taken 57 = .ok (.invokevirtual 141, 3) := by decide +kernel
theorem dX11_taken_60 : decode cX11_taken 60 = .ok (.aload_n 0, 1) := by decide +kernel
theorem dX11_taken_61 : decode cX11_taken 61 = .ok (.getfield 35, 3) := by decide +kernel
theorem dX11_taken_64 : decode cX11_taken 64 = .ok (.getfield 77, 3) := by decide +kernel
theorem dX11_taken_67 : decode cX11_taken 67 = .ok (.ireturn, 1) := by decide +kernel
theorem dX11_form_0 : decode cX11_form 0 = .ok (.aload_n 0, 1) := by decide +kernel
theorem dX11_form_1 : decode cX11_form 1 = .ok (.getfield 21, 3) := by decide +kernel
theorem dX11_form_4 : decode cX11_form 4 = .ok (.iload_n 1, 1) := by decide +kernel
theorem dX11_form_5 : decode cX11_form 5 = .ok (.invokevirtual 119, 3) := by decide +kernel
theorem dX11_form_8 : decode cX11_form 8 = .ok (.astore 4, 2) := by decide +kernel
theorem dX11_form_10 : decode cX11_form 10 = .ok (.aload 4, 2) := by decide +kernel
theorem dX11_form_12 : decode cX11_form 12 = .ok (.ifnull 12, 3) := by decide +kernel
theorem dX11_form_15 : decode cX11_form 15 = .ok (.iload_n 2, 1) := by decide +kernel
theorem dX11_form_16 : decode cX11_form 16 = .ok (.bipush 96, 2) := by decide +kernel
theorem dX11_form_18 : decode cX11_form 18 = .ok (.invokestatic 84, 3) := by decide +kernel
theorem dX11_form_21 : decode cX11_form 21 = .ok (.ifCond .ne 6, 3) := by decide +kernel
theorem dX11_form_24 : decode cX11_form 24 = .ok (.bipush (-2), 2) := by decide +kernel
theorem dX11_form_26 : decode cX11_form 26 = .ok (.ireturn, 1) := by decide +kernel
theorem dX11_form_27 : decode cX11_form 27 = .ok (.aload_n 0, 1) := by decide +kernel
theorem dX11_form_28 : decode cX11_form 28 = .ok (.getfield 21, 3) := by decide +kernel
theorem dX11_form_31 : decode cX11_form 31 = .ok (.aload 4, 2) := by decide +kernel
theorem dX11_form_33 : decode cX11_form 33 = .ok (.iload_n 2, 1) := by decide +kernel
theorem dX11_form_34 : decode cX11_form 34 = .ok (.aload_n 0, 1) := by decide +kernel
theorem dX11_form_35 : decode cX11_form 35 = .ok (.getfield 35, 3) := by decide +kernel
theorem dX11_form_38 : decode cX11_form 38 = .ok (.invokevirtual 141, 3) := by decide +kernel
theorem dX11_form_41 : decode cX11_form 41 = .ok (.aload_n 0, 1) := by decide +kernel
theorem dX11_form_42 : decode cX11_form 42 = .ok (.getfield 35, 3) := by decide +kernel
theorem dX11_form_45 : decode cX11_form 45 = .ok (.iload_n 3, 1) := by decide +kernel
theorem dX11_form_46 : decode cX11_form 46 = .ok (.invokestatic 145, 3) := by decide +kernel
theorem dX11_form_49 : decode cX11_form 49 = .ok (.ireturn, 1) := by decide +kernel
theorem dX11_hole_0 : decode cX11_hole 0 = .ok (.aload_n 0, 1) := by decide +kernel
theorem dX11_hole_1 : decode cX11_hole 1 = .ok (.getfield 21, 3) := by decide +kernel
theorem dX11_hole_4 : decode cX11_hole 4 = .ok (.iload_n 1, 1) := by decide +kernel
theorem dX11_hole_5 : decode cX11_hole 5 = .ok (.invokevirtual 149, 3) := by decide +kernel
theorem dX11_hole_8 : decode cX11_hole 8 = .ok (.astore 4, 2) := by decide +kernel
theorem dX11_hole_10 : decode cX11_hole 10 = .ok (.aload 4, 2) := by decide +kernel
theorem dX11_hole_12 : decode cX11_hole 12 = .ok (.ifnull 12, 3) := by decide +kernel
theorem dX11_hole_15 : decode cX11_hole 15 = .ok (.iload_n 3, 1) := by decide +kernel
theorem dX11_hole_16 : decode cX11_hole 16 = .ok (.ifCond .lt 8, 3) := by decide +kernel
theorem dX11_hole_19 : decode cX11_hole 19 = .ok (.iload_n 3, 1) := by decide +kernel
theorem dX11_hole_20 : decode cX11_hole 20 = .ok (.iconst 4, 1) := by decide +kernel
theorem dX11_hole_21 : decode cX11_hole 21 = .ok (.if_icmp .le 6, 3) := by decide +kernel
theorem dX11_hole_24 : decode cX11_hole 24 = .ok (.bipush (-2), 2) := by decide +kernel
theorem dX11_hole_26 : decode cX11_hole 26 = .ok (.ireturn, 1) := by decide +kernel
theorem dX11_hole_27 : decode cX11_hole 27 = .ok (.aload 4, 2) := by decide +kernel
theorem dX11_hole_29 : decode cX11_hole 29 = .ok (.iload_n 2, 1) := by decide +kernel
theorem dX11_hole_30 : decode cX11_hole 30 = .ok (.invokevirtual 153, 3) := by decide +kernel
theorem dX11_hole_33 : decode cX11_hole 33 = .ok (.ifCond .ne 6, 3) := by decide +kernel
theorem dX11_hole_36 : decode cX11_hole 36 = .ok (.bipush (-12), 2) := by decide +kernel
theorem dX11_hole_38 : decode cX11_hole 38 = .ok (.ireturn, 1) := by decide +kernel
theorem dX11_hole_39 : decode cX11_hole 39 = .ok (.iload_n 3, 1) := by decide +kernel
theorem dX11_hole_40 : decode cX11_hole 40 = .ok (.tableswitch 60 0 3 #[32, 39, 46, 53], 32) := by decide +kernel
theorem dX11_hole_72 : decode cX11_hole 72 = .ok (.aload 4, 2) := by decide +kernel
theorem dX11_hole_74 : decode cX11_hole 74 = .ok (.iload_n 2, 1) := by decide +kernel
theorem dX11_hole_75 : decode cX11_hole 75 = .ok (.invokevirtual 158, 3) := by decide +kernel
theorem dX11_hole_78 : decode cX11_hole 78 = .ok (.ireturn, 1) := by decide +kernel
theorem dX11_hole_79 : decode cX11_hole 79 = .ok (.aload 4, 2) := by decide +kernel
theorem dX11_hole_81 : decode cX11_hole 81 = .ok (.iload_n 2, 1) := by decide +kernel
theorem dX11_hole_82 : decode cX11_hole 82 = .ok (.invokevirtual 162, 3) := by decide +kernel
theorem dX11_hole_85 : decode cX11_hole 85 = .ok (.ireturn, 1) := by decide +kernel
theorem dX11_hole_86 : decode cX11_hole 86 = .ok (.aload 4, 2) := by decide +kernel
theorem dX11_hole_88 : decode cX11_hole 88 = .ok (.iload_n 2, 1) := by decide +kernel
theorem dX11_hole_89 : decode cX11_hole 89 = .ok (.invokevirtual 165, 3) := by decide +kernel
theorem dX11_hole_92 : decode cX11_hole 92 = .ok (.ireturn, 1) := by decide +kernel
theorem dX11_hole_93 : decode cX11_hole 93 = .ok (.aload 4, 2) := by decide +kernel
theorem dX11_hole_95 : decode cX11_hole 95 = .ok (.iload_n 2, 1) := by decide +kernel
theorem dX11_hole_96 : decode cX11_hole 96 = .ok (.invokevirtual 168, 3) := by decide +kernel
theorem dX11_hole_99 : decode cX11_hole 99 = .ok (.ireturn, 1) := by decide +kernel
theorem dX11_hole_100 : decode cX11_hole 100 = .ok (.aload_n 0, 1) := by decide +kernel
theorem dX11_hole_101 : decode cX11_hole 101 = .ok (.getfield 21, 3) := by decide +kernel
theorem dX11_hole_104 : decode cX11_hole 104 = .ok (.aload 4, 2) := by decide +kernel
theorem dX11_hole_106 : decode cX11_hole 106 = .ok (.iload_n 2, 1) := by decide +kernel
theorem dX11_hole_107 : decode cX11_hole 107 = .ok (.invokevirtual 171, 3) := by decide +kernel
theorem dX11_hole_110 : decode cX11_hole 110 = .ok (.ireturn, 1) := by decide +kernel
theorem dX11_desk_0 : decode cX11_desk 0 = .ok (.aload_n 0, 1) := by decide +kernel
theorem dX11_desk_1 : decode cX11_desk 1 = .ok (.getfield 21, 3) := by decide +kernel
theorem dX11_desk_4 : decode cX11_desk 4 = .ok (.iload_n 1, 1) := by decide +kernel
theorem dX11_desk_5 : decode cX11_desk 5 = .ok (.invokevirtual 149, 3) := by decide +kernel
theorem dX11_desk_8 : decode cX11_desk 8 = .ok (.astore_n 3, 1) := by decide +kernel
theorem dX11_desk_9 : decode cX11_desk 9 = .ok (.aload_n 3, 1) := by decide +kernel
theorem dX11_desk_10 : decode cX11_desk 10 = .ok (.ifnull 11, 3) := by decide +kernel
theorem dX11_desk_13 : decode cX11_desk 13 = .ok (.iload_n 2, 1) := by decide +kernel
theorem dX11_desk_14 : decode cX11_desk 14 = .ok (.iconst 4, 1) := by decide +kernel
theorem dX11_desk_15 : decode cX11_desk 15 = .ok (.invokestatic 84, 3) := by decide +kernel
theorem dX11_desk_18 : decode cX11_desk 18 = .ok (.ifCond .ne 6, 3) := by decide +kernel
theorem dX11_desk_21 : decode cX11_desk 21 = .ok (.bipush (-2), 2) := by decide +kernel
theorem dX11_desk_23 : decode cX11_desk 23 = .ok (.ireturn, 1) := by decide +kernel
theorem dX11_desk_24 : decode cX11_desk 24 = .ok (.aload_n 0, 1) := by decide +kernel
theorem dX11_desk_25 : decode cX11_desk 25 = .ok (.getfield 21, 3) := by decide +kernel
theorem dX11_desk_28 : decode cX11_desk 28 = .ok (.getfield 175, 3) := by decide +kernel
theorem dX11_desk_31 : decode cX11_desk 31 = .ok (.iload_n 1, 1) := by decide +kernel
theorem dX11_desk_32 : decode cX11_desk 32 = .ok (.iload_n 2, 1) := by decide +kernel
theorem dX11_desk_33 : decode cX11_desk 33 = .ok (.invokevirtual 179, 3) := by decide +kernel
theorem dX11_desk_36 : decode cX11_desk 36 = .ok (.iconst 0, 1) := by decide +kernel
theorem dX11_desk_37 : decode cX11_desk 37 = .ok (.istore 4, 2) := by decide +kernel
theorem dX11_desk_39 : decode cX11_desk 39 = .ok (.iload 4, 2) := by decide +kernel
theorem dX11_desk_41 : decode cX11_desk 41 = .ok (.aload_n 3, 1) := by decide +kernel
theorem dX11_desk_42 : decode cX11_desk 42 = .ok (.getfield 185, 3) := by decide +kernel
theorem dX11_desk_45 : decode cX11_desk 45 = .ok (.if_icmp .ge 32, 3) := by decide +kernel
theorem dX11_desk_48 : decode cX11_desk 48 = .ok (.aload_n 0, 1) := by decide +kernel
theorem dX11_desk_49 : decode cX11_desk 49 = .ok (.getfield 21, 3) := by decide +kernel
theorem dX11_desk_52 : decode cX11_desk 52 = .ok (.getfield 175, 3) := by decide +kernel
theorem dX11_desk_55 : decode cX11_desk 55 = .ok (.iload 4, 2) := by decide +kernel
theorem dX11_desk_57 : decode cX11_desk 57 = .ok (.aload_n 0, 1) := by decide +kernel
theorem dX11_desk_58 : decode cX11_desk 58 = .ok (.getfield 21, 3) := by decide +kernel
theorem dX11_desk_61 : decode cX11_desk 61 = .ok (.aload_n 3, 1) := by decide +kernel
theorem dX11_desk_62 : decode cX11_desk 62 = .ok (.iload 4, 2) := by decide +kernel
theorem dX11_desk_64 : decode cX11_desk 64 = .ok (.iconst 0, 1) := by decide +kernel
theorem dX11_desk_65 : decode cX11_desk 65 = .ok (.invokevirtual 186, 3) := by decide +kernel
theorem dX11_desk_68 : decode cX11_desk 68 = .ok (.invokevirtual 190, 3) := by decide +kernel
theorem dX11_desk_71 : decode cX11_desk 71 = .ok (.iinc 4 1, 3) := by decide +kernel
theorem dX11_desk_74 : decode cX11_desk 74 = .ok (.goto (-35), 3) := by decide +kernel
theorem dX11_desk_77 : decode cX11_desk 77 = .ok (.aload_n 3, 1) := by decide +kernel
theorem dX11_desk_78 : decode cX11_desk 78 = .ok (.getfield 185, 3) := by decide +kernel
theorem dX11_desk_81 : decode cX11_desk 81 = .ok (.ireturn, 1) := by decide +kernel
theorem dX11_choose_0 : decode cX11_choose 0 = .ok (.aload_n 0, 1) := by decide +kernel
theorem dX11_choose_1 : decode cX11_choose 1 = .ok (.getfield 21, 3) := by decide +kernel
theorem dX11_choose_4 : decode cX11_choose 4 = .ok (.iload_n 2, 1) := by decide +kernel
theorem dX11_choose_5 : decode cX11_choose 5 = .ok (.invokevirtual 119, 3) := by decide +kernel
theorem dX11_choose_8 : decode cX11_choose 8 = .ok (.astore_n 3, 1) := by decide +kernel
theorem dX11_choose_9 : decode cX11_choose 9 = .ok (.aload_n 3, 1) := by decide +kernel
theorem dX11_choose_10 : decode cX11_choose 10 = .ok (.ifnonnull 6, 3) := by decide +kernel
theorem dX11_choose_13 : decode cX11_choose 13 = .ok (.bipush (-2), 2) := by decide +kernel
theorem dX11_choose_15 : decode cX11_choose 15 = .ok (.ireturn, 1) := by decide +kernel
theorem dX11_choose_16 : decode cX11_choose 16 = .ok (.aload_n 0, 1) := by decide +kernel
theorem dX11_choose_17 : decode cX11_choose 17 = .ok (.getfield 21, 3) := by decide +kernel
theorem dX11_choose_20 : decode cX11_choose 20 = .ok (.aload_n 0, 1) := by decide +kernel
theorem dX11_choose_21 : decode cX11_choose 21 = .ok (.getfield 21, 3) := by decide +kernel
theorem dX11_choose_24 : decode cX11_choose 24 = .ok (.getfield 175, 3) := by decide +kernel
theorem dX11_choose_27 : decode cX11_choose 27 = .ok (.getfield 193, 3) := by decide +kernel
theorem dX11_choose_30 : decode cX11_choose 30 = .ok (.invokevirtual 149, 3) := by decide +kernel
theorem dX11_choose_33 : decode cX11_choose 33 = .ok (.astore 4, 2) := by decide +kernel
theorem dX11_choose_35 : decode cX11_choose 35 = .ok (.aload 4, 2) := by decide +kernel
theorem dX11_choose_37 : decode cX11_choose 37 = .ok (.ifnonnull 6, 3) := by decide +kernel
theorem dX11_choose_40 : decode cX11_choose 40 = .ok (.bipush (-3), 2) := by decide +kernel
theorem dX11_choose_42 : decode cX11_choose 42 = .ok (.ireturn, 1) := by decide +kernel
theorem dX11_choose_43 : decode cX11_choose 43 = .ok (.aload 4, 2) := by decide +kernel
theorem dX11_choose_45 : decode cX11_choose 45 = .ok (.iload_n 1, 1) := by decide +kernel
theorem dX11_choose_46 : decode cX11_choose 46 = .ok (.invokevirtual 153, 3) := by decide +kernel
theorem dX11_choose_49 : decode cX11_choose 49 = .ok (.ifCond .ne 6, 3) := by decide +kernel
theorem dX11_choose_52 : decode cX11_choose 52 = .ok (.bipush (-12), 2) := by decide +kernel
theorem dX11_choose_54 : decode cX11_choose 54 = .ok (.ireturn, 1) := by decide +kernel
theorem dX11_choose_55 : decode cX11_choose 55 = .ok (.aload 4, 2) := by decide +kernel
theorem dX11_choose_57 : decode cX11_choose 57 = .ok (.iload_n 1, 1) := by decide +kernel
theorem dX11_choose_58 : decode cX11_choose 58 = .ok (.aload_n 3, 1) := by decide +kernel
theorem dX11_choose_59 : decode cX11_choose 59 = .ok (.invokevirtual 195, 3) := by decide +kernel
theorem dX11_choose_62 : decode cX11_choose 62 = .ok (.ifCond .ne 6, 3) := by decide +kernel
theorem dX11_choose_65 : decode cX11_choose 65 = .ok (.bipush (-13), 2) := by decide +kernel
theorem dX11_choose_67 : decode cX11_choose 67 = .ok (.ireturn, 1) := by decide +kernel
theorem dX11_choose_68 : decode cX11_choose 68 = .ok (.aload_n 0, 1) := by decide +kernel
theorem dX11_choose_69 : decode cX11_choose 69 = .ok (.getfield 21, 3) := by decide +kernel
theorem dX11_choose_72 : decode cX11_choose 72 = .ok (.getfield 175, 3) := by decide +kernel
theorem dX11_choose_75 : decode cX11_choose 75 = .ok (.iload_n 1, 1) := by decide +kernel
theorem dX11_choose_76 : decode cX11_choose 76 = .ok (.invokevirtual 199, 3) := by decide +kernel
theorem dX11_choose_79 : decode cX11_choose 79 = .ok (.istore 5, 2) := by decide +kernel
theorem dX11_choose_81 : decode cX11_choose 81 = .ok (.aload_n 0, 1) := by decide +kernel
theorem dX11_choose_82 : decode cX11_choose 82 = .ok (.getfield 21, 3) := by decide +kernel
theorem dX11_choose_85 : decode cX11_choose 85 = .ok (.getfield 175, 3) := by decide +kernel
theorem dX11_choose_88 : decode cX11_choose 88 = .ok (.iload_n 1, 1) := by decide +kernel
theorem dX11_choose_89 : decode cX11_choose 89 = .ok (.iload_n 2, 1) := by decide +kernel
theorem dX11_choose_90 : decode cX11_choose 90 = .ok (.invokevirtual 190, 3) := by decide +kernel
theorem dX11_choose_93 : decode cX11_choose 93 = .ok (.iload 5, 2) := by decide +kernel
theorem dX11_choose_95 : decode cX11_choose 95 = .ok (.ireturn, 1) := by decide +kernel
theorem dX11_number_0 : decode cX11_number 0 = .ok (.iload_n 1, 1) := by decide +kernel
theorem dX11_number_1 : decode cX11_number 1 = .ok (.iconst 3, 1) := by decide +kernel
theorem dX11_number_2 : decode cX11_number 2 = .ok (.invokestatic 84, 3) := by decide +kernel
theorem dX11_number_5 : decode cX11_number 5 = .ok (.ifCond .eq 11, 3) := by decide +kernel
theorem dX11_number_8 : decode cX11_number 8 = .ok (.iload_n 2, 1) := by decide +kernel
theorem dX11_number_9 : decode cX11_number 9 = .ok (.iconst 2, 1) := by decide +kernel
theorem dX11_number_10 : decode cX11_number 10 = .ok (.invokestatic 84, 3) := by decide +kernel
theorem dX11_number_13 : decode cX11_number 13 = .ok (.ifCond .ne 6, 3) := by decide +kernel
theorem dX11_number_16 : decode cX11_number 16 = .ok (.bipush (-2), 2) := by decide +kernel
theorem dX11_number_18 : decode cX11_number 18 = .ok (.ireturn, 1) := by decide +kernel
theorem dX11_number_19 : decode cX11_number 19 = .ok (.aload_n 0, 1) := by decide +kernel
theorem dX11_number_20 : decode cX11_number 20 = .ok (.getfield 21, 3) := by decide +kernel
theorem dX11_number_23 : decode cX11_number 23 = .ok (.getfield 175, 3) := by decide +kernel
theorem dX11_number_26 : decode cX11_number 26 = .ok (.getfield 193, 3) := by decide +kernel
theorem dX11_number_29 : decode cX11_number 29 = .ok (.iconst (-1), 1) := by decide +kernel
theorem dX11_number_30 : decode cX11_number 30 = .ok (.if_icmp .ne 6, 3) := by decide +kernel
theorem dX11_number_33 : decode cX11_number 33 = .ok (.bipush (-3), 2) := by decide +kernel
theorem dX11_number_35 : decode cX11_number 35 = .ok (.ireturn, 1) := by decide +kernel
theorem dX11_number_36 : decode cX11_number 36 = .ok (.aload_n 0, 1) := by decide +kernel
theorem dX11_number_37 : decode cX11_number 37 = .ok (.getfield 21, 3) := by decide +kernel
theorem dX11_number_40 : decode cX11_number 40 = .ok (.getfield 175, 3) := by decide +kernel
theorem dX11_number_43 : decode cX11_number 43 = .ok (.getfield 202, 3) := by decide +kernel
theorem dX11_number_46 : decode cX11_number 46 = .ok (.iload_n 1, 1) := by decide +kernel
theorem dX11_number_47 : decode cX11_number 47 = .ok (.ishr, 1) := by decide +kernel
theorem dX11_number_48 : decode cX11_number 48 = .ok (.iconst 1, 1) := by decide +kernel
theorem dX11_number_49 : decode cX11_number 49 = .ok (.iand, 1) := by decide +kernel
theorem dX11_number_50 : decode cX11_number 50 = .ok (.istore_n 3, 1) := by decide +kernel
theorem dX11_number_51 : decode cX11_number 51 = .ok (.aload_n 0, 1) := by decide +kernel
theorem dX11_number_52 : decode cX11_number 52 = .ok (.getfield 21, 3) := by decide +kernel
theorem dX11_number_55 : decode cX11_number 55 = .ok (.getfield 175, 3) := by decide +kernel
theorem dX11_number_58 : decode cX11_number 58 = .ok (.aload_n 0, 1) := by decide +kernel
theorem dX11_number_59 : decode cX11_number 59 = .ok (.getfield 21, 3) := by decide +kernel
theorem dX11_number_62 : decode cX11_number 62 = .ok (.getfield 175, 3) := by decide +kernel
theorem dX11_number_65 : decode cX11_number 65 = .ok (.getfield 202, 3) := by decide +kernel
theorem dX11_number_68 : decode cX11_number 68 = .ok (.iconst 1, 1) := by decide +kernel
theorem dX11_number_69 : decode cX11_number 69 = .ok (.iload_n 1, 1) := by decide +kernel
theorem dX11_number_70 : decode cX11_number 70 = .ok (.ishl, 1) := by decide +kernel
theorem dX11_number_71 : decode cX11_number 71 = .ok (.iconst (-1), 1) := by decide +kernel
theorem dX11_number_72 : decode cX11_number 72 = .ok (.ixor, 1) := by decide +kernel
theorem dX11_number_73 : decode cX11_number 73 = .ok (.iand, 1) := by decide +kernel
theorem dX11_number_74 : decode cX11_number 74 = .ok (.iload_n 2, 1) := by decide +kernel
theorem dX11_number_75 : decode cX11_number 75 = .ok (.iload_n 1, 1) := by decide +kernel
theorem dX11_number_76 : decode cX11_number 76 = .ok (.ishl, 1) := by decide +kernel
theorem dX11_number_77 : decode cX11_number 77 = .ok (.ior, 1) := by decide +kernel
theorem dX11_number_78 : decode cX11_number 78 = .ok (.putfield 202, 3) := by decide +kernel
theorem dX11_number_81 : decode cX11_number 81 = .ok (.iload_n 3, 1) := by decide +kernel
theorem dX11_number_82 : decode cX11_number 82 = .ok (.ireturn, 1) := by decide +kernel
theorem dX11_said_0 : decode cX11_said 0 = .ok (.aload_n 0, 1) := by decide +kernel
theorem dX11_said_1 : decode cX11_said 1 = .ok (.invokevirtual 205, 3) := by decide +kernel
theorem dX11_said_4 : decode cX11_said 4 = .ok (.pop, 1) := by decide +kernel
theorem dX11_said_5 : decode cX11_said 5 = .ok (.aload_n 0, 1) := by decide +kernel
theorem dX11_said_6 : decode cX11_said 6 = .ok (.getfield 41, 3) := by decide +kernel
theorem dX11_said_9 : decode cX11_said 9 = .ok (.getfield 208, 3) := by decide +kernel
theorem dX11_said_12 : decode cX11_said 12 = .ok (.iload_n 1, 1) := by decide +kernel
theorem dX11_said_13 : decode cX11_said 13 = .ok (.invokestatic 145, 3) := by decide +kernel
theorem dX11_said_16 : decode cX11_said 16 = .ok (.ireturn, 1) := by decide +kernel
theorem dX11_spoken_0 : decode cX11_spoken 0 = .ok (.iload_n 1, 1) := by decide +kernel
theorem dX11_spoken_1 : decode cX11_spoken 1 = .ok (.iconst 1, 1) := by decide +kernel
theorem dX11_spoken_2 : decode cX11_spoken 2 = .ok (.if_icmp .lt 9, 3) := by decide +kernel
theorem dX11_spoken_5 : decode cX11_spoken 5 = .ok (.iload_n 1, 1) := by decide +kernel
theorem dX11_spoken_6 : decode cX11_spoken 6 = .ok (.bipush 99, 2) := by decide +kernel
theorem dX11_spoken_8 : decode cX11_spoken 8 = .ok (.if_icmp .le 6, 3) := by decide +kernel
theorem dX11_spoken_11 : decode cX11_spoken 11 = .ok (.bipush (-2), 2) := by decide +kernel
theorem dX11_spoken_13 : decode cX11_spoken 13 = .ok (.ireturn, 1) := by decide +kernel
theorem dX11_spoken_14 : decode cX11_spoken 14 = .ok (.aload_n 0, 1) := by decide +kernel
theorem dX11_spoken_15 : decode cX11_spoken 15 = .ok (.invokevirtual 205, 3) := by decide +kernel
theorem dX11_spoken_18 : decode cX11_spoken 18 = .ok (.pop, 1) := by decide +kernel
theorem dX11_spoken_19 : decode cX11_spoken 19 = .ok (.aload_n 0, 1) := by decide +kernel
theorem dX11_spoken_20 : decode cX11_spoken 20 = .ok (.getfield 41, 3) := by decide +kernel
theorem dX11_spoken_23 : decode cX11_spoken 23 = .ok (.iload_n 1, 1) := by decide +kernel
theorem dX11_spoken_24 : decode cX11_spoken 24 = .ok (.invokevirtual 211, 3) := by decide +kernel
theorem dX11_spoken_27 : decode cX11_spoken 27 = .ok (.invokestatic 215, 3) := by decide +kernel
theorem dX11_spoken_30 : decode cX11_spoken 30 = .ok (.ireturn, 1) := by decide +kernel
theorem dX11_text_0 : decode cX11_text 0 = .ok (.bipush (-3), 2) := by decide +kernel
theorem dX11_text_2 : decode cX11_text 2 = .ok (.istore_n 1, 1) := by decide +kernel
theorem dX11_text_3 : decode cX11_text 3 = .ok (.aload_n 0, 1) := by decide +kernel
theorem dX11_text_4 : decode cX11_text 4 = .ok (.getfield 14, 3) := by decide +kernel
theorem dX11_text_7 : decode cX11_text 7 = .ok (.invokevirtual 219, 3) := by decide +kernel
theorem dX11_text_10 : decode cX11_text 10 = .ok (.ifCond .eq 28, 3) := by decide +kernel
theorem dX11_text_13 : decode cX11_text 13 = .ok (.aload_n 0, 1) := by decide +kernel
theorem dX11_text_14 : decode cX11_text 14 = .ok (.getfield 21, 3) := by decide +kernel
theorem dX11_text_17 : decode cX11_text 17 = .ok (.getfield 222, 3) := by decide +kernel
theorem dX11_text_20 : decode cX11_text 20 = .ok (.aload_n 0, 1) := by decide +kernel
theorem dX11_text_21 : decode cX11_text 21 = .ok (.getfield 14, 3) := by decide +kernel
theorem dX11_text_24 : decode cX11_text 24 = .ok (.invokevirtual 103, 3) := by decide +kernel
theorem dX11_text_27 : decode cX11_text 27 = .ok (.aload_n 0, 1) := by decide +kernel
theorem dX11_text_28 : decode cX11_text 28 = .ok (.getfield 21, 3) := by decide +kernel
theorem dX11_text_31 : decode cX11_text 31 = .ok (.getfield 222, 3) := by decide +kernel
theorem dX11_text_34 : decode cX11_text 34 = .ok (.invokevirtual 225, 3) := by decide +kernel
theorem dX11_text_37 : decode cX11_text 37 = .ok (.istore_n 1, 1) := by decide +kernel
theorem dX11_text_38 : decode cX11_text 38 = .ok (.aload_n 0, 1) := by decide +kernel
theorem dX11_text_39 : decode cX11_text 39 = .ok (.getfield 14, 3) := by decide +kernel
theorem dX11_text_42 : decode cX11_text 42 = .ok (.invokevirtual 96, 3) := by decide +kernel
theorem dX11_text_45 : decode cX11_text 45 = .ok (.iload_n 1, 1) := by decide +kernel
theorem dX11_text_46 : decode cX11_text 46 = .ok (.ireturn, 1) := by decide +kernel
theorem dX11_readings_0 : decode cX11_readings 0 = .ok (.iload_n 1, 1) := by decide +kernel
theorem dX11_readings_1 : decode cX11_readings 1 = .ok (.ifCond .lt 8, 3) := by decide +kernel
theorem dX11_readings_4 : decode cX11_readings 4 = .ok (.iload_n 1, 1) := by decide +kernel
theorem dX11_readings_5 : decode cX11_readings 5 = .ok (.iconst 2, 1) := by decide +kernel
theorem dX11_readings_6 : decode cX11_readings 6 = .ok (.if_icmp .le 6, 3) := by decide +kernel
theorem dX11_readings_9 : decode cX11_readings 9 = .ok (.bipush (-2), 2) := by decide +kernel
theorem dX11_readings_11 : decode cX11_readings 11 = .ok (.ireturn, 1) := by decide +kernel
theorem dX11_readings_12 : decode cX11_readings 12 = .ok (.aload_n 0, 1) := by decide +kernel
theorem dX11_readings_13 : decode cX11_readings 13 = .ok (.getfield 55, 3) := by decide +kernel
theorem dX11_readings_16 : decode cX11_readings 16 = .ok (.aload_n 0, 1) := by decide +kernel
theorem dX11_readings_17 : decode cX11_readings 17 = .ok (.getfield 21, 3) := by decide +kernel
theorem dX11_readings_20 : decode cX11_readings 20 = .ok (.aload_n 0, 1) := by decide +kernel
theorem dX11_readings_21 : decode cX11_readings 21 = .ok (.getfield 21, 3) := by decide +kernel
theorem dX11_readings_24 : decode cX11_readings 24 = .ok (.getfield 222, 3) := by decide +kernel
theorem dX11_readings_27 : decode cX11_readings 27 = .ok (.invokevirtual 229, 3) := by decide +kernel
theorem dX11_readings_30 : decode cX11_readings 30 = .ok (.iload_n 1, 1) := by decide +kernel
theorem dX11_readings_31 : decode cX11_readings 31 = .ok (.ifCond .ne 13, 3) := by decide +kernel
theorem dX11_readings_34 : decode cX11_readings 34 = .ok (.aload_n 0, 1) := by decide +kernel
theorem dX11_readings_35 : decode cX11_readings 35 = .ok (.getfield 55, 3) := by decide +kernel
theorem dX11_readings_38 : decode cX11_readings 38 = .ok (.getfield 233, 3) := by decide +kernel
theorem dX11_readings_41 : decode cX11_readings 41 = .ok (.goto 25, 3) := by decide +kernel
theorem dX11_readings_44 : decode cX11_readings 44 = .ok (.iload_n 1, 1) := by decide +kernel
theorem dX11_readings_45 : decode cX11_readings 45 = .ok (.iconst 1, 1) := by decide +kernel
theorem dX11_readings_46 : decode cX11_readings 46 = .ok (.if_icmp .ne 13, 3) := by decide +kernel
theorem dX11_readings_49 : decode cX11_readings 49 = .ok (.aload_n 0, 1) := by decide +kernel
theorem dX11_readings_50 : decode cX11_readings 50 = .ok (.getfield 55, 3) := by decide +kernel
theorem dX11_readings_53 : decode cX11_readings 53 = .ok (.getfield 236, 3) := by decide +kernel
theorem dX11_readings_56 : decode cX11_readings 56 = .ok (.goto 10, 3) := by decide +kernel
theorem dX11_readings_59 : decode cX11_readings 59 = .ok (.aload_n 0, 1) := by decide +kernel
theorem dX11_readings_60 : decode cX11_readings 60 = .ok (.getfield 55, 3) := by decide +kernel
theorem dX11_readings_63 : decode cX11_readings 63 = .ok (.getfield 239, 3) := by decide +kernel
theorem dX11_readings_66 : decode cX11_readings 66 = .ok (.ireturn, 1) := by decide +kernel
theorem dX11_near_0 : decode cX11_near 0 = .ok (.iload_n 1, 1) := by decide +kernel
theorem dX11_near_1 : decode cX11_near 1 = .ok (.ifCond .lt 8, 3) := by decide +kernel
theorem dX11_near_4 : decode cX11_near 4 = .ok (.iload_n 1, 1) := by decide +kernel
theorem dX11_near_5 : decode cX11_near 5 = .ok (.iconst 1, 1) := by decide +kernel
theorem dX11_near_6 : decode cX11_near 6 = .ok (.if_icmp .le 6, 3) := by decide +kernel
theorem dX11_near_9 : decode cX11_near 9 = .ok (.bipush (-2), 2) := by decide +kernel
theorem dX11_near_11 : decode cX11_near 11 = .ok (.ireturn, 1) := by decide +kernel
theorem dX11_near_12 : decode cX11_near 12 = .ok (.aload_n 0, 1) := by decide +kernel
theorem dX11_near_13 : decode cX11_near 13 = .ok (.getfield 55, 3) := by decide +kernel
theorem dX11_near_16 : decode cX11_near 16 = .ok (.aload_n 0, 1) := by decide +kernel
theorem dX11_near_17 : decode cX11_near 17 = .ok (.getfield 21, 3) := by decide +kernel
theorem dX11_near_20 : decode cX11_near 20 = .ok (.aload_n 0, 1) := by decide +kernel
theorem dX11_near_21 : decode cX11_near 21 = .ok (.getfield 21, 3) := by decide +kernel
theorem dX11_near_24 : decode cX11_near 24 = .ok (.getfield 222, 3) := by decide +kernel
theorem dX11_near_27 : decode cX11_near 27 = .ok (.invokevirtual 242, 3) := by decide +kernel
theorem dX11_near_30 : decode cX11_near 30 = .ok (.iload_n 1, 1) := by decide +kernel
theorem dX11_near_31 : decode cX11_near 31 = .ok (.ifCond .ne 13, 3) := by decide +kernel
theorem dX11_near_34 : decode cX11_near 34 = .ok (.aload_n 0, 1) := by decide +kernel
theorem dX11_near_35 : decode cX11_near 35 = .ok (.getfield 55, 3) := by decide +kernel
theorem dX11_near_38 : decode cX11_near 38 = .ok (.getfield 245, 3) := by decide +kernel
theorem dX11_near_41 : decode cX11_near 41 = .ok (.goto 10, 3) := by decide +kernel
theorem dX11_near_44 : decode cX11_near 44 = .ok (.aload_n 0, 1) := by decide +kernel
theorem dX11_near_45 : decode cX11_near 45 = .ok (.getfield 55, 3) := by decide +kernel
theorem dX11_near_48 : decode cX11_near 48 = .ok (.getfield 248, 3) := by decide +kernel
theorem dX11_near_51 : decode cX11_near 51 = .ok (.ireturn, 1) := by decide +kernel
theorem dX11_drawn_0 : decode cX11_drawn 0 = .ok (.iload_n 2, 1) := by decide +kernel
theorem dX11_drawn_1 : decode cX11_drawn 1 = .ok (.ifCond .lt 8, 3) := by decide +kernel
theorem dX11_drawn_4 : decode cX11_drawn 4 = .ok (.iload_n 2, 1) := by decide +kernel
theorem dX11_drawn_5 : decode cX11_drawn 5 = .ok (.iconst 1, 1) := by decide +kernel
theorem dX11_drawn_6 : decode cX11_drawn 6 = .ok (.if_icmp .le 6, 3) := by decide +kernel
theorem dX11_drawn_9 : decode cX11_drawn 9 = .ok (.bipush (-2), 2) := by decide +kernel
theorem dX11_drawn_11 : decode cX11_drawn 11 = .ok (.ireturn, 1) := by decide +kernel
theorem dX11_drawn_12 : decode cX11_drawn 12 = .ok (.aload_n 0, 1) := by decide +kernel
theorem dX11_drawn_13 : decode cX11_drawn 13 = .ok (.getfield 21, 3) := by decide +kernel
theorem dX11_drawn_16 : decode cX11_drawn 16 = .ok (.getfield 251, 3) := by decide +kernel
theorem dX11_drawn_19 : decode cX11_drawn 19 = .ok (.ifCond .ne 6, 3) := by decide +kernel
theorem dX11_drawn_22 : decode cX11_drawn 22 = .ok (.bipush (-3), 2) := by decide +kernel
theorem dX11_drawn_24 : decode cX11_drawn 24 = .ok (.ireturn, 1) := by decide +kernel
theorem dX11_drawn_25 : decode cX11_drawn 25 = .ok (.aload_n 0, 1) := by decide +kernel
theorem dX11_drawn_26 : decode cX11_drawn 26 = .ok (.iload_n 1, 1) := by decide +kernel
theorem dX11_drawn_27 : decode cX11_drawn 27 = .ok (.invokevirtual 254, 3) := by decide +kernel
theorem dX11_drawn_30 : decode cX11_drawn 30 = .ok (.ifCond .ne 5, 3) := by decide +kernel
theorem dX11_drawn_33 : decode cX11_drawn 33 = .ok (.iconst 0, 1) := by decide +kernel
theorem dX11_drawn_34 : decode cX11_drawn 34 = .ok (.ireturn, 1) := by decide +kernel
theorem dX11_drawn_35 : decode cX11_drawn 35 = .ok (.iload_n 2, 1) := by decide +kernel
theorem dX11_drawn_36 : decode cX11_drawn 36 = .ok (.iconst 1, 1) := by decide +kernel
theorem dX11_drawn_37 : decode cX11_drawn 37 = .ok (.if_icmp .ne 14, 3) := by decide +kernel
theorem dX11_drawn_40 : decode cX11_drawn 40 = .ok (.aload_n 0, 1) := by decide +kernel
theorem dX11_drawn_41 : decode cX11_drawn 41 = .ok (.getfield 41, 3) := by decide +kernel
theorem dX11_drawn_44 : decode cX11_drawn 44 = .ok (.getfield 208, 3) := by decide +kernel
theorem dX11_drawn_47 : decode cX11_drawn 47 = .ok (.getfield 77, 3) := by decide +kernel
theorem dX11_drawn_50 : decode cX11_drawn 50 = .ok (.ireturn, 1) := by decide +kernel
theorem dX11_drawn_51 : decode cX11_drawn 51 = .ok (.aload_n 0, 1) := by decide +kernel
theorem dX11_drawn_52 : decode cX11_drawn 52 = .ok (.getfield 55, 3) := by decide +kernel
theorem dX11_drawn_55 : decode cX11_drawn 55 = .ok (.aload_n 0, 1) := by decide +kernel
theorem dX11_drawn_56 : decode cX11_drawn 56 = .ok (.getfield 21, 3) := by decide +kernel
theorem dX11_drawn_59 : decode cX11_drawn 59 = .ok (.aload_n 0, 1) := by decide +kernel
theorem dX11_drawn_60 : decode cX11_drawn 60 = .ok (.getfield 41, 3) := by decide +kernel
theorem dX11_drawn_63 : decode cX11_drawn 63 = .ok (.getfield 208, 3) := by decide +kernel
theorem dX11_drawn_66 : decode cX11_drawn 66 = .ok (.invokevirtual 229, 3) := by decide +kernel
theorem dX11_drawn_69 : decode cX11_drawn 69 = .ok (.aload_n 0, 1) := by decide +kernel
theorem dX11_drawn_70 : decode cX11_drawn 70 = .ok (.getfield 55, 3) := by decide +kernel
theorem dX11_drawn_73 : decode cX11_drawn 73 = .ok (.getfield 233, 3) := by decide +kernel
theorem dX11_drawn_76 : decode cX11_drawn 76 = .ok (.ireturn, 1) := by decide +kernel
theorem dX11_chance_0 : decode cX11_chance 0 = .ok (.iload_n 2, 1) := by decide +kernel
theorem dX11_chance_1 : decode cX11_chance 1 = .ok (.iconst 1, 1) := by decide +kernel
theorem dX11_chance_2 : decode cX11_chance 2 = .ok (.if_icmp .lt 18, 3) := by decide +kernel
theorem dX11_chance_5 : decode cX11_chance 5 = .ok (.iload_n 2, 1) := by decide +kernel
theorem dX11_chance_6 : decode cX11_chance 6 = .ok (.bipush 8, 2) := by decide +kernel
theorem dX11_chance_8 : decode cX11_chance 8 = .ok (.if_icmp .gt 12, 3) := by decide +kernel
theorem dX11_chance_11 : decode cX11_chance 11 = .ok (.iload_n 3, 1) := by decide +kernel
theorem dX11_chance_12 : decode cX11_chance 12 = .ok (.ifCond .lt 8, 3) := by decide +kernel
theorem dX11_chance_15 : decode cX11_chance 15 = .ok (.iload_n 3, 1) := by decide +kernel
theorem dX11_chance_16 : decode cX11_chance 16 = .ok (.iconst 1, 1) := by decide +kernel
theorem dX11_chance_17 : decode cX11_chance 17 = .ok (.if_icmp .le 6, 3) := by decide +kernel
theorem dX11_chance_20 : decode cX11_chance 20 = .ok (.bipush (-2), 2) := by decide +kernel
theorem dX11_chance_22 : decode cX11_chance 22 = .ok (.ireturn, 1) := by decide +kernel
theorem dX11_chance_23 : decode cX11_chance 23 = .ok (.aload_n 0, 1) := by decide +kernel
theorem dX11_chance_24 : decode cX11_chance 24 = .ok (.getfield 21, 3) := by decide +kernel
theorem dX11_chance_27 : decode cX11_chance 27 = .ok (.getfield 251, 3) := by decide +kernel
theorem dX11_chance_30 : decode cX11_chance 30 = .ok (.ifCond .ne 6, 3) := by decide +kernel
theorem dX11_chance_33 : decode cX11_chance 33 = .ok (.bipush (-3), 2) := by decide +kernel
theorem dX11_chance_35 : decode cX11_chance 35 = .ok (.ireturn, 1) := by decide +kernel
theorem dX11_chance_36 : decode cX11_chance 36 = .ok (.iconst 0, 1) := by decide +kernel
theorem dX11_chance_37 : decode cX11_chance 37 = .ok (.istore 4, 2) := by decide +kernel
theorem dX11_chance_39 : decode cX11_chance 39 = .ok (.iconst 0, 1) := by decide +kernel
theorem dX11_chance_40 : decode cX11_chance 40 = .ok (.istore 5, 2) := by decide +kernel
theorem dX11_chance_42 : decode cX11_chance 42 = .ok (.iload 5, 2) := by decide +kernel
theorem dX11_chance_44 : decode cX11_chance 44 = .ok (.iload_n 2, 1) := by decide +kernel
theorem dX11_chance_45 : decode cX11_chance 45 = .ok (.if_icmp .ge 59, 3) := by decide +kernel
theorem dX11_chance_48 : decode cX11_chance 48 = .ok (.aload_n 0, 1) := by decide +kernel
theorem dX11_chance_49 : decode cX11_chance 49 = .ok (.iload_n 1, 1) := by decide +kernel
theorem dX11_chance_50 : decode cX11_chance 50 = .ok (.iload 5, 2) := by decide +kernel
theorem dX11_chance_52 : decode cX11_chance 52 = .ok (.iadd, 1) := by decide +kernel
theorem dX11_chance_53 : decode cX11_chance 53 = .ok (.invokevirtual 254, 3) := by decide +kernel
theorem dX11_chance_56 : decode cX11_chance 56 = .ok (.ifCond .eq 42, 3) := by decide +kernel
theorem dX11_chance_59 : decode cX11_chance 59 = .ok (.aload_n 0, 1) := by decide +kernel
theorem dX11_chance_60 : decode cX11_chance 60 = .ok (.getfield 55, 3) := by decide +kernel
theorem dX11_chance_63 : decode cX11_chance 63 = .ok (.aload_n 0, 1) := by decide +kernel
theorem dX11_chance_64 : decode cX11_chance 64 = .ok (.getfield 21, 3) := by decide +kernel
theorem dX11_chance_67 : decode cX11_chance 67 = .ok (.aload_n 0, 1) := by decide +kernel
theorem dX11_chance_68 : decode cX11_chance 68 = .ok (.getfield 41, 3) := by decide +kernel
theorem dX11_chance_71 : decode cX11_chance 71 = .ok (.getfield 208, 3) := by decide +kernel
theorem dX11_chance_74 : decode cX11_chance 74 = .ok (.invokevirtual 229, 3) := by decide +kernel
theorem dX11_chance_77 : decode cX11_chance 77 = .ok (.iload 4, 2) := by decide +kernel
theorem dX11_chance_79 : decode cX11_chance 79 = .ok (.aload_n 0, 1) := by decide +kernel
theorem dX11_chance_80 : decode cX11_chance 80 = .ok (.getfield 55, 3) := by decide +kernel
theorem dX11_chance_83 : decode cX11_chance 83 = .ok (.getfield 233, 3) := by decide +kernel
theorem dX11_chance_86 : decode cX11_chance 86 = .ok (.iconst 1, 1) := by decide +kernel
theorem dX11_chance_87 : decode cX11_chance 87 = .ok (.if_icmp .ne 7, 3) := by decide +kernel
theorem dX11_chance_90 : decode cX11_chance 90 = .ok (.iconst 1, 1) := by decide +kernel
theorem dX11_chance_91 : decode cX11_chance 91 = .ok (.goto 4, 3) := by decide +kernel
theorem dX11_chance_94 : decode cX11_chance 94 = .ok (.iconst 0, 1) := by decide +kernel
theorem dX11_chance_95 : decode cX11_chance 95 = .ok (.iadd, 1) := by decide +kernel
theorem dX11_chance_96 : decode cX11_chance 96 = .ok (.istore 4, 2) := by decide +kernel
theorem dX11_chance_98 : decode cX11_chance 98 = .ok (.iinc 5 1, 3) := by decide +kernel
theorem dX11_chance_101 : decode cX11_chance 101 = .ok (.goto (-59), 3) := by decide +kernel
theorem dX11_chance_104 : decode cX11_chance 104 = .ok (.iload 4, 2) := by decide +kernel
theorem dX11_chance_106 : decode cX11_chance 106 = .ok (.iload_n 2, 1) := by decide +kernel
theorem dX11_chance_107 : decode cX11_chance 107 = .ok (.invokestatic 257, 3) := by decide +kernel
theorem dX11_chance_110 : decode cX11_chance 110 = .ok (.istore 5, 2) := by decide +kernel
theorem dX11_chance_112 : decode cX11_chance 112 = .ok (.iload_n 3, 1) := by decide +kernel
theorem dX11_chance_113 : decode cX11_chance 113 = .ok (.ifCond .ne 8, 3) := by decide +kernel
theorem dX11_chance_116 : decode cX11_chance 116 = .ok (.iload 4, 2) := by decide +kernel
theorem dX11_chance_118 : decode cX11_chance 118 = .ok (.goto 4, 3) := by decide +kernel
theorem dX11_chance_121 : decode cX11_chance 121 = .ok (.iload_n 2, 1) := by decide +kernel
theorem dX11_chance_122 : decode cX11_chance 122 = .ok (.iload 5, 2) := by decide +kernel
theorem dX11_chance_124 : decode cX11_chance 124 = .ok (.idiv, 1) := by decide +kernel
theorem dX11_chance_125 : decode cX11_chance 125 = .ok (.ireturn, 1) := by decide +kernel
theorem dX11_tray_0 : decode cX11_tray 0 = .ok (.aload_n 0, 1) := by decide +kernel
theorem dX11_tray_1 : decode cX11_tray 1 = .ok (.iload_n 1, 1) := by decide +kernel
theorem dX11_tray_2 : decode cX11_tray 2 = .ok (.invokevirtual 261, 3) := by decide +kernel
theorem dX11_tray_5 : decode cX11_tray 5 = .ok (.astore 4, 2) := by decide +kernel
theorem dX11_tray_7 : decode cX11_tray 7 = .ok (.aload 4, 2) := by decide +kernel
theorem dX11_tray_9 : decode cX11_tray 9 = .ok (.ifnull 18, 3) := by decide +kernel
theorem dX11_tray_12 : decode cX11_tray 12 = .ok (.iload_n 2, 1) := by decide +kernel
theorem dX11_tray_13 : decode cX11_tray 13 = .ok (.bipush 6, 2) := by decide +kernel
theorem dX11_tray_15 : decode cX11_tray 15 = .ok (.invokestatic 84, 3) := by decide +kernel
theorem dX11_tray_18 : decode cX11_tray 18 = .ok (.ifCond .eq 9, 3) := by decide +kernel
theorem dX11_tray_21 : decode cX11_tray 21 = .ok (.iload_n 3, 1) := by decide +kernel
theorem dX11_tray_22 : decode cX11_tray 22 = .ok (.bipush 20, 2) := by decide +kernel
theorem dX11_tray_24 : decode cX11_tray 24 = .ok (.if_icmp .le 6, 3) := by decide +kernel
theorem dX11_tray_27 : decode cX11_tray 27 = .ok (.bipush (-2), 2) := by decide +kernel
theorem dX11_tray_29 : decode cX11_tray 29 = .ok (.ireturn, 1) := by decide +kernel
theorem dX11_tray_30 : decode cX11_tray 30 = .ok (.iload_n 3, 1) := by decide +kernel
theorem dX11_tray_31 : decode cX11_tray 31 = .ok (.ifCond .ge 6, 3) := by decide +kernel
theorem dX11_tray_34 : decode cX11_tray 34 = .ok (.bipush (-14), 2) := by decide +kernel
theorem dX11_tray_36 : decode cX11_tray 36 = .ok (.ireturn, 1) := by decide +kernel
theorem dX11_tray_37 : decode cX11_tray 37 = .ok (.aload 4, 2) := by decide +kernel
theorem dX11_tray_39 : decode cX11_tray 39 = .ok (.iload_n 2, 1) := by decide +kernel
theorem dX11_tray_40 : decode cX11_tray 40 = .ok (.iload_n 3, 1) := by decide +kernel
theorem dX11_tray_41 : decode cX11_tray 41 = .ok (.invokevirtual 265, 3) := by decide +kernel
theorem dX11_tray_44 : decode cX11_tray 44 = .ok (.iconst 1, 1) := by decide +kernel
theorem dX11_tray_45 : decode cX11_tray 45 = .ok (.ireturn, 1) := by decide +kernel
theorem dX11_lays_0 : decode cX11_lays 0 = .ok (.aload_n 0, 1) := by decide +kernel
theorem dX11_lays_1 : decode cX11_lays 1 = .ok (.iload_n 1, 1) := by decide +kernel
theorem dX11_lays_2 : decode cX11_lays 2 = .ok (.invokevirtual 261, 3) := by decide +kernel
theorem dX11_lays_5 : decode cX11_lays 5 = .ok (.astore 4, 2) := by decide +kernel
theorem dX11_lays_7 : decode cX11_lays 7 = .ok (.aload_n 0, 1) := by decide +kernel
theorem dX11_lays_8 : decode cX11_lays 8 = .ok (.getfield 21, 3) := by decide +kernel
theorem dX11_lays_11 : decode cX11_lays 11 = .ok (.iload_n 3, 1) := by decide +kernel
theorem dX11_lays_12 : decode cX11_lays 12 = .ok (.invokevirtual 119, 3) := by decide +kernel
theorem dX11_lays_15 : decode cX11_lays 15 = .ok (.astore 5, 2) := by decide +kernel
theorem dX11_lays_17 : decode cX11_lays 17 = .ok (.aload 4, 2) := by decide +kernel
theorem dX11_lays_19 : decode cX11_lays 19 = .ok (.ifnull 13, 3) := by decide +kernel
theorem dX11_lays_22 : decode cX11_lays 22 = .ok (.aload 5, 2) := by decide +kernel
theorem dX11_lays_24 : decode cX11_lays 24 = .ok (.ifnonnull 11, 3) := by decide +kernel
theorem dX11_lays_27 : decode cX11_lays 27 = .ok (.iload_n 3, 1) := by decide +kernel
theorem dX11_lays_28 : decode cX11_lays 28 = .ok (.iconst (-1), 1) := by decide +kernel
theorem dX11_lays_29 : decode cX11_lays 29 = .ok (.if_icmp .eq 6, 3) := by decide +kernel
theorem dX11_lays_32 : decode cX11_lays 32 = .ok (.bipush (-2), 2) := by decide +kernel
theorem dX11_lays_34 : decode cX11_lays 34 = .ok (.ireturn, 1) := by decide +kernel
theorem dX11_lays_35 : decode cX11_lays 35 = .ok (.aload 4, 2) := by decide +kernel
theorem dX11_lays_37 : decode cX11_lays 37 = .ok (.invokevirtual 266, 3) := by decide +kernel
theorem dX11_lays_40 : decode cX11_lays 40 = .ok (.ifCond .eq 6, 3) := by decide +kernel
theorem dX11_lays_43 : decode cX11_lays 43 = .ok (.bipush (-11), 2) := by decide +kernel
theorem dX11_lays_45 : decode cX11_lays 45 = .ok (.ireturn, 1) := by decide +kernel
theorem dX11_lays_46 : decode cX11_lays 46 = .ok (.aload 4, 2) := by decide +kernel
theorem dX11_lays_48 : decode cX11_lays 48 = .ok (.iload_n 2, 1) := by decide +kernel
theorem dX11_lays_49 : decode cX11_lays 49 = .ok (.invokevirtual 269, 3) := by decide +kernel
theorem dX11_lays_52 : decode cX11_lays 52 = .ok (.ifCond .ne 6, 3) := by decide +kernel
theorem dX11_lays_55 : decode cX11_lays 55 = .ok (.bipush (-12), 2) := by decide +kernel
theorem dX11_lays_57 : decode cX11_lays 57 = .ok (.ireturn, 1) := by decide +kernel
theorem dX11_lays_58 : decode cX11_lays 58 = .ok (.aload 5, 2) := by decide +kernel
theorem dX11_lays_60 : decode cX11_lays 60 = .ok (.ifnull 19, 3) := by decide +kernel
theorem dX11_lays_63 : decode cX11_lays 63 = .ok (.aload 5, 2) := by decide +kernel
theorem dX11_lays_65 : decode cX11_lays 65 = .ok (.aload 4, 2) := by decide +kernel
theorem dX11_lays_67 : decode cX11_lays 67 = .ok (.getfield 270, 3) := by decide +kernel
theorem dX11_lays_70 : decode cX11_lays 70 = .ok (.invokevirtual 137, 3) := by decide +kernel
theorem dX11_lays_73 : decode cX11_lays 73 = .ok (.ifCond .ne 6, 3) := by decide +kernel
theorem dX11_lays_76 : decode cX11_lays 76 = .ok (.bipush (-16), 2) := by decide +kernel
theorem dX11_lays_78 : decode cX11_lays 78 = .ok (.ireturn, 1) := by decide +kernel
theorem dX11_lays_79 : decode cX11_lays 79 = .ok (.aload 4, 2) := by decide +kernel
theorem dX11_lays_81 : decode cX11_lays 81 = .ok (.iload_n 2, 1) := by decide +kernel
theorem dX11_lays_82 : decode cX11_lays 82 = .ok (.iload_n 3, 1) := by decide +kernel
theorem dX11_lays_83 : decode cX11_lays 83 = .ok (.invokevirtual 271, 3) := by decide +kernel
theorem dX11_lays_86 : decode cX11_lays 86 = .ok (.iconst 1, 1) := by decide +kernel
theorem dX11_lays_87 : decode cX11_lays 87 = .ok (.ireturn, 1) := by decide +kernel
theorem dX11_laid_0 : decode cX11_laid 0 = .ok (.aload_n 0, 1) := by decide +kernel
theorem dX11_laid_1 : decode cX11_laid 1 = .ok (.iload_n 1, 1) := by decide +kernel
theorem dX11_laid_2 : decode cX11_laid 2 = .ok (.invokevirtual 261, 3) := by decide +kernel
theorem dX11_laid_5 : decode cX11_laid 5 = .ok (.astore_n 3, 1) := by decide +kernel
theorem dX11_laid_6 : decode cX11_laid 6 = .ok (.aload_n 3, 1) := by decide +kernel
theorem dX11_laid_7 : decode cX11_laid 7 = .ok (.ifnonnull 6, 3) := by decide +kernel
theorem dX11_laid_10 : decode cX11_laid 10 = .ok (.bipush (-2), 2) := by decide +kernel
theorem dX11_laid_12 : decode cX11_laid 12 = .ok (.ireturn, 1) := by decide +kernel
theorem dX11_laid_13 : decode cX11_laid 13 = .ok (.aload_n 3, 1) := by decide +kernel
theorem dX11_laid_14 : decode cX11_laid 14 = .ok (.invokevirtual 266, 3) := by decide +kernel
theorem dX11_laid_17 : decode cX11_laid 17 = .ok (.ifCond .eq 6, 3) := by decide +kernel
theorem dX11_laid_20 : decode cX11_laid 20 = .ok (.bipush (-11), 2) := by decide +kernel
theorem dX11_laid_22 : decode cX11_laid 22 = .ok (.ireturn, 1) := by decide +kernel
theorem dX11_laid_23 : decode cX11_laid 23 = .ok (.aload_n 3, 1) := by decide +kernel
theorem dX11_laid_24 : decode cX11_laid 24 = .ok (.iload_n 2, 1) := by decide +kernel
theorem dX11_laid_25 : decode cX11_laid 25 = .ok (.invokevirtual 269, 3) := by decide +kernel
theorem dX11_laid_28 : decode cX11_laid 28 = .ok (.ifCond .eq 11, 3) := by decide +kernel
theorem dX11_laid_31 : decode cX11_laid 31 = .ok (.aload_n 3, 1) := by decide +kernel
theorem dX11_laid_32 : decode cX11_laid 32 = .ok (.iload_n 2, 1) := by decide +kernel
theorem dX11_laid_33 : decode cX11_laid 33 = .ok (.invokevirtual 274, 3) := by decide +kernel
theorem dX11_laid_36 : decode cX11_laid 36 = .ok (.goto 5, 3) := by decide +kernel
theorem dX11_laid_39 : decode cX11_laid 39 = .ok (.bipush (-12), 2) := by decide +kernel
theorem dX11_laid_41 : decode cX11_laid 41 = .ok (.ireturn, 1) := by decide +kernel
theorem dX11_like_0 : decode cX11_like 0 = .ok (.aload_n 0, 1) := by decide +kernel
theorem dX11_like_1 : decode cX11_like 1 = .ok (.iload_n 1, 1) := by decide +kernel
theorem dX11_like_2 : decode cX11_like 2 = .ok (.invokevirtual 261, 3) := by decide +kernel
theorem dX11_like_5 : decode cX11_like 5 = .ok (.astore_n 3, 1) := by decide +kernel
theorem dX11_like_6 : decode cX11_like 6 = .ok (.aload_n 0, 1) := by decide +kernel
theorem dX11_like_7 : decode cX11_like 7 = .ok (.iload_n 2, 1) := by decide +kernel
theorem dX11_like_8 : decode cX11_like 8 = .ok (.invokevirtual 261, 3) := by decide +kernel
theorem dX11_like_11 : decode cX11_like 11 = .ok (.astore 4, 2) := by decide +kernel
theorem dX11_like_13 : decode cX11_like 13 = .ok (.aload_n 3, 1) := by decide +kernel
theorem dX11_like_14 : decode cX11_like 14 = .ok (.ifnull 8, 3) := by decide +kernel
theorem dX11_like_17 : decode cX11_like 17 = .ok (.aload 4, 2) := by decide +kernel
theorem dX11_like_19 : decode cX11_like 19 = .ok (.ifnonnull 6, 3) := by decide +kernel
theorem dX11_like_22 : decode cX11_like 22 = .ok (.bipush (-2), 2) := by decide +kernel
theorem dX11_like_24 : decode cX11_like 24 = .ok (.ireturn, 1) := by decide +kernel
theorem dX11_like_25 : decode cX11_like 25 = .ok (.aload 4, 2) := by decide +kernel
theorem dX11_like_27 : decode cX11_like 27 = .ok (.invokevirtual 266, 3) := by decide +kernel
theorem dX11_like_30 : decode cX11_like 30 = .ok (.ifCond .eq 6, 3) := by decide +kernel
theorem dX11_like_33 : decode cX11_like 33 = .ok (.bipush (-11), 2) := by decide +kernel
theorem dX11_like_35 : decode cX11_like 35 = .ok (.ireturn, 1) := by decide +kernel
theorem dX11_like_36 : decode cX11_like 36 = .ok (.aload_n 3, 1) := by decide +kernel
theorem dX11_like_37 : decode cX11_like 37 = .ok (.aload 4, 2) := by decide +kernel
theorem dX11_like_39 : decode cX11_like 39 = .ok (.invokevirtual 276, 3) := by decide +kernel
theorem dX11_like_42 : decode cX11_like 42 = .ok (.aload_n 3, 1) := by decide +kernel
theorem dX11_like_43 : decode cX11_like 43 = .ok (.getfield 279, 3) := by decide +kernel
theorem dX11_like_46 : decode cX11_like 46 = .ok (.ireturn, 1) := by decide +kernel
theorem dX11_tells_0 : decode cX11_tells 0 = .ok (.aload_n 0, 1) := by decide +kernel
theorem dX11_tells_1 : decode cX11_tells 1 = .ok (.iload_n 1, 1) := by decide +kernel
theorem dX11_tells_2 : decode cX11_tells 2 = .ok (.invokevirtual 280, 3) := by decide +kernel
theorem dX11_tells_5 : decode cX11_tells 5 = .ok (.astore_n 3, 1) := by decide +kernel
theorem dX11_tells_6 : decode cX11_tells 6 = .ok (.aload_n 3, 1) := by decide +kernel
theorem dX11_tells_7 : decode cX11_tells 7 = .ok (.ifnull 12, 3) := by decide +kernel
theorem dX11_tells_10 : decode cX11_tells 10 = .ok (.iload_n 2, 1) := by decide +kernel
theorem dX11_tells_11 : decode cX11_tells 11 = .ok (.ifCond .lt 8, 3) := by decide +kernel
theorem dX11_tells_14 : decode cX11_tells 14 = .ok (.iload_n 2, 1) := by decide +kernel
theorem dX11_tells_15 : decode cX11_tells 15 = .ok (.iconst 2, 1) := by decide +kernel
theorem dX11_tells_16 : decode cX11_tells 16 = .ok (.if_icmp .le 6, 3) := by decide +kernel
theorem dX11_tells_19 : decode cX11_tells 19 = .ok (.bipush (-2), 2) := by decide +kernel
theorem dX11_tells_21 : decode cX11_tells 21 = .ok (.ireturn, 1) := by decide +kernel
theorem dX11_tells_22 : decode cX11_tells 22 = .ok (.aload_n 3, 1) := by decide +kernel
theorem dX11_tells_23 : decode cX11_tells 23 = .ok (.invokevirtual 284, 3) := by decide +kernel
theorem dX11_tells_26 : decode cX11_tells 26 = .ok (.ifCond .eq 6, 3) := by decide +kernel
theorem dX11_tells_29 : decode cX11_tells 29 = .ok (.bipush (-11), 2) := by decide +kernel
theorem dX11_tells_31 : decode cX11_tells 31 = .ok (.ireturn, 1) := by decide +kernel
theorem dX11_tells_32 : decode cX11_tells 32 = .ok (.aload_n 3, 1) := by decide +kernel
theorem dX11_tells_33 : decode cX11_tells 33 = .ok (.getfield 285, 3) := by decide +kernel
theorem dX11_tells_36 : decode cX11_tells 36 = .ok (.bipush 6, 2) := by decide +kernel
theorem dX11_tells_38 : decode cX11_tells 38 = .ok (.if_icmp .le 6, 3) := by decide +kernel
theorem dX11_tells_41 : decode cX11_tells 41 = .ok (.bipush (-2), 2) := by decide +kernel
theorem dX11_tells_43 : decode cX11_tells 43 = .ok (.ireturn, 1) := by decide +kernel
theorem dX11_tells_44 : decode cX11_tells 44 = .ok (.aload_n 0, 1) := by decide +kernel
theorem dX11_tells_45 : decode cX11_tells 45 = .ok (.invokevirtual 205, 3) := by decide +kernel
theorem dX11_tells_48 : decode cX11_tells 48 = .ok (.ifCond .ne 6, 3) := by decide +kernel
theorem dX11_tells_51 : decode cX11_tells 51 = .ok (.bipush (-3), 2) := by decide +kernel
theorem dX11_tells_53 : decode cX11_tells 53 = .ok (.ireturn, 1) := by decide +kernel
theorem dX11_tells_54 : decode cX11_tells 54 = .ok (.iload_n 2, 1) := by decide +kernel
theorem dX11_tells_55 : decode cX11_tells 55 = .ok (.ifCond .ne 11, 3) := by decide +kernel
theorem dX11_tells_58 : decode cX11_tells 58 = .ok (.aload_n 0, 1) := by decide +kernel
theorem dX11_tells_59 : decode cX11_tells 59 = .ok (.aload_n 3, 1) := by decide +kernel
theorem dX11_tells_60 : decode cX11_tells 60 = .ok (.invokevirtual 286, 3) := by decide +kernel
theorem dX11_tells_63 : decode cX11_tells 63 = .ok (.goto 21, 3) := by decide +kernel
theorem dX11_tells_66 : decode cX11_tells 66 = .ok (.iload_n 2, 1) := by decide +kernel
theorem dX11_tells_67 : decode cX11_tells 67 = .ok (.iconst 1, 1) := by decide +kernel
theorem dX11_tells_68 : decode cX11_tells 68 = .ok (.if_icmp .ne 11, 3) := by decide +kernel
theorem dX11_tells_71 : decode cX11_tells 71 = .ok (.aload_n 0, 1) := by decide +kernel
theorem dX11_tells_72 : decode cX11_tells 72 = .ok (.aload_n 3, 1) := by decide +kernel
theorem dX11_tells_73 : decode cX11_tells 73 = .ok (.invokevirtual 290, 3) := by decide +kernel
theorem dX11_tells_76 : decode cX11_tells 76 = .ok (.goto 8, 3) := by decide +kernel
theorem dX11_tells_79 : decode cX11_tells 79 = .ok (.aload_n 0, 1) := by decide +kernel
theorem dX11_tells_80 : decode cX11_tells 80 = .ok (.aload_n 3, 1) := by decide +kernel
theorem dX11_tells_81 : decode cX11_tells 81 = .ok (.invokevirtual 293, 3) := by decide +kernel
theorem dX11_tells_84 : decode cX11_tells 84 = .ok (.ireturn, 1) := by decide +kernel
theorem dX11_image_0 : decode cX11_image 0 = .ok (.aload_n 0, 1) := by decide +kernel
theorem dX11_image_1 : decode cX11_image 1 = .ok (.getfield 25, 3) := by decide +kernel
theorem dX11_image_4 : decode cX11_image 4 = .ok (.aload_n 0, 1) := by decide +kernel
theorem dX11_image_5 : decode cX11_image 5 = .ok (.getfield 21, 3) := by decide +kernel
theorem dX11_image_8 : decode cX11_image 8 = .ok (.invokevirtual 296, 3) := by decide +kernel
theorem dX11_image_11 : decode cX11_image 11 = .ok (.aload_n 0, 1) := by decide +kernel
theorem dX11_image_12 : decode cX11_image 12 = .ok (.iconst 1, 1) := by decide +kernel
theorem dX11_image_13 : decode cX11_image 13 = .ok (.putfield 299, 3) := by decide +kernel
theorem dX11_image_16 : decode cX11_image 16 = .ok (.aload_n 0, 1) := by decide +kernel
theorem dX11_image_17 : decode cX11_image 17 = .ok (.getfield 25, 3) := by decide +kernel
theorem dX11_image_20 : decode cX11_image 20 = .ok (.getfield 303, 3) := by decide +kernel
theorem dX11_image_23 : decode cX11_image 23 = .ok (.ireturn, 1) := by decide +kernel
theorem dX11_back_0 : decode cX11_back 0 = .ok (.aload_n 0, 1) := by decide +kernel
theorem dX11_back_1 : decode cX11_back 1 = .ok (.getfield 299, 3) := by decide +kernel
theorem dX11_back_4 : decode cX11_back 4 = .ok (.ifCond .ne 6, 3) := by decide +kernel
theorem dX11_back_7 : decode cX11_back 7 = .ok (.bipush (-3), 2) := by decide +kernel
theorem dX11_back_9 : decode cX11_back 9 = .ok (.ireturn, 1) := by decide +kernel
theorem dX11_back_10 : decode cX11_back 10 = .ok (.aload_n 0, 1) := by decide +kernel
theorem dX11_back_11 : decode cX11_back 11 = .ok (.getfield 21, 3) := by decide +kernel
theorem dX11_back_14 : decode cX11_back 14 = .ok (.aload_n 0, 1) := by decide +kernel
theorem dX11_back_15 : decode cX11_back 15 = .ok (.getfield 25, 3) := by decide +kernel
theorem dX11_back_18 : decode cX11_back 18 = .ok (.invokevirtual 296, 3) := by decide +kernel
theorem dX11_back_21 : decode cX11_back 21 = .ok (.aload_n 0, 1) := by decide +kernel
theorem dX11_back_22 : decode cX11_back 22 = .ok (.getfield 21, 3) := by decide +kernel
theorem dX11_back_25 : decode cX11_back 25 = .ok (.getfield 303, 3) := by decide +kernel
theorem dX11_back_28 : decode cX11_back 28 = .ok (.ireturn, 1) := by decide +kernel
theorem dX11_count_0 : decode cX11_count 0 = .ok (.iload_n 1, 1) := by decide +kernel
theorem dX11_count_1 : decode cX11_count 1 = .ok (.tableswitch 86 0 4 #[35, 43, 51, 62, 78], 35) := by decide +kernel
theorem dX11_count_36 : decode cX11_count 36 = .ok (.aload_n 0, 1) := by decide +kernel
theorem dX11_count_37 : decode cX11_count 37 = .ok (.getfield 21, 3) := by decide +kernel
theorem dX11_count_40 : decode cX11_count 40 = .ok (.getfield 303, 3) := by decide +kernel
theorem dX11_count_43 : decode cX11_count 43 = .ok (.ireturn, 1) := by decide +kernel
theorem dX11_count_44 : decode cX11_count 44 = .ok (.aload_n 0, 1) := by decide +kernel
theorem dX11_count_45 : decode cX11_count 45 = .ok (.getfield 21, 3) := by decide +kernel
theorem dX11_count_48 : decode cX11_count 48 = .ok (.getfield 251, 3) := by decide +kernel
theorem dX11_count_51 : decode cX11_count 51 = .ok (.ireturn, 1) := by decide +kernel
theorem dX11_count_52 : decode cX11_count 52 = .ok (.aload_n 0, 1) := by decide +kernel
theorem dX11_count_53 : decode cX11_count 53 = .ok (.getfield 21, 3) := by decide +kernel
theorem dX11_count_56 : decode cX11_count 56 = .ok (.getfield 222, 3) := by decide +kernel
theorem dX11_count_59 : decode cX11_count 59 = .ok (.invokevirtual 225, 3) := by decide +kernel
theorem dX11_count_62 : decode cX11_count 62 = .ok (.ireturn, 1) := by decide +kernel
theorem dX11_count_63 : decode cX11_count 63 = .ok (.aload_n 0, 1) := by decide +kernel
theorem dX11_count_64 : decode cX11_count 64 = .ok (.invokevirtual 205, 3) := by decide +kernel
theorem dX11_count_67 : decode cX11_count 67 = .ok (.pop, 1) := by decide +kernel
theorem dX11_count_68 : decode cX11_count 68 = .ok (.aload_n 0, 1) := by decide +kernel
theorem dX11_count_69 : decode cX11_count 69 = .ok (.getfield 41, 3) := by decide +kernel
theorem dX11_count_72 : decode cX11_count 72 = .ok (.getfield 208, 3) := by decide +kernel
theorem dX11_count_75 : decode cX11_count 75 = .ok (.getfield 77, 3) := by decide +kernel
theorem dX11_count_78 : decode cX11_count 78 = .ok (.ireturn, 1) := by decide +kernel
theorem dX11_count_79 : decode cX11_count 79 = .ok (.aload_n 0, 1) := by decide +kernel
theorem dX11_count_80 : decode cX11_count 80 = .ok (.getfield 14, 3) := by decide +kernel
theorem dX11_count_83 : decode cX11_count 83 = .ok (.getfield 77, 3) := by decide +kernel
theorem dX11_count_86 : decode cX11_count 86 = .ok (.ireturn, 1) := by decide +kernel
theorem dX11_count_87 : decode cX11_count 87 = .ok (.bipush (-2), 2) := by decide +kernel
theorem dX11_count_89 : decode cX11_count 89 = .ok (.ireturn, 1) := by decide +kernel
theorem dX11_sheet_0 : decode cX11_sheet 0 = .ok (.aload_n 0, 1) := by decide +kernel
theorem dX11_sheet_1 : decode cX11_sheet 1 = .ok (.iload_n 1, 1) := by decide +kernel
theorem dX11_sheet_2 : decode cX11_sheet 2 = .ok (.invokevirtual 280, 3) := by decide +kernel
theorem dX11_sheet_5 : decode cX11_sheet 5 = .ok (.astore 4, 2) := by decide +kernel
theorem dX11_sheet_7 : decode cX11_sheet 7 = .ok (.aload 4, 2) := by decide +kernel
theorem dX11_sheet_9 : decode cX11_sheet 9 = .ok (.ifnull 13, 3) := by decide +kernel
theorem dX11_sheet_12 : decode cX11_sheet 12 = .ok (.iload_n 2, 1) := by decide +kernel
theorem dX11_sheet_13 : decode cX11_sheet 13 = .ok (.iconst (-1), 1) := by decide +kernel
theorem dX11_sheet_14 : decode cX11_sheet 14 = .ok (.if_icmp .lt 8, 3) := by decide +kernel
theorem dX11_sheet_17 : decode cX11_sheet 17 = .ok (.iload_n 2, 1) := by decide +kernel
theorem dX11_sheet_18 : decode cX11_sheet 18 = .ok (.iconst 1, 1) := by decide +kernel
theorem dX11_sheet_19 : decode cX11_sheet 19 = .ok (.if_icmp .le 6, 3) := by decide +kernel
theorem dX11_sheet_22 : decode cX11_sheet 22 = .ok (.bipush (-2), 2) := by decide +kernel
theorem dX11_sheet_24 : decode cX11_sheet 24 = .ok (.ireturn, 1) := by decide +kernel
theorem dX11_sheet_25 : decode cX11_sheet 25 = .ok (.iload_n 2, 1) := by decide +kernel
theorem dX11_sheet_26 : decode cX11_sheet 26 = .ok (.iconst (-1), 1) := by decide +kernel
theorem dX11_sheet_27 : decode cX11_sheet 27 = .ok (.if_icmp .ne 12, 3) := by decide +kernel
theorem dX11_sheet_30 : decode cX11_sheet 30 = .ok (.aload 4, 2) := by decide +kernel
theorem dX11_sheet_32 : decode cX11_sheet 32 = .ok (.iconst (-1), 1) := by decide +kernel
theorem dX11_sheet_33 : decode cX11_sheet 33 = .ok (.iconst 0, 1) := by decide +kernel
theorem dX11_sheet_34 : decode cX11_sheet 34 = .ok (.invokevirtual 306, 3) := by decide +kernel
theorem dX11_sheet_37 : decode cX11_sheet 37 = .ok (.iconst 1, 1) := by decide +kernel
theorem dX11_sheet_38 : decode cX11_sheet 38 = .ok (.ireturn, 1) := by decide +kernel
theorem dX11_sheet_39 : decode cX11_sheet 39 = .ok (.iload_n 3, 1) := by decide +kernel
theorem dX11_sheet_40 : decode cX11_sheet 40 = .ok (.bipush 40, 2) := by decide +kernel
theorem dX11_sheet_42 : decode cX11_sheet 42 = .ok (.if_icmp .le 6, 3) := by decide +kernel
theorem dX11_sheet_45 : decode cX11_sheet 45 = .ok (.bipush (-2), 2) := by decide +kernel
theorem dX11_sheet_47 : decode cX11_sheet 47 = .ok (.ireturn, 1) := by decide +kernel
theorem dX11_sheet_48 : decode cX11_sheet 48 = .ok (.iload_n 3, 1) := by decide +kernel
theorem dX11_sheet_49 : decode cX11_sheet 49 = .ok (.ifCond .ge 6, 3) := by decide +kernel
theorem dX11_sheet_52 : decode cX11_sheet 52 = .ok (.bipush (-14), 2) := by decide +kernel
theorem dX11_sheet_54 : decode cX11_sheet 54 = .ok (.ireturn, 1) := by decide +kernel
theorem dX11_sheet_55 : decode cX11_sheet 55 = .ok (.aload 4, 2) := by decide +kernel
theorem dX11_sheet_57 : decode cX11_sheet 57 = .ok (.iload_n 2, 1) := by decide +kernel
theorem dX11_sheet_58 : decode cX11_sheet 58 = .ok (.iload_n 3, 1) := by decide +kernel
theorem dX11_sheet_59 : decode cX11_sheet 59 = .ok (.invokevirtual 306, 3) := by decide +kernel
theorem dX11_sheet_62 : decode cX11_sheet 62 = .ok (.iconst 1, 1) := by decide +kernel
theorem dX11_sheet_63 : decode cX11_sheet 63 = .ok (.ireturn, 1) := by decide +kernel
theorem dX11_put_0 : decode cX11_put 0 = .ok (.aload_n 0, 1) := by decide +kernel
theorem dX11_put_1 : decode cX11_put 1 = .ok (.iload_n 1, 1) := by decide +kernel
theorem dX11_put_2 : decode cX11_put 2 = .ok (.invokevirtual 280, 3) := by decide +kernel
theorem dX11_put_5 : decode cX11_put 5 = .ok (.astore 4, 2) := by decide +kernel
theorem dX11_put_7 : decode cX11_put 7 = .ok (.aload 4, 2) := by decide +kernel
theorem dX11_put_9 : decode cX11_put 9 = .ok (.ifnonnull 6, 3) := by decide +kernel
theorem dX11_put_12 : decode cX11_put 12 = .ok (.bipush (-2), 2) := by decide +kernel
theorem dX11_put_14 : decode cX11_put 14 = .ok (.ireturn, 1) := by decide +kernel
theorem dX11_put_15 : decode cX11_put 15 = .ok (.aload 4, 2) := by decide +kernel
theorem dX11_put_17 : decode cX11_put 17 = .ok (.invokevirtual 284, 3) := by decide +kernel
theorem dX11_put_20 : decode cX11_put 20 = .ok (.ifCond .eq 6, 3) := by decide +kernel
theorem dX11_put_23 : decode cX11_put 23 = .ok (.bipush (-11), 2) := by decide +kernel
theorem dX11_put_25 : decode cX11_put 25 = .ok (.ireturn, 1) := by decide +kernel
theorem dX11_put_26 : decode cX11_put 26 = .ok (.aload 4, 2) := by decide +kernel
theorem dX11_put_28 : decode cX11_put 28 = .ok (.iload_n 2, 1) := by decide +kernel
theorem dX11_put_29 : decode cX11_put 29 = .ok (.iconst 1, 1) := by decide +kernel
theorem dX11_put_30 : decode cX11_put 30 = .ok (.invokevirtual 307, 3) := by decide +kernel
theorem dX11_put_33 : decode cX11_put 33 = .ok (.ifCond .ne 6, 3) := by decide +kernel
theorem dX11_put_36 : decode cX11_put 36 = .ok (.bipush (-12), 2) := by decide +kernel
theorem dX11_put_38 : decode cX11_put 38 = .ok (.ireturn, 1) := by decide +kernel
theorem dX11_put_39 : decode cX11_put 39 = .ok (.aload 4, 2) := by decide +kernel
theorem dX11_put_41 : decode cX11_put 41 = .ok (.iload_n 2, 1) := by decide +kernel
theorem dX11_put_42 : decode cX11_put 42 = .ok (.iload_n 3, 1) := by decide +kernel
theorem dX11_put_43 : decode cX11_put 43 = .ok (.invokevirtual 310, 3) := by decide +kernel
theorem dX11_put_46 : decode cX11_put 46 = .ok (.iconst 1, 1) := by decide +kernel
theorem dX11_put_47 : decode cX11_put 47 = .ok (.ireturn, 1) := by decide +kernel
theorem dX11_copy_0 : decode cX11_copy 0 = .ok (.aload_n 0, 1) := by decide +kernel
theorem dX11_copy_1 : decode cX11_copy 1 = .ok (.iload_n 1, 1) := by decide +kernel
theorem dX11_copy_2 : decode cX11_copy 2 = .ok (.invokevirtual 280, 3) := by decide +kernel
theorem dX11_copy_5 : decode cX11_copy 5 = .ok (.astore 6, 2) := by decide +kernel
theorem dX11_copy_7 : decode cX11_copy 7 = .ok (.aload_n 0, 1) := by decide +kernel
theorem dX11_copy_8 : decode cX11_copy 8 = .ok (.iload_n 3, 1) := by decide +kernel
theorem dX11_copy_9 : decode cX11_copy 9 = .ok (.invokevirtual 280, 3) := by decide +kernel
theorem dX11_copy_12 : decode cX11_copy 12 = .ok (.astore 7, 2) := by decide +kernel
theorem dX11_copy_14 : decode cX11_copy 14 = .ok (.aload 6, 2) := by decide +kernel
theorem dX11_copy_16 : decode cX11_copy 16 = .ok (.ifnull 8, 3) := by decide +kernel
theorem dX11_copy_19 : decode cX11_copy 19 = .ok (.aload 7, 2) := by decide +kernel
theorem dX11_copy_21 : decode cX11_copy 21 = .ok (.ifnonnull 6, 3) := by decide +kernel
theorem dX11_copy_24 : decode cX11_copy 24 = .ok (.bipush (-2), 2) := by decide +kernel
theorem dX11_copy_26 : decode cX11_copy 26 = .ok (.ireturn, 1) := by decide +kernel
theorem dX11_copy_27 : decode cX11_copy 27 = .ok (.aload 6, 2) := by decide +kernel
theorem dX11_copy_29 : decode cX11_copy 29 = .ok (.invokevirtual 284, 3) := by decide +kernel
theorem dX11_copy_32 : decode cX11_copy 32 = .ok (.ifCond .ne 11, 3) := by decide +kernel
theorem dX11_copy_35 : decode cX11_copy 35 = .ok (.aload 7, 2) := by decide +kernel
theorem dX11_copy_37 : decode cX11_copy 37 = .ok (.invokevirtual 284, 3) := by decide +kernel
theorem dX11_copy_40 : decode cX11_copy 40 = .ok (.ifCond .eq 6, 3) := by decide +kernel
theorem dX11_copy_43 : decode cX11_copy 43 = .ok (.bipush (-11), 2) := by decide +kernel
theorem dX11_copy_45 : decode cX11_copy 45 = .ok (.ireturn, 1) := by decide +kernel
theorem dX11_copy_46 : decode cX11_copy 46 = .ok (.aload 6, 2) := by decide +kernel
theorem dX11_copy_48 : decode cX11_copy 48 = .ok (.getfield 313, 3) := by decide +kernel
theorem dX11_copy_51 : decode cX11_copy 51 = .ok (.aload 7, 2) := by decide +kernel
theorem dX11_copy_53 : decode cX11_copy 53 = .ok (.getfield 313, 3) := by decide +kernel
theorem dX11_copy_56 : decode cX11_copy 56 = .ok (.if_icmp .eq 6, 3) := by decide +kernel
theorem dX11_copy_59 : decode cX11_copy 59 = .ok (.bipush (-13), 2) := by decide +kernel
theorem dX11_copy_61 : decode cX11_copy 61 = .ok (.ireturn, 1) := by decide +kernel
theorem dX11_copy_62 : decode cX11_copy 62 = .ok (.aload 6, 2) := by decide +kernel
theorem dX11_copy_64 : decode cX11_copy 64 = .ok (.iload_n 2, 1) := by decide +kernel
theorem dX11_copy_65 : decode cX11_copy 65 = .ok (.iload 5, 2) := by decide +kernel
theorem dX11_copy_67 : decode cX11_copy 67 = .ok (.invokevirtual 307, 3) := by decide +kernel
theorem dX11_copy_70 : decode cX11_copy 70 = .ok (.ifCond .eq 15, 3) := by decide +kernel
theorem dX11_copy_73 : decode cX11_copy 73 = .ok (.aload 7, 2) := by decide +kernel
theorem dX11_copy_75 : decode cX11_copy 75 = .ok (.iload 4, 2) := by decide +kernel
theorem dX11_copy_77 : decode cX11_copy 77 = .ok (.iload 5, 2) := by decide +kernel
theorem dX11_copy_79 : decode cX11_copy 79 = .ok (.invokevirtual 307, 3) := by decide +kernel
theorem dX11_copy_82 : decode cX11_copy 82 = .ok (.ifCond .ne 6, 3) := by decide +kernel
theorem dX11_copy_85 : decode cX11_copy 85 = .ok (.bipush (-12), 2) := by decide +kernel
theorem dX11_copy_87 : decode cX11_copy 87 = .ok (.ireturn, 1) := by decide +kernel
theorem dX11_copy_88 : decode cX11_copy 88 = .ok (.aload 7, 2) := by decide +kernel
theorem dX11_copy_90 : decode cX11_copy 90 = .ok (.iload 4, 2) := by decide +kernel
theorem dX11_copy_92 : decode cX11_copy 92 = .ok (.aload 6, 2) := by decide +kernel
theorem dX11_copy_94 : decode cX11_copy 94 = .ok (.iload_n 2, 1) := by decide +kernel
theorem dX11_copy_95 : decode cX11_copy 95 = .ok (.iload 5, 2) := by decide +kernel
theorem dX11_copy_97 : decode cX11_copy 97 = .ok (.invokevirtual 316, 3) := by decide +kernel
theorem dX11_copy_100 : decode cX11_copy 100 = .ok (.iload 5, 2) := by decide +kernel
theorem dX11_copy_102 : decode cX11_copy 102 = .ok (.ireturn, 1) := by decide +kernel
theorem dX11_isBelow_0 : decode cX11_isBelow 0 = .ok (.iload_n 0, 1) := by decide +kernel
theorem dX11_isBelow_1 : decode cX11_isBelow 1 = .ok (.ifCond .lt 12, 3) := by decide +kernel
theorem dX11_isBelow_4 : decode cX11_isBelow 4 = .ok (.iload_n 0, 1) := by decide +kernel
theorem dX11_isBelow_5 : decode cX11_isBelow 5 = .ok (.iload_n 1, 1) := by decide +kernel
theorem dX11_isBelow_6 : decode cX11_isBelow 6 = .ok (.if_icmp .ge 7, 3) := by decide +kernel
theorem dX11_isBelow_9 : decode cX11_isBelow 9 = .ok (.iconst 1, 1) := by decide +kernel
theorem dX11_isBelow_10 : decode cX11_isBelow 10 = .ok (.goto 4, 3) := by decide +kernel
theorem dX11_isBelow_13 : decode cX11_isBelow 13 = .ok (.iconst 0, 1) := by decide +kernel
theorem dX11_isBelow_14 : decode cX11_isBelow 14 = .ok (.ireturn, 1) := by decide +kernel
theorem dX11_areBytes_0 : decode cX11_areBytes 0 = .ok (.iload_n 0, 1) := by decide +kernel
theorem dX11_areBytes_1 : decode cX11_areBytes 1 = .ok (.iload_n 1, 1) := by decide +kernel
theorem dX11_areBytes_2 : decode cX11_areBytes 2 = .ok (.ior, 1) := by decide +kernel
theorem dX11_areBytes_3 : decode cX11_areBytes 3 = .ok (.iload_n 2, 1) := by decide +kernel
theorem dX11_areBytes_4 : decode cX11_areBytes 4 = .ok (.ior, 1) := by decide +kernel
theorem dX11_areBytes_5 : decode cX11_areBytes 5 = .ok (.iload_n 3, 1) := by decide +kernel
theorem dX11_areBytes_6 : decode cX11_areBytes 6 = .ok (.ior, 1) := by decide +kernel
theorem dX11_areBytes_7 : decode cX11_areBytes 7 = .ok (.iload 4, 2) := by decide +kernel
theorem dX11_areBytes_9 : decode cX11_areBytes 9 = .ok (.ior, 1) := by decide +kernel
theorem dX11_areBytes_10 : decode cX11_areBytes 10 = .ok (.sipush (-256), 3) := by decide +kernel
theorem dX11_areBytes_13 : decode cX11_areBytes 13 = .ok (.iand, 1) := by decide +kernel
theorem dX11_areBytes_14 : decode cX11_areBytes 14 = .ok (.ifCond .ne 7, 3) := by decide +kernel
theorem dX11_areBytes_17 : decode cX11_areBytes 17 = .ok (.iconst 1, 1) := by decide +kernel
theorem dX11_areBytes_18 : decode cX11_areBytes 18 = .ok (.goto 4, 3) := by decide +kernel
