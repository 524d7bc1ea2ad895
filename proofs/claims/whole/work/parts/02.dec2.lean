theorem dX11_areBytes_21 : decode cX11_areBytes 21 = .ok (.iconst 0, 1) := by decide +kernel
theorem dX11_areBytes_22 : decode cX11_areBytes 22 = .ok (.ireturn, 1) := by decide +kernel
theorem dX11_sizeOrLetter_0 : decode cX11_sizeOrLetter 0 = .ok (.iload_n 1, 1) := by decide +kernel
theorem dX11_sizeOrLetter_1 : decode cX11_sizeOrLetter 1 = .ok (.iconst (-1), 1) := by decide +kernel
theorem dX11_sizeOrLetter_2 : decode cX11_sizeOrLetter 2 = .ok (.if_icmp .ne 8, 3) := by decide +kernel
theorem dX11_sizeOrLetter_5 : decode cX11_sizeOrLetter 5 = .ok (.aload_n 0, 1) := by decide +kernel
theorem dX11_sizeOrLetter_6 : decode cX11_sizeOrLetter 6 = .ok (.getfield 77, 3) := by decide +kernel
theorem dX11_sizeOrLetter_9 : decode cX11_sizeOrLetter 9 = .ok (.ireturn, 1) := by decide +kernel
theorem dX11_sizeOrLetter_10 : decode cX11_sizeOrLetter 10 = .ok (.aload_n 0, 1) := by decide +kernel
theorem dX11_sizeOrLetter_11 : decode cX11_sizeOrLetter 11 = .ok (.iload_n 1, 1) := by decide +kernel
theorem dX11_sizeOrLetter_12 : decode cX11_sizeOrLetter 12 = .ok (.invokevirtual 320, 3) := by decide +kernel
theorem dX11_sizeOrLetter_15 : decode cX11_sizeOrLetter 15 = .ok (.istore_n 2, 1) := by decide +kernel
theorem dX11_sizeOrLetter_16 : decode cX11_sizeOrLetter 16 = .ok (.iload_n 2, 1) := by decide +kernel
theorem dX11_sizeOrLetter_17 : decode cX11_sizeOrLetter 17 = .ok (.iconst (-1), 1) := by decide +kernel
theorem dX11_sizeOrLetter_18 : decode cX11_sizeOrLetter 18 = .ok (.if_icmp .ne 8, 3) := by decide +kernel
theorem dX11_sizeOrLetter_21 : decode cX11_sizeOrLetter 21 = .ok (.bipush (-12), 2) := by decide +kernel
theorem dX11_sizeOrLetter_23 : decode cX11_sizeOrLetter 23 = .ok (.goto 4, 3) := by decide +kernel
theorem dX11_sizeOrLetter_26 : decode cX11_sizeOrLetter 26 = .ok (.iload_n 2, 1) := by decide +kernel
theorem dX11_sizeOrLetter_27 : decode cX11_sizeOrLetter 27 = .ok (.ireturn, 1) := by decide +kernel
theorem dX11_bitsOf_0 : decode cX11_bitsOf 0 = .ok (.fload_n 0, 1) := by decide +kernel
theorem dX11_bitsOf_1 : decode cX11_bitsOf 1 = .ok (.fconst 0, 1) := by decide +kernel
theorem dX11_bitsOf_2 : decode cX11_bitsOf 2 = .ok (.fcmp .l, 1) := by decide +kernel
theorem dX11_bitsOf_3 : decode cX11_bitsOf 3 = .ok (.ifCond .gt 5, 3) := by decide +kernel
theorem dX11_bitsOf_6 : decode cX11_bitsOf 6 = .ok (.iconst 0, 1) := by decide +kernel
theorem dX11_bitsOf_7 : decode cX11_bitsOf 7 = .ok (.ireturn, 1) := by decide +kernel
theorem dX11_bitsOf_8 : decode cX11_bitsOf 8 = .ok (.fload_n 0, 1) := by decide +kernel
theorem dX11_bitsOf_9 : decode cX11_bitsOf 9 = .ok (.fstore_n 1, 1) := by decide +kernel
theorem dX11_bitsOf_10 : decode cX11_bitsOf 10 = .ok (.sipush 150, 3) := by decide +kernel
theorem dX11_bitsOf_13 : decode cX11_bitsOf 13 = .ok (.istore_n 2, 1) := by decide +kernel
theorem dX11_bitsOf_14 : decode cX11_bitsOf 14 = .ok (.iconst 0, 1) := by decide +kernel
theorem dX11_bitsOf_15 : decode cX11_bitsOf 15 = .ok (.istore_n 3, 1) := by decide +kernel
theorem dX11_bitsOf_16 : decode cX11_bitsOf 16 = .ok (.iload_n 3, 1) := by decide +kernel
theorem dX11_bitsOf_17 : decode cX11_bitsOf 17 = .ok (.sipush 150, 3) := by decide +kernel
theorem dX11_bitsOf_20 : decode cX11_bitsOf 20 = .ok (.if_icmp .ge 24, 3) := by decide +kernel
theorem dX11_bitsOf_23 : decode cX11_bitsOf 23 = .ok (.fload_n 1, 1) := by decide +kernel
theorem dX11_bitsOf_24 : decode cX11_bitsOf 24 = .ok (.ldc_w 323, 3) := by decide +kernel
theorem dX11_bitsOf_27 : decode cX11_bitsOf 27 = .ok (.fcmp .g, 1) := by decide +kernel
theorem dX11_bitsOf_28 : decode cX11_bitsOf 28 = .ok (.ifCond .ge 16, 3) := by decide +kernel
theorem dX11_bitsOf_31 : decode cX11_bitsOf 31 = .ok (.fload_n 1, 1) := by decide +kernel
theorem dX11_bitsOf_32 : decode cX11_bitsOf 32 = .ok (.fconst 2, 1) := by decide +kernel
theorem dX11_bitsOf_33 : decode cX11_bitsOf 33 = .ok (.fmul, 1) := by decide +kernel
theorem dX11_bitsOf_34 : decode cX11_bitsOf 34 = .ok (.fstore_n 1, 1) := by decide +kernel
theorem dX11_bitsOf_35 : decode cX11_bitsOf 35 = .ok (.iinc 2 (-1), 3) := by decide +kernel
theorem dX11_bitsOf_38 : decode cX11_bitsOf 38 = .ok (.iinc 3 1, 3) := by decide +kernel
theorem dX11_bitsOf_41 : decode cX11_bitsOf 41 = .ok (.goto (-25), 3) := by decide +kernel
theorem dX11_bitsOf_44 : decode cX11_bitsOf 44 = .ok (.iload_n 2, 1) := by decide +kernel
theorem dX11_bitsOf_45 : decode cX11_bitsOf 45 = .ok (.bipush 23, 2) := by decide +kernel
theorem dX11_bitsOf_47 : decode cX11_bitsOf 47 = .ok (.ishl, 1) := by decide +kernel
theorem dX11_bitsOf_48 : decode cX11_bitsOf 48 = .ok (.fload_n 1, 1) := by decide +kernel
theorem dX11_bitsOf_49 : decode cX11_bitsOf 49 = .ok (.f2i, 1) := by decide +kernel
theorem dX11_bitsOf_50 : decode cX11_bitsOf 50 = .ok (.ldc_w 324, 3) := by decide +kernel
theorem dX11_bitsOf_53 : decode cX11_bitsOf 53 = .ok (.iand, 1) := by decide +kernel
theorem dX11_bitsOf_54 : decode cX11_bitsOf 54 = .ok (.ior, 1) := by decide +kernel
theorem dX11_bitsOf_55 : decode cX11_bitsOf 55 = .ok (.ireturn, 1) := by decide +kernel
theorem dX11_commonDivisor_0 : decode cX11_commonDivisor 0 = .ok (.iconst 1, 1) := by decide +kernel
theorem dX11_commonDivisor_1 : decode cX11_commonDivisor 1 = .ok (.istore_n 2, 1) := by decide +kernel
theorem dX11_commonDivisor_2 : decode cX11_commonDivisor 2 = .ok (.iconst 2, 1) := by decide +kernel
theorem dX11_commonDivisor_3 : decode cX11_commonDivisor 3 = .ok (.istore_n 3, 1) := by decide +kernel
theorem dX11_commonDivisor_4 : decode cX11_commonDivisor 4 = .ok (.iload_n 3, 1) := by decide +kernel
theorem dX11_commonDivisor_5 : decode cX11_commonDivisor 5 = .ok (.bipush 8, 2) := by decide +kernel
theorem dX11_commonDivisor_7 : decode cX11_commonDivisor 7 = .ok (.if_icmp .gt 23, 3) := by decide +kernel
theorem dX11_commonDivisor_10 : decode cX11_commonDivisor 10 = .ok (.iload_n 0, 1) := by decide +kernel
theorem dX11_commonDivisor_11 : decode cX11_commonDivisor 11 = .ok (.iload_n 3, 1) := by decide +kernel
theorem dX11_commonDivisor_12 : decode cX11_commonDivisor 12 = .ok (.irem, 1) := by decide +kernel
theorem dX11_commonDivisor_13 : decode cX11_commonDivisor 13 = .ok (.ifCond .ne 11, 3) := by decide +kernel
theorem dX11_commonDivisor_16 : decode cX11_commonDivisor 16 = .ok (.iload_n 1, 1) := by decide +kernel
theorem dX11_commonDivisor_17 : decode cX11_commonDivisor 17 = .ok (.iload_n 3, 1) := by decide +kernel
theorem dX11_commonDivisor_18 : decode cX11_commonDivisor 18 = .ok (.irem, 1) := by decide +kernel
theorem dX11_commonDivisor_19 : decode cX11_commonDivisor 19 = .ok (.ifCond .ne 5, 3) := by decide +kernel
theorem dX11_commonDivisor_22 : decode cX11_commonDivisor 22 = .ok (.iload_n 3, 1) := by decide +kernel
theorem dX11_commonDivisor_23 : decode cX11_commonDivisor 23 = .ok (.istore_n 2, 1) := by decide +kernel
theorem dX11_commonDivisor_24 : decode cX11_commonDivisor 24 = .ok (.iinc 3 1, 3) := by decide +kernel
theorem dX11_commonDivisor_27 : decode cX11_commonDivisor 27 = .ok (.goto (-23), 3) := by decide +kernel
theorem dX11_commonDivisor_30 : decode cX11_commonDivisor 30 = .ok (.iload_n 2, 1) := by decide +kernel
theorem dX11_commonDivisor_31 : decode cX11_commonDivisor 31 = .ok (.ireturn, 1) := by decide +kernel
theorem dX11_sayDesk_0 : decode cX11_sayDesk 0 = .ok (.aload_n 0, 1) := by decide +kernel
theorem dX11_sayDesk_1 : decode cX11_sayDesk 1 = .ok (.getfield 41, 3) := by decide +kernel
theorem dX11_sayDesk_4 : decode cX11_sayDesk 4 = .ok (.aload_n 0, 1) := by decide +kernel
theorem dX11_sayDesk_5 : decode cX11_sayDesk 5 = .ok (.getfield 21, 3) := by decide +kernel
theorem dX11_sayDesk_8 : decode cX11_sayDesk 8 = .ok (.aload_n 0, 1) := by decide +kernel
theorem dX11_sayDesk_9 : decode cX11_sayDesk 9 = .ok (.getfield 21, 3) := by decide +kernel
theorem dX11_sayDesk_12 : decode cX11_sayDesk 12 = .ok (.getfield 175, 3) := by decide +kernel
theorem dX11_sayDesk_15 : decode cX11_sayDesk 15 = .ok (.aload_n 0, 1) := by decide +kernel
theorem dX11_sayDesk_16 : decode cX11_sayDesk 16 = .ok (.getfield 21, 3) := by decide +kernel
theorem dX11_sayDesk_19 : decode cX11_sayDesk 19 = .ok (.getfield 175, 3) := by decide +kernel
theorem dX11_sayDesk_22 : decode cX11_sayDesk 22 = .ok (.getfield 325, 3) := by decide +kernel
theorem dX11_sayDesk_25 : decode cX11_sayDesk 25 = .ok (.aload_n 0, 1) := by decide +kernel
theorem dX11_sayDesk_26 : decode cX11_sayDesk 26 = .ok (.getfield 21, 3) := by decide +kernel
theorem dX11_sayDesk_29 : decode cX11_sayDesk 29 = .ok (.getfield 175, 3) := by decide +kernel
theorem dX11_sayDesk_32 : decode cX11_sayDesk 32 = .ok (.getfield 202, 3) := by decide +kernel
theorem dX11_sayDesk_35 : decode cX11_sayDesk 35 = .ok (.invokevirtual 328, 3) := by decide +kernel
theorem dX11_sayDesk_38 : decode cX11_sayDesk 38 = .ok (.ireturn, 1) := by decide +kernel
theorem dX11_sayDrawn_0 : decode cX11_sayDrawn 0 = .ok (.aload_n 0, 1) := by decide +kernel
theorem dX11_sayDrawn_1 : decode cX11_sayDrawn 1 = .ok (.getfield 48, 3) := by decide +kernel
theorem dX11_sayDrawn_4 : decode cX11_sayDrawn 4 = .ok (.getfield 332, 3) := by decide +kernel
theorem dX11_sayDrawn_7 : decode cX11_sayDrawn 7 = .ok (.astore_n 2, 1) := by decide +kernel
theorem dX11_sayDrawn_8 : decode cX11_sayDrawn 8 = .ok (.aload_n 0, 1) := by decide +kernel
theorem dX11_sayDrawn_9 : decode cX11_sayDrawn 9 = .ok (.getfield 48, 3) := by decide +kernel
theorem dX11_sayDrawn_12 : decode cX11_sayDrawn 12 = .ok (.aload_n 0, 1) := by decide +kernel
theorem dX11_sayDrawn_13 : decode cX11_sayDrawn 13 = .ok (.getfield 21, 3) := by decide +kernel
theorem dX11_sayDrawn_16 : decode cX11_sayDrawn 16 = .ok (.iload_n 1, 1) := by decide +kernel
theorem dX11_sayDrawn_17 : decode cX11_sayDrawn 17 = .ok (.invokevirtual 335, 3) := by decide +kernel
theorem dX11_sayDrawn_20 : decode cX11_sayDrawn 20 = .ok (.ifCond .eq 30, 3) := by decide +kernel
theorem dX11_sayDrawn_23 : decode cX11_sayDrawn 23 = .ok (.aload_n 0, 1) := by decide +kernel
theorem dX11_sayDrawn_24 : decode cX11_sayDrawn 24 = .ok (.getfield 41, 3) := by decide +kernel
theorem dX11_sayDrawn_27 : decode cX11_sayDrawn 27 = .ok (.aload_n 0, 1) := by decide +kernel
theorem dX11_sayDrawn_28 : decode cX11_sayDrawn 28 = .ok (.getfield 21, 3) := by decide +kernel
theorem dX11_sayDrawn_31 : decode cX11_sayDrawn 31 = .ok (.aload_n 2, 1) := by decide +kernel
theorem dX11_sayDrawn_32 : decode cX11_sayDrawn 32 = .ok (.aload_n 2, 1) := by decide +kernel
theorem dX11_sayDrawn_33 : decode cX11_sayDrawn 33 = .ok (.getfield 325, 3) := by decide +kernel
theorem dX11_sayDrawn_36 : decode cX11_sayDrawn 36 = .ok (.aload_n 2, 1) := by decide +kernel
theorem dX11_sayDrawn_37 : decode cX11_sayDrawn 37 = .ok (.getfield 202, 3) := by decide +kernel
theorem dX11_sayDrawn_40 : decode cX11_sayDrawn 40 = .ok (.invokevirtual 328, 3) := by decide +kernel
theorem dX11_sayDrawn_43 : decode cX11_sayDrawn 43 = .ok (.ifCond .eq 7, 3) := by decide +kernel
theorem dX11_sayDrawn_46 : decode cX11_sayDrawn 46 = .ok (.iconst 1, 1) := by decide +kernel
theorem dX11_sayDrawn_47 : decode cX11_sayDrawn 47 = .ok (.goto 4, 3) := by decide +kernel
theorem dX11_sayDrawn_50 : decode cX11_sayDrawn 50 = .ok (.iconst 0, 1) := by decide +kernel
theorem dX11_sayDrawn_51 : decode cX11_sayDrawn 51 = .ok (.ireturn, 1) := by decide +kernel
theorem dX11_sheetAt_0 : decode cX11_sheetAt 0 = .ok (.iload_n 1, 1) := by decide +kernel
theorem dX11_sheetAt_1 : decode cX11_sheetAt 1 = .ok (.ifCond .lt 21, 3) := by decide +kernel
theorem dX11_sheetAt_4 : decode cX11_sheetAt 4 = .ok (.iload_n 1, 1) := by decide +kernel
theorem dX11_sheetAt_5 : decode cX11_sheetAt 5 = .ok (.aload_n 0, 1) := by decide +kernel
theorem dX11_sheetAt_6 : decode cX11_sheetAt 6 = .ok (.getfield 61, 3) := by decide +kernel
theorem dX11_sheetAt_9 : decode cX11_sheetAt 9 = .ok (.arraylength, 1) := by decide +kernel
theorem dX11_sheetAt_10 : decode cX11_sheetAt 10 = .ok (.if_icmp .ge 12, 3) := by decide +kernel
theorem dX11_sheetAt_13 : decode cX11_sheetAt 13 = .ok (.aload_n 0, 1) := by decide +kernel
theorem dX11_sheetAt_14 : decode cX11_sheetAt 14 = .ok (.getfield 61, 3) := by decide +kernel
theorem dX11_sheetAt_17 : decode cX11_sheetAt 17 = .ok (.iload_n 1, 1) := by decide +kernel
theorem dX11_sheetAt_18 : decode cX11_sheetAt 18 = .ok (.aaload, 1) := by decide +kernel
theorem dX11_sheetAt_19 : decode cX11_sheetAt 19 = .ok (.goto 4, 3) := by decide +kernel
theorem dX11_sheetAt_22 : decode cX11_sheetAt 22 = .ok (.aconst_null, 1) := by decide +kernel
theorem dX11_sheetAt_23 : decode cX11_sheetAt 23 = .ok (.areturn, 1) := by decide +kernel
theorem dX11_trayAt_0 : decode cX11_trayAt 0 = .ok (.iload_n 1, 1) := by decide +kernel
theorem dX11_trayAt_1 : decode cX11_trayAt 1 = .ok (.ifCond .lt 21, 3) := by decide +kernel
theorem dX11_trayAt_4 : decode cX11_trayAt 4 = .ok (.iload_n 1, 1) := by decide +kernel
theorem dX11_trayAt_5 : decode cX11_trayAt 5 = .ok (.aload_n 0, 1) := by decide +kernel
theorem dX11_trayAt_6 : decode cX11_trayAt 6 = .ok (.getfield 67, 3) := by decide +kernel
theorem dX11_trayAt_9 : decode cX11_trayAt 9 = .ok (.arraylength, 1) := by decide +kernel
theorem dX11_trayAt_10 : decode cX11_trayAt 10 = .ok (.if_icmp .ge 12, 3) := by decide +kernel
theorem dX11_trayAt_13 : decode cX11_trayAt 13 = .ok (.aload_n 0, 1) := by decide +kernel
theorem dX11_trayAt_14 : decode cX11_trayAt 14 = .ok (.getfield 67, 3) := by decide +kernel
theorem dX11_trayAt_17 : decode cX11_trayAt 17 = .ok (.iload_n 1, 1) := by decide +kernel
theorem dX11_trayAt_18 : decode cX11_trayAt 18 = .ok (.aaload, 1) := by decide +kernel
theorem dX11_trayAt_19 : decode cX11_trayAt 19 = .ok (.goto 4, 3) := by decide +kernel
theorem dX11_trayAt_22 : decode cX11_trayAt 22 = .ok (.aconst_null, 1) := by decide +kernel
theorem dX11_trayAt_23 : decode cX11_trayAt 23 = .ok (.areturn, 1) := by decide +kernel
theorem dX11_firstOtherwise_0 : decode cX11_firstOtherwise 0 = .ok (.aload_n 1, 1) := by decide +kernel
theorem dX11_firstOtherwise_1 : decode cX11_firstOtherwise 1 = .ok (.getfield 285, 3) := by decide +kernel
theorem dX11_firstOtherwise_4 : decode cX11_firstOtherwise 4 = .ok (.aload_n 0, 1) := by decide +kernel
theorem dX11_firstOtherwise_5 : decode cX11_firstOtherwise 5 = .ok (.getfield 41, 3) := by decide +kernel
theorem dX11_firstOtherwise_8 : decode cX11_firstOtherwise 8 = .ok (.getfield 339, 3) := by decide +kernel
theorem dX11_firstOtherwise_11 : decode cX11_firstOtherwise 11 = .ok (.invokestatic 341, 3) := by decide +kernel
theorem dX11_firstOtherwise_14 : decode cX11_firstOtherwise 14 = .ok (.istore_n 2, 1) := by decide +kernel
theorem dX11_firstOtherwise_15 : decode cX11_firstOtherwise 15 = .ok (.iconst 0, 1) := by decide +kernel
theorem dX11_firstOtherwise_16 : decode cX11_firstOtherwise 16 = .ok (.istore_n 3, 1) := by decide +kernel
theorem dX11_firstOtherwise_17 : decode cX11_firstOtherwise 17 = .ok (.iload_n 3, 1) := by decide +kernel
theorem dX11_firstOtherwise_18 : decode cX11_firstOtherwise 18 = .ok (.iload_n 2, 1) := by decide +kernel
theorem dX11_firstOtherwise_19 : decode cX11_firstOtherwise 19 = .ok (.if_icmp .ge 27, 3) := by decide +kernel
theorem dX11_firstOtherwise_22 : decode cX11_firstOtherwise 22 = .ok (.aload_n 1, 1) := by decide +kernel
theorem dX11_firstOtherwise_23 : decode cX11_firstOtherwise 23 = .ok (.iload_n 3, 1) := by decide +kernel
theorem dX11_firstOtherwise_24 : decode cX11_firstOtherwise 24 = .ok (.invokevirtual 346, 3) := by decide +kernel
theorem dX11_firstOtherwise_27 : decode cX11_firstOtherwise 27 = .ok (.aload_n 0, 1) := by decide +kernel
theorem dX11_firstOtherwise_28 : decode cX11_firstOtherwise 28 = .ok (.getfield 41, 3) := by decide +kernel
theorem dX11_firstOtherwise_31 : decode cX11_firstOtherwise 31 = .ok (.iload_n 3, 1) := by decide +kernel
theorem dX11_firstOtherwise_32 : decode cX11_firstOtherwise 32 = .ok (.invokevirtual 347, 3) := by decide +kernel
theorem dX11_firstOtherwise_35 : decode cX11_firstOtherwise 35 = .ok (.if_icmp .eq 5, 3) := by decide +kernel
theorem dX11_firstOtherwise_38 : decode cX11_firstOtherwise 38 = .ok (.iload_n 3, 1) := by decide +kernel
theorem dX11_firstOtherwise_39 : decode cX11_firstOtherwise 39 = .ok (.ireturn, 1) := by decide +kernel
theorem dX11_firstOtherwise_40 : decode cX11_firstOtherwise 40 = .ok (.iinc 3 1, 3) := by decide +kernel
theorem dX11_firstOtherwise_43 : decode cX11_firstOtherwise 43 = .ok (.goto (-26), 3) := by decide +kernel
theorem dX11_firstOtherwise_46 : decode cX11_firstOtherwise 46 = .ok (.aload_n 1, 1) := by decide +kernel
theorem dX11_firstOtherwise_47 : decode cX11_firstOtherwise 47 = .ok (.getfield 285, 3) := by decide +kernel
theorem dX11_firstOtherwise_50 : decode cX11_firstOtherwise 50 = .ok (.aload_n 0, 1) := by decide +kernel
theorem dX11_firstOtherwise_51 : decode cX11_firstOtherwise 51 = .ok (.getfield 41, 3) := by decide +kernel
theorem dX11_firstOtherwise_54 : decode cX11_firstOtherwise 54 = .ok (.getfield 339, 3) := by decide +kernel
theorem dX11_firstOtherwise_57 : decode cX11_firstOtherwise 57 = .ok (.if_icmp .ne 7, 3) := by decide +kernel
theorem dX11_firstOtherwise_60 : decode cX11_firstOtherwise 60 = .ok (.iconst (-1), 1) := by decide +kernel
theorem dX11_firstOtherwise_61 : decode cX11_firstOtherwise 61 = .ok (.goto 4, 3) := by decide +kernel
theorem dX11_firstOtherwise_64 : decode cX11_firstOtherwise 64 = .ok (.iload_n 2, 1) := by decide +kernel
theorem dX11_firstOtherwise_65 : decode cX11_firstOtherwise 65 = .ok (.ireturn, 1) := by decide +kernel
theorem dX11_moodsTold_0 : decode cX11_moodsTold 0 = .ok (.iconst 0, 1) := by decide +kernel
theorem dX11_moodsTold_1 : decode cX11_moodsTold 1 = .ok (.istore_n 2, 1) := by decide +kernel
theorem dX11_moodsTold_2 : decode cX11_moodsTold 2 = .ok (.iconst 0, 1) := by decide +kernel
theorem dX11_moodsTold_3 : decode cX11_moodsTold 3 = .ok (.istore_n 3, 1) := by decide +kernel
theorem dX11_moodsTold_4 : decode cX11_moodsTold 4 = .ok (.iload_n 3, 1) := by decide +kernel
theorem dX11_moodsTold_5 : decode cX11_moodsTold 5 = .ok (.iconst 4, 1) := by decide +kernel
theorem dX11_moodsTold_6 : decode cX11_moodsTold 6 = .ok (.if_icmp .ge 58, 3) := by decide +kernel
theorem dX11_moodsTold_9 : decode cX11_moodsTold 9 = .ok (.aload_n 0, 1) := by decide +kernel
theorem dX11_moodsTold_10 : decode cX11_moodsTold 10 = .ok (.getfield 41, 3) := by decide +kernel
theorem dX11_moodsTold_13 : decode cX11_moodsTold 13 = .ok (.aload_n 0, 1) := by decide +kernel
theorem dX11_moodsTold_14 : decode cX11_moodsTold 14 = .ok (.getfield 21, 3) := by decide +kernel
theorem dX11_moodsTold_17 : decode cX11_moodsTold 17 = .ok (.aload_n 0, 1) := by decide +kernel
theorem dX11_moodsTold_18 : decode cX11_moodsTold 18 = .ok (.getfield 21, 3) := by decide +kernel
theorem dX11_moodsTold_21 : decode cX11_moodsTold 21 = .ok (.getfield 175, 3) := by decide +kernel
theorem dX11_moodsTold_24 : decode cX11_moodsTold 24 = .ok (.iload_n 3, 1) := by decide +kernel
theorem dX11_moodsTold_25 : decode cX11_moodsTold 25 = .ok (.aload_n 0, 1) := by decide +kernel
theorem dX11_moodsTold_26 : decode cX11_moodsTold 26 = .ok (.getfield 21, 3) := by decide +kernel
theorem dX11_moodsTold_29 : decode cX11_moodsTold 29 = .ok (.getfield 175, 3) := by decide +kernel
theorem dX11_moodsTold_32 : decode cX11_moodsTold 32 = .ok (.getfield 202, 3) := by decide +kernel
theorem dX11_moodsTold_35 : decode cX11_moodsTold 35 = .ok (.invokevirtual 328, 3) := by decide +kernel
theorem dX11_moodsTold_38 : decode cX11_moodsTold 38 = .ok (.pop, 1) := by decide +kernel
theorem dX11_moodsTold_39 : decode cX11_moodsTold 39 = .ok (.iload_n 2, 1) := by decide +kernel
theorem dX11_moodsTold_40 : decode cX11_moodsTold 40 = .ok (.aload_n 0, 1) := by decide +kernel
theorem dX11_moodsTold_41 : decode cX11_moodsTold 41 = .ok (.aload_n 1, 1) := by decide +kernel
theorem dX11_moodsTold_42 : decode cX11_moodsTold 42 = .ok (.invokevirtual 286, 3) := by decide +kernel
theorem dX11_moodsTold_45 : decode cX11_moodsTold 45 = .ok (.iconst (-1), 1) := by decide +kernel
theorem dX11_moodsTold_46 : decode cX11_moodsTold 46 = .ok (.if_icmp .ne 9, 3) := by decide +kernel
theorem dX11_moodsTold_49 : decode cX11_moodsTold 49 = .ok (.iconst 1, 1) := by decide +kernel
theorem dX11_moodsTold_50 : decode cX11_moodsTold 50 = .ok (.iload_n 3, 1) := by decide +kernel
theorem dX11_moodsTold_51 : decode cX11_moodsTold 51 = .ok (.ishl, 1) := by decide +kernel
theorem dX11_moodsTold_52 : decode cX11_moodsTold 52 = .ok (.goto 4, 3) := by decide +kernel
theorem dX11_moodsTold_55 : decode cX11_moodsTold 55 = .ok (.iconst 0, 1) := by decide +kernel
theorem dX11_moodsTold_56 : decode cX11_moodsTold 56 = .ok (.ior, 1) := by decide +kernel
theorem dX11_moodsTold_57 : decode cX11_moodsTold 57 = .ok (.istore_n 2, 1) := by decide +kernel
theorem dX11_moodsTold_58 : decode cX11_moodsTold 58 = .ok (.iinc 3 1, 3) := by decide +kernel
theorem dX11_moodsTold_61 : decode cX11_moodsTold 61 = .ok (.goto (-57), 3) := by decide +kernel
theorem dX11_moodsTold_64 : decode cX11_moodsTold 64 = .ok (.iload_n 2, 1) := by decide +kernel
theorem dX11_moodsTold_65 : decode cX11_moodsTold 65 = .ok (.ireturn, 1) := by decide +kernel
theorem dX11_numbersTold_0 : decode cX11_numbersTold 0 = .ok (.iconst 0, 1) := by decide +kernel
theorem dX11_numbersTold_1 : decode cX11_numbersTold 1 = .ok (.istore_n 2, 1) := by decide +kernel
theorem dX11_numbersTold_2 : decode cX11_numbersTold 2 = .ok (.iconst 0, 1) := by decide +kernel
theorem dX11_numbersTold_3 : decode cX11_numbersTold 3 = .ok (.istore_n 3, 1) := by decide +kernel
theorem dX11_numbersTold_4 : decode cX11_numbersTold 4 = .ok (.iload_n 3, 1) := by decide +kernel
theorem dX11_numbersTold_5 : decode cX11_numbersTold 5 = .ok (.bipush 8, 2) := by decide +kernel
theorem dX11_numbersTold_7 : decode cX11_numbersTold 7 = .ok (.if_icmp .ge 58, 3) := by decide +kernel
theorem dX11_numbersTold_10 : decode cX11_numbersTold 10 = .ok (.aload_n 0, 1) := by decide +kernel
theorem dX11_numbersTold_11 : decode cX11_numbersTold 11 = .ok (.getfield 41, 3) := by decide +kernel
theorem dX11_numbersTold_14 : decode cX11_numbersTold 14 = .ok (.aload_n 0, 1) := by decide +kernel
theorem dX11_numbersTold_15 : decode cX11_numbersTold 15 = .ok (.getfield 21, 3) := by decide +kernel
theorem dX11_numbersTold_18 : decode cX11_numbersTold 18 = .ok (.aload_n 0, 1) := by decide +kernel
theorem dX11_numbersTold_19 : decode cX11_numbersTold 19 = .ok (.getfield 21, 3) := by decide +kernel
theorem dX11_numbersTold_22 : decode cX11_numbersTold 22 = .ok (.getfield 175, 3) := by decide +kernel
theorem dX11_numbersTold_25 : decode cX11_numbersTold 25 = .ok (.aload_n 0, 1) := by decide +kernel
theorem dX11_numbersTold_26 : decode cX11_numbersTold 26 = .ok (.getfield 21, 3) := by decide +kernel
theorem dX11_numbersTold_29 : decode cX11_numbersTold 29 = .ok (.getfield 175, 3) := by decide +kernel
theorem dX11_numbersTold_32 : decode cX11_numbersTold 32 = .ok (.getfield 325, 3) := by decide +kernel
theorem dX11_numbersTold_35 : decode cX11_numbersTold 35 = .ok (.iload_n 3, 1) := by decide +kernel
theorem dX11_numbersTold_36 : decode cX11_numbersTold 36 = .ok (.invokevirtual 328, 3) := by decide +kernel
theorem dX11_numbersTold_39 : decode cX11_numbersTold 39 = .ok (.pop, 1) := by decide +kernel
theorem dX11_numbersTold_40 : decode cX11_numbersTold 40 = .ok (.iload_n 2, 1) := by decide +kernel
theorem dX11_numbersTold_41 : decode cX11_numbersTold 41 = .ok (.aload_n 0, 1) := by decide +kernel
theorem dX11_numbersTold_42 : decode cX11_numbersTold 42 = .ok (.aload_n 1, 1) := by decide +kernel
theorem dX11_numbersTold_43 : decode cX11_numbersTold 43 = .ok (.invokevirtual 286, 3) := by decide +kernel
theorem dX11_numbersTold_46 : decode cX11_numbersTold 46 = .ok (.iconst (-1), 1) := by decide +kernel
theorem dX11_numbersTold_47 : decode cX11_numbersTold 47 = .ok (.if_icmp .ne 9, 3) := by decide +kernel
theorem dX11_numbersTold_50 : decode cX11_numbersTold 50 = .ok (.iconst 1, 1) := by decide +kernel
theorem dX11_numbersTold_51 : decode cX11_numbersTold 51 = .ok (.iload_n 3, 1) := by decide +kernel
theorem dX11_numbersTold_52 : decode cX11_numbersTold 52 = .ok (.ishl, 1) := by decide +kernel
theorem dX11_numbersTold_53 : decode cX11_numbersTold 53 = .ok (.goto 4, 3) := by decide +kernel
theorem dX11_numbersTold_56 : decode cX11_numbersTold 56 = .ok (.iconst 0, 1) := by decide +kernel
theorem dX11_numbersTold_57 : decode cX11_numbersTold 57 = .ok (.ior, 1) := by decide +kernel
theorem dX11_numbersTold_58 : decode cX11_numbersTold 58 = .ok (.istore_n 2, 1) := by decide +kernel
theorem dX11_numbersTold_59 : decode cX11_numbersTold 59 = .ok (.iinc 3 1, 3) := by decide +kernel
theorem dX11_numbersTold_62 : decode cX11_numbersTold 62 = .ok (.goto (-58), 3) := by decide +kernel
theorem dX11_numbersTold_65 : decode cX11_numbersTold 65 = .ok (.iload_n 2, 1) := by decide +kernel
theorem dX11_numbersTold_66 : decode cX11_numbersTold 66 = .ok (.ireturn, 1) := by decide +kernel
theorem dX12_init_0 : decode cX12_init 0 = .ok (.aload_n 0, 1) := by decide +kernel
theorem dX12_init_1 : decode cX12_init 1 = .ok (.invokespecial 3, 3) := by decide +kernel
theorem dX12_init_4 : decode cX12_init 4 = .ok (.aload_n 0, 1) := by decide +kernel
theorem dX12_init_5 : decode cX12_init 5 = .ok (.sipush 517, 3) := by decide +kernel
theorem dX12_init_8 : decode cX12_init 8 = .ok (.newarray .int, 2) := by decide +kernel
theorem dX12_init_10 : decode cX12_init 10 = .ok (.putfield 9, 3) := by decide +kernel
theorem dX12_init_13 : decode cX12_init 13 = .ok (.aload_n 0, 1) := by decide +kernel
theorem dX12_init_14 : decode cX12_init 14 = .ok (.sipush 517, 3) := by decide +kernel
theorem dX12_init_17 : decode cX12_init 17 = .ok (.newarray .int, 2) := by decide +kernel
theorem dX12_init_19 : decode cX12_init 19 = .ok (.putfield 13, 3) := by decide +kernel
theorem dX12_init_22 : decode cX12_init 22 = .ok (.aload_n 0, 1) := by decide +kernel
theorem dX12_init_23 : decode cX12_init 23 = .ok (.bipush 50, 2) := by decide +kernel
theorem dX12_init_25 : decode cX12_init 25 = .ok (.newarray .int, 2) := by decide +kernel
theorem dX12_init_27 : decode cX12_init 27 = .ok (.putfield 16, 3) := by decide +kernel
theorem dX12_init_30 : decode cX12_init 30 = .ok (.aload_n 0, 1) := by decide +kernel
theorem dX12_init_31 : decode cX12_init 31 = .ok (.bipush 80, 2) := by decide +kernel
theorem dX12_init_33 : decode cX12_init 33 = .ok (.newarray .int, 2) := by decide +kernel
theorem dX12_init_35 : decode cX12_init 35 = .ok (.putfield 19, 3) := by decide +kernel
theorem dX12_init_38 : decode cX12_init 38 = .ok (.aload_n 0, 1) := by decide +kernel
theorem dX12_init_39 : decode cX12_init 39 = .ok (.bipush 25, 2) := by decide +kernel
theorem dX12_init_41 : decode cX12_init 41 = .ok (.newarray .int, 2) := by decide +kernel
theorem dX12_init_43 : decode cX12_init 43 = .ok (.putfield 22, 3) := by decide +kernel
theorem dX12_init_46 : decode cX12_init 46 = .ok (.aload_n 0, 1) := by decide +kernel
theorem dX12_init_47 : decode cX12_init 47 = .ok (.bipush 80, 2) := by decide +kernel
theorem dX12_init_49 : decode cX12_init 49 = .ok (.newarray .int, 2) := by decide +kernel
theorem dX12_init_51 : decode cX12_init 51 = .ok (.putfield 25, 3) := by decide +kernel
theorem dX12_init_54 : decode cX12_init 54 = .ok (.aload_n 0, 1) := by decide +kernel
theorem dX12_init_55 : decode cX12_init 55 = .ok (.bipush 80, 2) := by decide +kernel
theorem dX12_init_57 : decode cX12_init 57 = .ok (.newarray .int, 2) := by decide +kernel
theorem dX12_init_59 : decode cX12_init 59 = .ok (.putfield 28, 3) := by decide +kernel
theorem dX12_init_62 : decode cX12_init 62 = .ok (.aload_n 0, 1) := by decide +kernel
theorem dX12_init_63 : decode cX12_init 63 = .ok (.bipush 80, 2) := by decide +kernel
theorem dX12_init_65 : decode cX12_init 65 = .ok (.newarray .int, 2) := by decide +kernel
theorem dX12_init_67 : decode cX12_init 67 = .ok (.putfield 31, 3) := by decide +kernel
theorem dX12_init_70 : decode cX12_init 70 = .ok (.aload_n 0, 1) := by decide +kernel
theorem dX12_init_71 : decode cX12_init 71 = .ok (.bipush 80, 2) := by decide +kernel
theorem dX12_init_73 : decode cX12_init 73 = .ok (.newarray .int, 2) := by decide +kernel
theorem dX12_init_75 : decode cX12_init 75 = .ok (.putfield 34, 3) := by decide +kernel
theorem dX12_init_78 : decode cX12_init 78 = .ok (.aload_n 0, 1) := by decide +kernel
theorem dX12_init_79 : decode cX12_init 79 = .ok (.bipush 80, 2) := by decide +kernel
theorem dX12_init_81 : decode cX12_init 81 = .ok (.newarray .int, 2) := by decide +kernel
theorem dX12_init_83 : decode cX12_init 83 = .ok (.putfield 37, 3) := by decide +kernel
theorem dX12_init_86 : decode cX12_init 86 = .ok (.aload_n 0, 1) := by decide +kernel
theorem dX12_init_87 : decode cX12_init 87 = .ok (.bipush 6, 2) := by decide +kernel
theorem dX12_init_89 : decode cX12_init 89 = .ok (.newarray .int, 2) := by decide +kernel
theorem dX12_init_91 : decode cX12_init 91 = .ok (.putfield 40, 3) := by decide +kernel
theorem dX12_init_94 : decode cX12_init 94 = .ok (.aload_n 0, 1) := by decide +kernel
theorem dX12_init_95 : decode cX12_init 95 = .ok (.iconst 4, 1) := by decide +kernel
theorem dX12_init_96 : decode cX12_init 96 = .ok (.newarray .int, 2) := by decide +kernel
theorem dX12_init_98 : decode cX12_init 98 = .ok (.putfield 43, 3) := by decide +kernel
theorem dX12_init_101 : decode cX12_init 101 = .ok (.aload_n 0, 1) := by decide +kernel
theorem dX12_init_102 : decode cX12_init 102 = .ok (.iconst 4, 1) := by decide +kernel
theorem dX12_init_103 : decode cX12_init 103 = .ok (.newarray .int, 2) := by decide +kernel
theorem dX12_init_105 : decode cX12_init 105 = .ok (.putfield 46, 3) := by decide +kernel
theorem dX12_init_108 : decode cX12_init 108 = .ok (.aload_n 0, 1) := by decide +kernel
theorem dX12_init_109 : decode cX12_init 109 = .ok (.bipush 80, 2) := by decide +kernel
theorem dX12_init_111 : decode cX12_init 111 = .ok (.newarray .int, 2) := by decide +kernel
theorem dX12_init_113 : decode cX12_init 113 = .ok (.putfield 49, 3) := by decide +kernel
theorem dX12_init_116 : decode cX12_init 116 = .ok (.aload_n 0, 1) := by decide +kernel
theorem dX12_init_117 : decode cX12_init 117 = .ok (.iconst 4, 1) := by decide +kernel
theorem dX12_init_118 : decode cX12_init 118 = .ok (.newarray .int, 2) := by decide +kernel
theorem dX12_init_120 : decode cX12_init 120 = .ok (.putfield 52, 3) := by decide +kernel
theorem dX12_init_123 : decode cX12_init 123 = .ok (.aload_n 0, 1) := by decide +kernel
theorem dX12_init_124 : decode cX12_init 124 = .ok (.iconst 4, 1) := by decide +kernel
theorem dX12_init_125 : decode cX12_init 125 = .ok (.newarray .int, 2) := by decide +kernel
theorem dX12_init_127 : decode cX12_init 127 = .ok (.putfield 55, 3) := by decide +kernel
theorem dX12_init_130 : decode cX12_init 130 = .ok (.aload_n 0, 1) := by decide +kernel
theorem dX12_init_131 : decode cX12_init 131 = .ok (.sipush 160, 3) := by decide +kernel
theorem dX12_init_134 : decode cX12_init 134 = .ok (.newarray .int, 2) := by decide +kernel
theorem dX12_init_136 : decode cX12_init 136 = .ok (.putfield 58, 3) := by decide +kernel
theorem dX12_init_139 : decode cX12_init 139 = .ok (.aload_n 0, 1) := by decide +kernel
theorem dX12_init_140 : decode cX12_init 140 = .ok (.bipush 40, 2) := by decide +kernel
theorem dX12_init_142 : decode cX12_init 142 = .ok (.newarray .int, 2) := by decide +kernel
theorem dX12_init_144 : decode cX12_init 144 = .ok (.putfield 61, 3) := by decide +kernel
theorem dX12_init_147 : decode cX12_init 147 = .ok (.aload_n 0, 1) := by decide +kernel
theorem dX12_init_148 : decode cX12_init 148 = .ok (.getfield 9, 3) := by decide +kernel
theorem dX12_init_151 : decode cX12_init 151 = .ok (.iconst 2, 1) := by decide +kernel
theorem dX12_init_152 : decode cX12_init 152 = .ok (.iconst (-1), 1) := by decide +kernel
theorem dX12_init_153 : decode cX12_init 153 = .ok (.iastore, 1) := by decide +kernel
theorem dX12_init_154 : decode cX12_init 154 = .ok (.iconst 0, 1) := by decide +kernel
theorem dX12_init_155 : decode cX12_init 155 = .ok (.istore_n 1, 1) := by decide +kernel
theorem dX12_init_156 : decode cX12_init 156 = .ok (.iload_n 1, 1) := by decide +kernel
theorem dX12_init_157 : decode cX12_init 157 = .ok (.iconst 4, 1) := by decide +kernel
theorem dX12_init_158 : decode cX12_init 158 = .ok (.if_icmp .ge 16, 3) := by decide +kernel
theorem dX12_init_161 : decode cX12_init 161 = .ok (.aload_n 0, 1) := by decide +kernel
theorem dX12_init_162 : decode cX12_init 162 = .ok (.getfield 52, 3) := by decide +kernel
theorem dX12_init_165 : decode cX12_init 165 = .ok (.iload_n 1, 1) := by decide +kernel
theorem dX12_init_166 : decode cX12_init 166 = .ok (.iconst (-1), 1) := by decide +kernel
theorem dX12_init_167 : decode cX12_init 167 = .ok (.iastore, 1) := by decide +kernel
theorem dX12_init_168 : decode cX12_init 168 = .ok (.iinc 1 1, 3) := by decide +kernel
theorem dX12_init_171 : decode cX12_init 171 = .ok (.goto (-15), 3) := by decide +kernel
theorem dX12_init_174 : decode cX12_init 174 = .ok (.iconst 0, 1) := by decide +kernel
theorem dX12_init_175 : decode cX12_init 175 = .ok (.istore_n 1, 1) := by decide +kernel
theorem dX12_init_176 : decode cX12_init 176 = .ok (.iload_n 1, 1) := by decide +kernel
theorem dX12_init_177 : decode cX12_init 177 = .ok (.iconst 4, 1) := by decide +kernel
theorem dX12_init_178 : decode cX12_init 178 = .ok (.if_icmp .ge 16, 3) := by decide +kernel
theorem dX12_init_181 : decode cX12_init 181 = .ok (.aload_n 0, 1) := by decide +kernel
theorem dX12_init_182 : decode cX12_init 182 = .ok (.getfield 43, 3) := by decide +kernel
theorem dX12_init_185 : decode cX12_init 185 = .ok (.iload_n 1, 1) := by decide +kernel
theorem dX12_init_186 : decode cX12_init 186 = .ok (.iconst (-1), 1) := by decide +kernel
theorem dX12_init_187 : decode cX12_init 187 = .ok (.iastore, 1) := by decide +kernel
theorem dX12_init_188 : decode cX12_init 188 = .ok (.iinc 1 1, 3) := by decide +kernel
theorem dX12_init_191 : decode cX12_init 191 = .ok (.goto (-15), 3) := by decide +kernel
theorem dX12_init_194 : decode cX12_init 194 = .ok (.return_, 1) := by decide +kernel
theorem dX12_isIn_0 : decode cX12_isIn 0 = .ok (.iload_n 0, 1) := by decide +kernel
theorem dX12_isIn_1 : decode cX12_isIn 1 = .ok (.iload_n 1, 1) := by decide +kernel
theorem dX12_isIn_2 : decode cX12_isIn 2 = .ok (.if_icmp .lt 12, 3) := by decide +kernel
theorem dX12_isIn_5 : decode cX12_isIn 5 = .ok (.iload_n 0, 1) := by decide +kernel
theorem dX12_isIn_6 : decode cX12_isIn 6 = .ok (.iload_n 2, 1) := by decide +kernel
theorem dX12_isIn_7 : decode cX12_isIn 7 = .ok (.if_icmp .gt 7, 3) := by decide +kernel
theorem dX12_isIn_10 : decode cX12_isIn 10 = .ok (.iconst 1, 1) := by decide +kernel
theorem dX12_isIn_11 : decode cX12_isIn 11 = .ok (.goto 4, 3) := by decide +kernel
theorem dX12_isIn_14 : decode cX12_isIn 14 = .ok (.iconst 0, 1) := by decide +kernel
theorem dX12_isIn_15 : decode cX12_isIn 15 = .ok (.ireturn, 1) := by decide +kernel
theorem dX12_isWord_0 : decode cX12_isWord 0 = .ok (.iload_n 1, 1) := by decide +kernel
theorem dX12_isWord_1 : decode cX12_isWord 1 = .ok (.iconst 0, 1) := by decide +kernel
theorem dX12_isWord_2 : decode cX12_isWord 2 = .ok (.aload_n 0, 1) := by decide +kernel
theorem dX12_isWord_3 : decode cX12_isWord 3 = .ok (.getfield 9, 3) := by decide +kernel
theorem dX12_isWord_6 : decode cX12_isWord 6 = .ok (.iconst 0, 1) := by decide +kernel
theorem dX12_isWord_7 : decode cX12_isWord 7 = .ok (.iaload, 1) := by decide +kernel
theorem dX12_isWord_8 : decode cX12_isWord 8 = .ok (.iconst 1, 1) := by decide +kernel
theorem dX12_isWord_9 : decode cX12_isWord 9 = .ok (.isub, 1) := by decide +kernel
theorem dX12_isWord_10 : decode cX12_isWord 10 = .ok (.invokestatic 64, 3) := by decide +kernel
theorem dX12_isWord_13 : decode cX12_isWord 13 = .ok (.ireturn, 1) := by decide +kernel
theorem dX12_isVowel_0 : decode cX12_isVowel 0 = .ok (.iload_n 0, 1) := by decide +kernel
theorem dX12_isVowel_1 : decode cX12_isVowel 1 = .ok (.bipush 97, 2) := by decide +kernel
theorem dX12_isVowel_3 : decode cX12_isVowel 3 = .ok (.if_icmp .eq 27, 3) := by decide +kernel
theorem dX12_isVowel_6 : decode cX12_isVowel 6 = .ok (.iload_n 0, 1) := by decide +kernel
theorem dX12_isVowel_7 : decode cX12_isVowel 7 = .ok (.bipush 101, 2) := by decide +kernel
theorem dX12_isVowel_9 : decode cX12_isVowel 9 = .ok (.if_icmp .eq 21, 3) := by decide +kernel
theorem dX12_isVowel_12 : decode cX12_isVowel 12 = .ok (.iload_n 0, 1) := by decide +kernel
theorem dX12_isVowel_13 : decode cX12_isVowel 13 = .ok (.bipush 105, 2) := by decide +kernel
theorem dX12_isVowel_15 : decode cX12_isVowel 15 = .ok (.if_icmp .eq 15, 3) := by decide +kernel
theorem dX12_isVowel_18 : decode cX12_isVowel 18 = .ok (.iload_n 0, 1) := by decide +kernel
theorem dX12_isVowel_19 : decode cX12_isVowel 19 = .ok (.bipush 111, 2) := by decide +kernel
theorem dX12_isVowel_21 : decode cX12_isVowel 21 = .ok (.if_icmp .eq 9, 3) := by decide +kernel
theorem dX12_isVowel_24 : decode cX12_isVowel 24 = .ok (.iload_n 0, 1) := by decide +kernel
theorem dX12_isVowel_25 : decode cX12_isVowel 25 = .ok (.bipush 117, 2) := by decide +kernel
theorem dX12_isVowel_27 : decode cX12_isVowel 27 = .ok (.if_icmp .ne 7, 3) := by decide +kernel
theorem dX12_isVowel_30 : decode cX12_isVowel 30 = .ok (.iconst 1, 1) := by decide +kernel
theorem dX12_isVowel_31 : decode cX12_isVowel 31 = .ok (.goto 4, 3) := by decide +kernel
theorem dX12_isVowel_34 : decode cX12_isVowel 34 = .ok (.iconst 0, 1) := by decide +kernel
theorem dX12_isVowel_35 : decode cX12_isVowel 35 = .ok (.ireturn, 1) := by decide +kernel
theorem dX12_kind_0 : decode cX12_kind 0 = .ok (.aload_n 0, 1) := by decide +kernel
theorem dX12_kind_1 : decode cX12_kind 1 = .ok (.getfield 9, 3) := by decide +kernel
theorem dX12_kind_4 : decode cX12_kind 4 = .ok (.bipush 14, 2) := by decide +kernel
theorem dX12_kind_6 : decode cX12_kind 6 = .ok (.bipush 10, 2) := by decide +kernel
theorem dX12_kind_8 : decode cX12_kind 8 = .ok (.iload_n 1, 1) := by decide +kernel
theorem dX12_kind_9 : decode cX12_kind 9 = .ok (.imul, 1) := by decide +kernel
theorem dX12_kind_10 : decode cX12_kind 10 = .ok (.iadd, 1) := by decide +kernel
theorem dX12_kind_11 : decode cX12_kind 11 = .ok (.iaload, 1) := by decide +kernel
theorem dX12_kind_12 : decode cX12_kind 12 = .ok (.ireturn, 1) := by decide +kernel
theorem dX12_gender_0 : decode cX12_gender 0 = .ok (.aload_n 0, 1) := by decide +kernel
theorem dX12_gender_1 : decode cX12_gender 1 = .ok (.getfield 9, 3) := by decide +kernel
theorem dX12_gender_4 : decode cX12_gender 4 = .ok (.bipush 14, 2) := by decide +kernel
theorem dX12_gender_6 : decode cX12_gender 6 = .ok (.bipush 10, 2) := by decide +kernel
theorem dX12_gender_8 : decode cX12_gender 8 = .ok (.iload_n 1, 1) := by decide +kernel
theorem dX12_gender_9 : decode cX12_gender 9 = .ok (.imul, 1) := by decide +kernel
theorem dX12_gender_10 : decode cX12_gender 10 = .ok (.iadd, 1) := by decide +kernel
theorem dX12_gender_11 : decode cX12_gender 11 = .ok (.iconst 2, 1) := by decide +kernel
theorem dX12_gender_12 : decode cX12_gender 12 = .ok (.iadd, 1) := by decide +kernel
theorem dX12_gender_13 : decode cX12_gender 13 = .ok (.iaload, 1) := by decide +kernel
theorem dX12_gender_14 : decode cX12_gender 14 = .ok (.ireturn, 1) := by decide +kernel
theorem dX12_above_0 : decode cX12_above 0 = .ok (.iload_n 0, 1) := by decide +kernel
theorem dX12_above_1 : decode cX12_above 1 = .ok (.ifCond .ne 7, 3) := by decide +kernel
theorem dX12_above_4 : decode cX12_above 4 = .ok (.iconst (-1), 1) := by decide +kernel
theorem dX12_above_5 : decode cX12_above 5 = .ok (.goto 22, 3) := by decide +kernel
theorem dX12_above_8 : decode cX12_above 8 = .ok (.iload_n 0, 1) := by decide +kernel
theorem dX12_above_9 : decode cX12_above 9 = .ok (.iconst 3, 1) := by decide +kernel
theorem dX12_above_10 : decode cX12_above 10 = .ok (.if_icmp .ge 7, 3) := by decide +kernel
theorem dX12_above_13 : decode cX12_above 13 = .ok (.iconst 0, 1) := by decide +kernel
theorem dX12_above_14 : decode cX12_above 14 = .ok (.goto 13, 3) := by decide +kernel
theorem dX12_above_17 : decode cX12_above 17 = .ok (.iload_n 0, 1) := by decide +kernel
theorem dX12_above_18 : decode cX12_above 18 = .ok (.iconst 5, 1) := by decide +kernel
theorem dX12_above_19 : decode cX12_above 19 = .ok (.if_icmp .ge 7, 3) := by decide +kernel
theorem dX12_above_22 : decode cX12_above 22 = .ok (.iconst 1, 1) := by decide +kernel
theorem dX12_above_23 : decode cX12_above 23 = .ok (.goto 4, 3) := by decide +kernel
theorem dX12_above_26 : decode cX12_above 26 = .ok (.iconst 2, 1) := by decide +kernel
theorem dX12_above_27 : decode cX12_above 27 = .ok (.ireturn, 1) := by decide +kernel
theorem dX12_isUnder_0 : decode cX12_isUnder 0 = .ok (.iload_n 0, 1) := by decide +kernel
theorem dX12_isUnder_1 : decode cX12_isUnder 1 = .ok (.istore_n 2, 1) := by decide +kernel
theorem dX12_isUnder_2 : decode cX12_isUnder 2 = .ok (.iload_n 2, 1) := by decide +kernel
theorem dX12_isUnder_3 : decode cX12_isUnder 3 = .ok (.ifCond .lt 16, 3) := by decide +kernel
theorem dX12_isUnder_6 : decode cX12_isUnder 6 = .ok (.iload_n 2, 1) := by decide +kernel
theorem dX12_isUnder_7 : decode cX12_isUnder 7 = .ok (.iload_n 1, 1) := by decide +kernel
theorem dX12_isUnder_8 : decode cX12_isUnder 8 = .ok (.if_icmp .eq 11, 3) := by decide +kernel
theorem dX12_isUnder_11 : decode cX12_isUnder 11 = .ok (.iload_n 2, 1) := by decide +kernel
theorem dX12_isUnder_12 : decode cX12_isUnder 12 = .ok (.invokestatic 68, 3) := by decide +kernel
theorem dX12_isUnder_15 : decode cX12_isUnder 15 = .ok (.istore_n 2, 1) := by decide +kernel
theorem dX12_isUnder_16 : decode cX12_isUnder 16 = .ok (.goto (-14), 3) := by decide +kernel
theorem dX12_isUnder_19 : decode cX12_isUnder 19 = .ok (.iload_n 2, 1) := by decide +kernel
theorem dX12_isUnder_20 : decode cX12_isUnder 20 = .ok (.iload_n 1, 1) := by decide +kernel
theorem dX12_isUnder_21 : decode cX12_isUnder 21 = .ok (.if_icmp .ne 7, 3) := by decide +kernel
theorem dX12_isUnder_24 : decode cX12_isUnder 24 = .ok (.iconst 1, 1) := by decide +kernel
theorem dX12_isUnder_25 : decode cX12_isUnder 25 = .ok (.goto 4, 3) := by decide +kernel
theorem dX12_isUnder_28 : decode cX12_isUnder 28 = .ok (.iconst 0, 1) := by decide +kernel
theorem dX12_isUnder_29 : decode cX12_isUnder 29 = .ok (.ireturn, 1) := by decide +kernel
theorem dX12_feed_0 : decode cX12_feed 0 = .ok (.iload_n 1, 1) := by decide +kernel
theorem dX12_feed_1 : decode cX12_feed 1 = .ok (.iconst 1, 1) := by decide +kernel
theorem dX12_feed_2 : decode cX12_feed 2 = .ok (.iconst 5, 1) := by decide +kernel
theorem dX12_feed_3 : decode cX12_feed 3 = .ok (.invokestatic 64, 3) := by decide +kernel
theorem dX12_feed_6 : decode cX12_feed 6 = .ok (.ifCond .eq 61, 3) := by decide +kernel
theorem dX12_feed_9 : decode cX12_feed 9 = .ok (.iload_n 2, 1) := by decide +kernel
theorem dX12_feed_10 : decode cX12_feed 10 = .ok (.iconst 0, 1) := by decide +kernel
theorem dX12_feed_11 : decode cX12_feed 11 = .ok (.sipush 255, 3) := by decide +kernel
theorem dX12_feed_14 : decode cX12_feed 14 = .ok (.invokestatic 64, 3) := by decide +kernel
theorem dX12_feed_17 : decode cX12_feed 17 = .ok (.ifCond .eq 50, 3) := by decide +kernel
theorem dX12_feed_20 : decode cX12_feed 20 = .ok (.iload_n 3, 1) := by decide +kernel
theorem dX12_feed_21 : decode cX12_feed 21 = .ok (.iconst 0, 1) := by decide +kernel
theorem dX12_feed_22 : decode cX12_feed 22 = .ok (.sipush 255, 3) := by decide +kernel
theorem dX12_feed_25 : decode cX12_feed 25 = .ok (.invokestatic 64, 3) := by decide +kernel
theorem dX12_feed_28 : decode cX12_feed 28 = .ok (.ifCond .eq 39, 3) := by decide +kernel
theorem dX12_feed_31 : decode cX12_feed 31 = .ok (.iload 4, 2) := by decide +kernel
theorem dX12_feed_33 : decode cX12_feed 33 = .ok (.iconst 0, 1) := by decide +kernel
theorem dX12_feed_34 : decode cX12_feed 34 = .ok (.sipush 255, 3) := by decide +kernel
theorem dX12_feed_37 : decode cX12_feed 37 = .ok (.invokestatic 64, 3) := by decide +kernel
theorem dX12_feed_40 : decode cX12_feed 40 = .ok (.ifCond .eq 27, 3) := by decide +kernel
theorem dX12_feed_43 : decode cX12_feed 43 = .ok (.iload 5, 2) := by decide +kernel
theorem dX12_feed_45 : decode cX12_feed 45 = .ok (.iconst 0, 1) := by decide +kernel
theorem dX12_feed_46 : decode cX12_feed 46 = .ok (.sipush 255, 3) := by decide +kernel
theorem dX12_feed_49 : decode cX12_feed 49 = .ok (.invokestatic 64, 3) := by decide +kernel
theorem dX12_feed_52 : decode cX12_feed 52 = .ok (.ifCond .eq 15, 3) := by decide +kernel
theorem dX12_feed_55 : decode cX12_feed 55 = .ok (.iload 6, 2) := by decide +kernel
theorem dX12_feed_57 : decode cX12_feed 57 = .ok (.iconst 0, 1) := by decide +kernel
theorem dX12_feed_58 : decode cX12_feed 58 = .ok (.sipush 255, 3) := by decide +kernel
theorem dX12_feed_61 : decode cX12_feed 61 = .ok (.invokestatic 64, 3) := by decide +kernel
theorem dX12_feed_64 : decode cX12_feed 64 = .ok (.ifCond .ne 6, 3) := by decide +kernel
theorem dX12_feed_67 : decode cX12_feed 67 = .ok (.bipush (-2), 2) := by decide +kernel
theorem dX12_feed_69 : decode cX12_feed 69 = .ok (.ireturn, 1) := by decide +kernel
theorem dX12_feed_70 : decode cX12_feed 70 = .ok (.aload_n 0, 1) := by decide +kernel
theorem dX12_feed_71 : decode cX12_feed 71 = .ok (.getfield 72, 3) := by decide +kernel
theorem dX12_feed_74 : decode cX12_feed 74 = .ok (.iload_n 1, 1) := by decide +kernel
theorem dX12_feed_75 : decode cX12_feed 75 = .ok (.iadd, 1) := by decide +kernel
theorem dX12_feed_76 : decode cX12_feed 76 = .ok (.bipush 50, 2) := by decide +kernel
theorem dX12_feed_78 : decode cX12_feed 78 = .ok (.if_icmp .le 6, 3) := by decide +kernel
theorem dX12_feed_81 : decode cX12_feed 81 = .ok (.bipush (-4), 2) := by decide +kernel
theorem dX12_feed_83 : decode cX12_feed 83 = .ok (.ireturn, 1) := by decide +kernel
theorem dX12_feed_84 : decode cX12_feed 84 = .ok (.iconst 0, 1) := by decide +kernel
theorem dX12_feed_85 : decode cX12_feed 85 = .ok (.istore 7, 2) := by decide +kernel
theorem dX12_feed_87 : decode cX12_feed 87 = .ok (.iload 7, 2) := by decide +kernel
theorem dX12_feed_89 : decode cX12_feed 89 = .ok (.iload_n 1, 1) := by decide +kernel
theorem dX12_feed_90 : decode cX12_feed 90 = .ok (.if_icmp .ge 64, 3) := by decide +kernel
theorem dX12_feed_93 : decode cX12_feed 93 = .ok (.aload_n 0, 1) := by decide +kernel
theorem dX12_feed_94 : decode cX12_feed 94 = .ok (.getfield 16, 3) := by decide +kernel
theorem dX12_feed_97 : decode cX12_feed 97 = .ok (.aload_n 0, 1) := by decide +kernel
theorem dX12_feed_98 : decode cX12_feed 98 = .ok (.getfield 72, 3) := by decide +kernel
theorem dX12_feed_101 : decode cX12_feed 101 = .ok (.iload 7, 2) := by decide +kernel
theorem dX12_feed_103 : decode cX12_feed 103 = .ok (.iadd, 1) := by decide +kernel
theorem dX12_feed_104 : decode cX12_feed 104 = .ok (.iload 7, 2) := by decide +kernel
theorem dX12_feed_106 : decode cX12_feed 106 = .ok (.ifCond .ne 7, 3) := by decide +kernel
theorem dX12_feed_109 : decode cX12_feed 109 = .ok (.iload_n 2, 1) := by decide +kernel
theorem dX12_feed_110 : decode cX12_feed 110 = .ok (.goto 37, 3) := by decide +kernel
theorem dX12_feed_113 : decode cX12_feed 113 = .ok (.iload 7, 2) := by decide +kernel
theorem dX12_feed_115 : decode cX12_feed 115 = .ok (.iconst 1, 1) := by decide +kernel
theorem dX12_feed_116 : decode cX12_feed 116 = .ok (.if_icmp .ne 7, 3) := by decide +kernel
theorem dX12_feed_119 : decode cX12_feed 119 = .ok (.iload_n 3, 1) := by decide +kernel
theorem dX12_feed_120 : decode cX12_feed 120 = .ok (.goto 27, 3) := by decide +kernel
theorem dX12_feed_123 : decode cX12_feed 123 = .ok (.iload 7, 2) := by decide +kernel
theorem dX12_feed_125 : decode cX12_feed 125 = .ok (.iconst 2, 1) := by decide +kernel
theorem dX12_feed_126 : decode cX12_feed 126 = .ok (.if_icmp .ne 8, 3) := by decide +kernel
theorem dX12_feed_129 : decode cX12_feed 129 = .ok (.iload 4, 2) := by decide +kernel
theorem dX12_feed_131 : decode cX12_feed 131 = .ok (.goto 16, 3) := by decide +kernel
theorem dX12_feed_134 : decode cX12_feed 134 = .ok (.iload 7, 2) := by decide +kernel
theorem dX12_feed_136 : decode cX12_feed 136 = .ok (.iconst 3, 1) := by decide +kernel
theorem dX12_feed_137 : decode cX12_feed 137 = .ok (.if_icmp .ne 8, 3) := by decide +kernel
theorem dX12_feed_140 : decode cX12_feed 140 = .ok (.iload 5, 2) := by decide +kernel
theorem dX12_feed_142 : decode cX12_feed 142 = .ok (.goto 5, 3) := by decide +kernel
theorem dX12_feed_145 : decode cX12_feed 145 = .ok (.iload 6, 2) := by decide +kernel
theorem dX12_feed_147 : decode cX12_feed 147 = .ok (.iastore, 1) := by decide +kernel
theorem dX12_feed_148 : decode cX12_feed 148 = .ok (.iinc 7 1, 3) := by decide +kernel
theorem dX12_feed_151 : decode cX12_feed 151 = .ok (.goto (-64), 3) := by decide +kernel
theorem dX12_feed_154 : decode cX12_feed 154 = .ok (.aload_n 0, 1) := by decide +kernel
theorem dX12_feed_155 : decode cX12_feed 155 = .ok (.dup, 1) := by decide +kernel
theorem dX12_feed_156 : decode cX12_feed 156 = .ok (.getfield 72, 3) := by decide +kernel
theorem dX12_feed_159 : decode cX12_feed 159 = .ok (.iload_n 1, 1) := by decide +kernel
theorem dX12_feed_160 : decode cX12_feed 160 = .ok (.iadd, 1) := by decide +kernel
theorem dX12_feed_161 : decode cX12_feed 161 = .ok (.putfield 72, 3) := by decide +kernel
theorem dX12_feed_164 : decode cX12_feed 164 = .ok (.aload_n 0, 1) := by decide +kernel
theorem dX12_feed_165 : decode cX12_feed 165 = .ok (.getfield 72, 3) := by decide +kernel
theorem dX12_feed_168 : decode cX12_feed 168 = .ok (.ireturn, 1) := by decide +kernel
theorem dX12_letters_0 : decode cX12_letters 0 = .ok (.aload_n 0, 1) := by decide +kernel
theorem dX12_letters_1 : decode cX12_letters 1 = .ok (.getfield 72, 3) := by decide +kernel
theorem dX12_letters_4 : decode cX12_letters 4 = .ok (.istore_n 3, 1) := by decide +kernel
theorem dX12_letters_5 : decode cX12_letters 5 = .ok (.aload_n 0, 1) := by decide +kernel
theorem dX12_letters_6 : decode cX12_letters 6 = .ok (.iconst 0, 1) := by decide +kernel
theorem dX12_letters_7 : decode cX12_letters 7 = .ok (.putfield 72, 3) := by decide +kernel
theorem dX12_letters_10 : decode cX12_letters 10 = .ok (.iload_n 3, 1) := by decide +kernel
theorem dX12_letters_11 : decode cX12_letters 11 = .ok (.iload_n 1, 1) := by decide +kernel
theorem dX12_letters_12 : decode cX12_letters 12 = .ok (.iload_n 2, 1) := by decide +kernel
theorem dX12_letters_13 : decode cX12_letters 13 = .ok (.invokestatic 64, 3) := by decide +kernel
theorem dX12_letters_16 : decode cX12_letters 16 = .ok (.ifCond .ne 5, 3) := by decide +kernel
theorem dX12_letters_19 : decode cX12_letters 19 = .ok (.iconst (-1), 1) := by decide +kernel
theorem dX12_letters_20 : decode cX12_letters 20 = .ok (.ireturn, 1) := by decide +kernel
theorem dX12_letters_21 : decode cX12_letters 21 = .ok (.iconst 0, 1) := by decide +kernel
theorem dX12_letters_22 : decode cX12_letters 22 = .ok (.istore 4, 2) := by decide +kernel
theorem dX12_letters_24 : decode cX12_letters 24 = .ok (.iload 4, 2) := by decide +kernel
theorem dX12_letters_26 : decode cX12_letters 26 = .ok (.iload_n 3, 1) := by decide +kernel
theorem dX12_letters_27 : decode cX12_letters 27 = .ok (.if_icmp .ge 28, 3) := by decide +kernel
theorem dX12_letters_30 : decode cX12_letters 30 = .ok (.aload_n 0, 1) := by decide +kernel
theorem dX12_letters_31 : decode cX12_letters 31 = .ok (.getfield 16, 3) := by decide +kernel
theorem dX12_letters_34 : decode cX12_letters 34 = .ok (.iload 4, 2) := by decide +kernel
theorem dX12_letters_36 : decode cX12_letters 36 = .ok (.iaload, 1) := by decide +kernel
theorem dX12_letters_37 : decode cX12_letters 37 = .ok (.bipush 97, 2) := by decide +kernel
theorem dX12_letters_39 : decode cX12_letters 39 = .ok (.bipush 122, 2) := by decide +kernel
theorem dX12_letters_41 : decode cX12_letters 41 = .ok (.invokestatic 64, 3) := by decide +kernel
theorem dX12_letters_44 : decode cX12_letters 44 = .ok (.ifCond .ne 5, 3) := by decide +kernel
theorem dX12_letters_47 : decode cX12_letters 47 = .ok (.iconst (-1), 1) := by decide +kernel
theorem dX12_letters_48 : decode cX12_letters 48 = .ok (.ireturn, 1) := by decide +kernel
theorem dX12_letters_49 : decode cX12_letters 49 = .ok (.iinc 4 1, 3) := by decide +kernel
theorem dX12_letters_52 : decode cX12_letters 52 = .ok (.goto (-28), 3) := by decide +kernel
theorem dX12_letters_55 : decode cX12_letters 55 = .ok (.iload_n 3, 1) := by decide +kernel
theorem dX12_letters_56 : decode cX12_letters 56 = .ok (.ireturn, 1) := by decide +kernel
theorem dX12_word_0 : decode cX12_word 0 = .ok (.iload_n 1, 1) := by decide +kernel
theorem dX12_word_1 : decode cX12_word 1 = .ok (.iconst 0, 1) := by decide +kernel
theorem dX12_word_2 : decode cX12_word 2 = .ok (.iconst 5, 1) := by decide +kernel
theorem dX12_word_3 : decode cX12_word 3 = .ok (.invokestatic 64, 3) := by decide +kernel
theorem dX12_word_6 : decode cX12_word 6 = .ok (.ifCond .eq 21, 3) := by decide +kernel
theorem dX12_word_9 : decode cX12_word 9 = .ok (.iload_n 2, 1) := by decide +kernel
theorem dX12_word_10 : decode cX12_word 10 = .ok (.iconst 0, 1) := by decide +kernel
theorem dX12_word_11 : decode cX12_word 11 = .ok (.iconst 3, 1) := by decide +kernel
theorem dX12_word_12 : decode cX12_word 12 = .ok (.invokestatic 64, 3) := by decide +kernel
theorem dX12_word_15 : decode cX12_word 15 = .ok (.ifCond .eq 12, 3) := by decide +kernel
theorem dX12_word_18 : decode cX12_word 18 = .ok (.iload_n 3, 1) := by decide +kernel
theorem dX12_word_19 : decode cX12_word 19 = .ok (.iconst 0, 1) := by decide +kernel
theorem dX12_word_20 : decode cX12_word 20 = .ok (.iconst 2, 1) := by decide +kernel
theorem dX12_word_21 : decode cX12_word 21 = .ok (.invokestatic 64, 3) := by decide +kernel
theorem dX12_word_24 : decode cX12_word 24 = .ok (.ifCond .ne 6, 3) := by decide +kernel
theorem dX12_word_27 : decode cX12_word 27 = .ok (.bipush (-2), 2) := by decide +kernel
theorem dX12_word_29 : decode cX12_word 29 = .ok (.ireturn, 1) := by decide +kernel
theorem dX12_word_30 : decode cX12_word 30 = .ok (.aload_n 0, 1) := by decide +kernel
theorem dX12_word_31 : decode cX12_word 31 = .ok (.iconst 1, 1) := by decide +kernel
theorem dX12_word_32 : decode cX12_word 32 = .ok (.bipush 6, 2) := by decide +kernel
theorem dX12_word_34 : decode cX12_word 34 = .ok (.invokevirtual 76, 3) := by decide +kernel
theorem dX12_word_37 : decode cX12_word 37 = .ok (.istore 4, 2) := by decide +kernel
theorem dX12_word_39 : decode cX12_word 39 = .ok (.iload 4, 2) := by decide +kernel
theorem dX12_word_41 : decode cX12_word 41 = .ok (.ifCond .ge 6, 3) := by decide +kernel
theorem dX12_word_44 : decode cX12_word 44 = .ok (.bipush (-3), 2) := by decide +kernel
theorem dX12_word_46 : decode cX12_word 46 = .ok (.ireturn, 1) := by decide +kernel
theorem dX12_word_47 : decode cX12_word 47 = .ok (.aload_n 0, 1) := by decide +kernel
theorem dX12_word_48 : decode cX12_word 48 = .ok (.getfield 9, 3) := by decide +kernel
theorem dX12_word_51 : decode cX12_word 51 = .ok (.iconst 0, 1) := by decide +kernel
theorem dX12_word_52 : decode cX12_word 52 = .ok (.iaload, 1) := by decide +kernel
theorem dX12_word_53 : decode cX12_word 53 = .ok (.bipush 20, 2) := by decide +kernel
theorem dX12_word_55 : decode cX12_word 55 = .ok (.if_icmp .ne 6, 3) := by decide +kernel
theorem dX12_word_58 : decode cX12_word 58 = .ok (.bipush (-4), 2) := by decide +kernel
theorem dX12_word_60 : decode cX12_word 60 = .ok (.ireturn, 1) := by decide +kernel
theorem dX12_word_61 : decode cX12_word 61 = .ok (.bipush 14, 2) := by decide +kernel
theorem dX12_word_63 : decode cX12_word 63 = .ok (.bipush 10, 2) := by decide +kernel
theorem dX12_word_65 : decode cX12_word 65 = .ok (.aload_n 0, 1) := by decide +kernel
theorem dX12_word_66 : decode cX12_word 66 = .ok (.getfield 9, 3) := by decide +kernel
theorem dX12_word_69 : decode cX12_word 69 = .ok (.iconst 0, 1) := by decide +kernel
theorem dX12_word_70 : decode cX12_word 70 = .ok (.iaload, 1) := by decide +kernel
theorem dX12_word_71 : decode cX12_word 71 = .ok (.imul, 1) := by decide +kernel
theorem dX12_word_72 : decode cX12_word 72 = .ok (.iadd, 1) := by decide +kernel
theorem dX12_word_73 : decode cX12_word 73 = .ok (.istore 5, 2) := by decide +kernel
theorem dX12_word_75 : decode cX12_word 75 = .ok (.aload_n 0, 1) := by decide +kernel
theorem dX12_word_76 : decode cX12_word 76 = .ok (.getfield 9, 3) := by decide +kernel
theorem dX12_word_79 : decode cX12_word 79 = .ok (.iload 5, 2) := by decide +kernel
theorem dX12_word_81 : decode cX12_word 81 = .ok (.iload_n 1, 1) := by decide +kernel
theorem dX12_word_82 : decode cX12_word 82 = .ok (.iastore, 1) := by decide +kernel
theorem dX12_word_83 : decode cX12_word 83 = .ok (.aload_n 0, 1) := by decide +kernel
theorem dX12_word_84 : decode cX12_word 84 = .ok (.getfield 9, 3) := by decide +kernel
theorem dX12_word_87 : decode cX12_word 87 = .ok (.iload 5, 2) := by decide +kernel
theorem dX12_word_89 : decode cX12_word 89 = .ok (.iconst 1, 1) := by decide +kernel
theorem dX12_word_90 : decode cX12_word 90 = .ok (.iadd, 1) := by decide +kernel
theorem dX12_word_91 : decode cX12_word 91 = .ok (.iload_n 2, 1) := by decide +kernel
theorem dX12_word_92 : decode cX12_word 92 = .ok (.iastore, 1) := by decide +kernel
theorem dX12_word_93 : decode cX12_word 93 = .ok (.aload_n 0, 1) := by decide +kernel
theorem dX12_word_94 : decode cX12_word 94 = .ok (.getfield 9, 3) := by decide +kernel
theorem dX12_word_97 : decode cX12_word 97 = .ok (.iload 5, 2) := by decide +kernel
theorem dX12_word_99 : decode cX12_word 99 = .ok (.iconst 2, 1) := by decide +kernel
theorem dX12_word_100 : decode cX12_word 100 = .ok (.iadd, 1) := by decide +kernel
theorem dX12_word_101 : decode cX12_word 101 = .ok (.iload_n 3, 1) := by decide +kernel
theorem dX12_word_102 : decode cX12_word 102 = .ok (.iastore, 1) := by decide +kernel
theorem dX12_word_103 : decode cX12_word 103 = .ok (.aload_n 0, 1) := by decide +kernel
theorem dX12_word_104 : decode cX12_word 104 = .ok (.getfield 9, 3) := by decide +kernel
theorem dX12_word_107 : decode cX12_word 107 = .ok (.iload 5, 2) := by decide +kernel
theorem dX12_word_109 : decode cX12_word 109 = .ok (.iconst 3, 1) := by decide +kernel
theorem dX12_word_110 : decode cX12_word 110 = .ok (.iadd, 1) := by decide +kernel
theorem dX12_word_111 : decode cX12_word 111 = .ok (.iload 4, 2) := by decide +kernel
theorem dX12_word_113 : decode cX12_word 113 = .ok (.iastore, 1) := by decide +kernel
theorem dX12_word_114 : decode cX12_word 114 = .ok (.iconst 0, 1) := by decide +kernel
theorem dX12_word_115 : decode cX12_word 115 = .ok (.istore 6, 2) := by decide +kernel
theorem dX12_word_117 : decode cX12_word 117 = .ok (.iload 6, 2) := by decide +kernel
theorem dX12_word_119 : decode cX12_word 119 = .ok (.iload 4, 2) := by decide +kernel
theorem dX12_word_121 : decode cX12_word 121 = .ok (.if_icmp .ge 28, 3) := by decide +kernel
theorem dX12_word_124 : decode cX12_word 124 = .ok (.aload_n 0, 1) := by decide +kernel
theorem dX12_word_125 : decode cX12_word 125 = .ok (.getfield 9, 3) := by decide +kernel
theorem dX12_word_128 : decode cX12_word 128 = .ok (.iload 5, 2) := by decide +kernel
theorem dX12_word_130 : decode cX12_word 130 = .ok (.iconst 4, 1) := by decide +kernel
theorem dX12_word_131 : decode cX12_word 131 = .ok (.iadd, 1) := by decide +kernel
theorem dX12_word_132 : decode cX12_word 132 = .ok (.iload 6, 2) := by decide +kernel
theorem dX12_word_134 : decode cX12_word 134 = .ok (.iadd, 1) := by decide +kernel
theorem dX12_word_135 : decode cX12_word 135 = .ok (.aload_n 0, 1) := by decide +kernel
theorem dX12_word_136 : decode cX12_word 136 = .ok (.getfield 16, 3) := by decide +kernel
theorem dX12_word_139 : decode cX12_word 139 = .ok (.iload 6, 2) := by decide +kernel
theorem dX12_word_141 : decode cX12_word 141 = .ok (.iaload, 1) := by decide +kernel
theorem dX12_word_142 : decode cX12_word 142 = .ok (.iastore, 1) := by decide +kernel
theorem dX12_word_143 : decode cX12_word 143 = .ok (.iinc 6 1, 3) := by decide +kernel
theorem dX12_word_146 : decode cX12_word 146 = .ok (.goto (-29), 3) := by decide +kernel
theorem dX12_word_149 : decode cX12_word 149 = .ok (.aload_n 0, 1) := by decide +kernel
theorem dX12_word_150 : decode cX12_word 150 = .ok (.getfield 9, 3) := by decide +kernel
theorem dX12_word_153 : decode cX12_word 153 = .ok (.iconst 0, 1) := by decide +kernel
theorem dX12_word_154 : decode cX12_word 154 = .ok (.dup2, 1) := by decide +kernel
theorem dX12_word_155 : decode cX12_word 155 = .ok (.iaload, 1) := by decide +kernel
theorem dX12_word_156 : decode cX12_word 156 = .ok (.iconst 1, 1) := by decide +kernel
theorem dX12_word_157 : decode cX12_word 157 = .ok (.iadd, 1) := by decide +kernel
theorem dX12_word_158 : decode cX12_word 158 = .ok (.iastore, 1) := by decide +kernel
theorem dX12_word_159 : decode cX12_word 159 = .ok (.aload_n 0, 1) := by decide +kernel
theorem dX12_word_160 : decode cX12_word 160 = .ok (.getfield 9, 3) := by decide +kernel
theorem dX12_word_163 : decode cX12_word 163 = .ok (.iconst 0, 1) := by decide +kernel
theorem dX12_word_164 : decode cX12_word 164 = .ok (.iaload, 1) := by decide +kernel
theorem dX12_word_165 : decode cX12_word 165 = .ok (.iconst 1, 1) := by decide +kernel
theorem dX12_word_166 : decode cX12_word 166 = .ok (.isub, 1) := by decide +kernel
theorem dX12_word_167 : decode cX12_word 167 = .ok (.ireturn, 1) := by decide +kernel
theorem dX12_endAt_0 : decode cX12_endAt 0 = .ok (.sipush 214, 3) := by decide +kernel
theorem dX12_endAt_3 : decode cX12_endAt 3 = .ok (.iconst 4, 1) := by decide +kernel
theorem dX12_endAt_4 : decode cX12_endAt 4 = .ok (.iconst 2, 1) := by decide +kernel
theorem dX12_endAt_5 : decode cX12_endAt 5 = .ok (.iconst 4, 1) := by decide +kernel
theorem dX12_endAt_6 : decode cX12_endAt 6 = .ok (.iload_n 0, 1) := by decide +kernel
theorem dX12_endAt_7 : decode cX12_endAt 7 = .ok (.imul, 1) := by decide +kernel
theorem dX12_endAt_8 : decode cX12_endAt 8 = .ok (.iload_n 1, 1) := by decide +kernel
theorem dX12_endAt_9 : decode cX12_endAt 9 = .ok (.iadd, 1) := by decide +kernel
theorem dX12_endAt_10 : decode cX12_endAt 10 = .ok (.imul, 1) := by decide +kernel
theorem dX12_endAt_11 : decode cX12_endAt 11 = .ok (.iload_n 2, 1) := by decide +kernel
theorem dX12_endAt_12 : decode cX12_endAt 12 = .ok (.iadd, 1) := by decide +kernel
theorem dX12_endAt_13 : decode cX12_endAt 13 = .ok (.imul, 1) := by decide +kernel
theorem dX12_endAt_14 : decode cX12_endAt 14 = .ok (.iadd, 1) := by decide +kernel
theorem dX12_endAt_15 : decode cX12_endAt 15 = .ok (.ireturn, 1) := by decide +kernel
theorem dX12_ending_0 : decode cX12_ending 0 = .ok (.iload_n 1, 1) := by decide +kernel
theorem dX12_ending_1 : decode cX12_ending 1 = .ok (.iconst 0, 1) := by decide +kernel
theorem dX12_ending_2 : decode cX12_ending 2 = .ok (.iconst 3, 1) := by decide +kernel
theorem dX12_ending_3 : decode cX12_ending 3 = .ok (.invokestatic 64, 3) := by decide +kernel
theorem dX12_ending_6 : decode cX12_ending 6 = .ok (.ifCond .eq 21, 3) := by decide +kernel
theorem dX12_ending_9 : decode cX12_ending 9 = .ok (.iload_n 2, 1) := by decide +kernel
theorem dX12_ending_10 : decode cX12_ending 10 = .ok (.iconst 0, 1) := by decide +kernel
theorem dX12_ending_11 : decode cX12_ending 11 = .ok (.iconst 3, 1) := by decide +kernel
theorem dX12_ending_12 : decode cX12_ending 12 = .ok (.invokestatic 64, 3) := by decide +kernel
theorem dX12_ending_15 : decode cX12_ending 15 = .ok (.ifCond .eq 12, 3) := by decide +kernel
theorem dX12_ending_18 : decode cX12_ending 18 = .ok (.iload_n 3, 1) := by decide +kernel
theorem dX12_ending_19 : decode cX12_ending 19 = .ok (.iconst 0, 1) := by decide +kernel
theorem dX12_ending_20 : decode cX12_ending 20 = .ok (.iconst 1, 1) := by decide +kernel
theorem dX12_ending_21 : decode cX12_ending 21 = .ok (.invokestatic 64, 3) := by decide +kernel
theorem dX12_ending_24 : decode cX12_ending 24 = .ok (.ifCond .ne 6, 3) := by decide +kernel
theorem dX12_ending_27 : decode cX12_ending 27 = .ok (.bipush (-2), 2) := by decide +kernel
theorem dX12_ending_29 : decode cX12_ending 29 = .ok (.ireturn, 1) := by decide +kernel
theorem dX12_ending_30 : decode cX12_ending 30 = .ok (.aload_n 0, 1) := by decide +kernel
theorem dX12_ending_31 : decode cX12_ending 31 = .ok (.iconst 0, 1) := by decide +kernel
theorem dX12_ending_32 : decode cX12_ending 32 = .ok (.iconst 3, 1) := by decide +kernel
theorem dX12_ending_33 : decode cX12_ending 33 = .ok (.invokevirtual 76, 3) := by decide +kernel
theorem dX12_ending_36 : decode cX12_ending 36 = .ok (.istore 4, 2) := by decide +kernel
theorem dX12_ending_38 : decode cX12_ending 38 = .ok (.iload 4, 2) := by decide +kernel
theorem dX12_ending_40 : decode cX12_ending 40 = .ok (.ifCond .ge 6, 3) := by decide +kernel
theorem dX12_ending_43 : decode cX12_ending 43 = .ok (.bipush (-3), 2) := by decide +kernel
theorem dX12_ending_45 : decode cX12_ending 45 = .ok (.ireturn, 1) := by decide +kernel
theorem dX12_ending_46 : decode cX12_ending 46 = .ok (.iload_n 1, 1) := by decide +kernel
theorem dX12_ending_47 : decode cX12_ending 47 = .ok (.iload_n 2, 1) := by decide +kernel
theorem dX12_ending_48 : decode cX12_ending 48 = .ok (.iload_n 3, 1) := by decide +kernel
theorem dX12_ending_49 : decode cX12_ending 49 = .ok (.invokestatic 80, 3) := by decide +kernel
theorem dX12_ending_52 : decode cX12_ending 52 = .ok (.istore 5, 2) := by decide +kernel
theorem dX12_ending_54 : decode cX12_ending 54 = .ok (.aload_n 0, 1) := by decide +kernel
theorem dX12_ending_55 : decode cX12_ending 55 = .ok (.getfield 9, 3) := by decide +kernel
theorem dX12_ending_58 : decode cX12_ending 58 = .ok (.iload 5, 2) := by decide +kernel
theorem dX12_ending_60 : decode cX12_ending 60 = .ok (.iaload, 1) := by decide +kernel
theorem dX12_ending_61 : decode cX12_ending 61 = .ok (.istore 6, 2) := by decide +kernel
theorem dX12_ending_63 : decode cX12_ending 63 = .ok (.aload_n 0, 1) := by decide +kernel
theorem dX12_ending_64 : decode cX12_ending 64 = .ok (.getfield 9, 3) := by decide +kernel
theorem dX12_ending_67 : decode cX12_ending 67 = .ok (.iload 5, 2) := by decide +kernel
theorem dX12_ending_69 : decode cX12_ending 69 = .ok (.iload 4, 2) := by decide +kernel
theorem dX12_ending_71 : decode cX12_ending 71 = .ok (.iastore, 1) := by decide +kernel
theorem dX12_ending_72 : decode cX12_ending 72 = .ok (.iconst 0, 1) := by decide +kernel
theorem dX12_ending_73 : decode cX12_ending 73 = .ok (.istore 7, 2) := by decide +kernel
theorem dX12_ending_75 : decode cX12_ending 75 = .ok (.iload 7, 2) := by decide +kernel
theorem dX12_ending_77 : decode cX12_ending 77 = .ok (.iload 4, 2) := by decide +kernel
theorem dX12_ending_79 : decode cX12_ending 79 = .ok (.if_icmp .ge 28, 3) := by decide +kernel
theorem dX12_ending_82 : decode cX12_ending 82 = .ok (.aload_n 0, 1) := by decide +kernel
theorem dX12_ending_83 : decode cX12_ending 83 = .ok (.getfield 9, 3) := by decide +kernel
theorem dX12_ending_86 : decode cX12_ending 86 = .ok (.iload 5, 2) := by decide +kernel
theorem dX12_ending_88 : decode cX12_ending 88 = .ok (.iconst 1, 1) := by decide +kernel
theorem dX12_ending_89 : decode cX12_ending 89 = .ok (.iadd, 1) := by decide +kernel
theorem dX12_ending_90 : decode cX12_ending 90 = .ok (.iload 7, 2) := by decide +kernel
theorem dX12_ending_92 : decode cX12_ending 92 = .ok (.iadd, 1) := by decide +kernel
theorem dX12_ending_93 : decode cX12_ending 93 = .ok (.aload_n 0, 1) := by decide +kernel
theorem dX12_ending_94 : decode cX12_ending 94 = .ok (.getfield 16, 3) := by decide +kernel
theorem dX12_ending_97 : decode cX12_ending 97 = .ok (.iload 7, 2) := by decide +kernel
theorem dX12_ending_99 : decode cX12_ending 99 = .ok (.iaload, 1) := by decide +kernel
theorem dX12_ending_100 : decode cX12_ending 100 = .ok (.iastore, 1) := by decide +kernel
theorem dX12_ending_101 : decode cX12_ending 101 = .ok (.iinc 7 1, 3) := by decide +kernel
theorem dX12_ending_104 : decode cX12_ending 104 = .ok (.goto (-29), 3) := by decide +kernel
theorem dX12_ending_107 : decode cX12_ending 107 = .ok (.iload 6, 2) := by decide +kernel
theorem dX12_ending_109 : decode cX12_ending 109 = .ok (.ireturn, 1) := by decide +kernel
theorem dX12_joins_0 : decode cX12_joins 0 = .ok (.iload_n 2, 1) := by decide +kernel
theorem dX12_joins_1 : decode cX12_joins 1 = .ok (.ifCond .eq 44, 3) := by decide +kernel
theorem dX12_joins_4 : decode cX12_joins 4 = .ok (.aload_n 0, 1) := by decide +kernel
theorem dX12_joins_5 : decode cX12_joins 5 = .ok (.getfield 84, 3) := by decide +kernel
theorem dX12_joins_8 : decode cX12_joins 8 = .ok (.ifCond .le 37, 3) := by decide +kernel
theorem dX12_joins_11 : decode cX12_joins 11 = .ok (.iload_n 1, 1) := by decide +kernel
theorem dX12_joins_12 : decode cX12_joins 12 = .ok (.invokestatic 87, 3) := by decide +kernel
theorem dX12_joins_15 : decode cX12_joins 15 = .ok (.ifCond .eq 30, 3) := by decide +kernel
theorem dX12_joins_18 : decode cX12_joins 18 = .ok (.aload_n 0, 1) := by decide +kernel
theorem dX12_joins_19 : decode cX12_joins 19 = .ok (.getfield 19, 3) := by decide +kernel
theorem dX12_joins_22 : decode cX12_joins 22 = .ok (.aload_n 0, 1) := by decide +kernel
theorem dX12_joins_23 : decode cX12_joins 23 = .ok (.getfield 84, 3) := by decide +kernel
theorem dX12_joins_26 : decode cX12_joins 26 = .ok (.iconst 1, 1) := by decide +kernel
theorem dX12_joins_27 : decode cX12_joins 27 = .ok (.isub, 1) := by decide +kernel
theorem dX12_joins_28 : decode cX12_joins 28 = .ok (.iaload, 1) := by decide +kernel
theorem dX12_joins_29 : decode cX12_joins 29 = .ok (.invokestatic 87, 3) := by decide +kernel
theorem dX12_joins_32 : decode cX12_joins 32 = .ok (.ifCond .eq 13, 3) := by decide +kernel
theorem dX12_joins_35 : decode cX12_joins 35 = .ok (.aload_n 0, 1) := by decide +kernel
theorem dX12_joins_36 : decode cX12_joins 36 = .ok (.dup, 1) := by decide +kernel
theorem dX12_joins_37 : decode cX12_joins 37 = .ok (.getfield 84, 3) := by decide +kernel
theorem dX12_joins_40 : decode cX12_joins 40 = .ok (.iconst 1, 1) := by decide +kernel
theorem dX12_joins_41 : decode cX12_joins 41 = .ok (.isub, 1) := by decide +kernel
theorem dX12_joins_42 : decode cX12_joins 42 = .ok (.putfield 84, 3) := by decide +kernel
theorem dX12_joins_45 : decode cX12_joins 45 = .ok (.aload_n 0, 1) := by decide +kernel
theorem dX12_joins_46 : decode cX12_joins 46 = .ok (.getfield 19, 3) := by decide +kernel
theorem dX12_joins_49 : decode cX12_joins 49 = .ok (.aload_n 0, 1) := by decide +kernel
theorem dX12_joins_50 : decode cX12_joins 50 = .ok (.getfield 84, 3) := by decide +kernel
theorem dX12_joins_53 : decode cX12_joins 53 = .ok (.iload_n 1, 1) := by decide +kernel
theorem dX12_joins_54 : decode cX12_joins 54 = .ok (.iastore, 1) := by decide +kernel
theorem dX12_joins_55 : decode cX12_joins 55 = .ok (.aload_n 0, 1) := by decide +kernel
theorem dX12_joins_56 : decode cX12_joins 56 = .ok (.dup, 1) := by decide +kernel
theorem dX12_joins_57 : decode cX12_joins 57 = .ok (.getfield 84, 3) := by decide +kernel
theorem dX12_joins_60 : decode cX12_joins 60 = .ok (.iconst 1, 1) := by decide +kernel
theorem dX12_joins_61 : decode cX12_joins 61 = .ok (.iadd, 1) := by decide +kernel
theorem dX12_joins_62 : decode cX12_joins 62 = .ok (.putfield 84, 3) := by decide +kernel
theorem dX12_joins_65 : decode cX12_joins 65 = .ok (.return_, 1) := by decide +kernel
theorem dX12_ends_0 : decode cX12_ends 0 = .ok (.iconst 0, 1) := by decide +kernel
theorem dX12_ends_1 : decode cX12_ends 1 = .ok (.istore_n 2, 1) := by decide +kernel
theorem dX12_ends_2 : decode cX12_ends 2 = .ok (.iload_n 2, 1) := by decide +kernel
theorem dX12_ends_3 : decode cX12_ends 3 = .ok (.aload_n 0, 1) := by decide +kernel
theorem dX12_ends_4 : decode cX12_ends 4 = .ok (.getfield 9, 3) := by decide +kernel
theorem dX12_ends_7 : decode cX12_ends 7 = .ok (.iload_n 1, 1) := by decide +kernel
theorem dX12_ends_8 : decode cX12_ends 8 = .ok (.iaload, 1) := by decide +kernel
theorem dX12_ends_9 : decode cX12_ends 9 = .ok (.if_icmp .ge 32, 3) := by decide +kernel
theorem dX12_ends_12 : decode cX12_ends 12 = .ok (.aload_n 0, 1) := by decide +kernel
theorem dX12_ends_13 : decode cX12_ends 13 = .ok (.aload_n 0, 1) := by decide +kernel
theorem dX12_ends_14 : decode cX12_ends 14 = .ok (.getfield 9, 3) := by decide +kernel
theorem dX12_ends_17 : decode cX12_ends 17 = .ok (.iload_n 1, 1) := by decide +kernel
theorem dX12_ends_18 : decode cX12_ends 18 = .ok (.iconst 1, 1) := by decide +kernel
theorem dX12_ends_19 : decode cX12_ends 19 = .ok (.iadd, 1) := by decide +kernel
theorem dX12_ends_20 : decode cX12_ends 20 = .ok (.iload_n 2, 1) := by decide +kernel
theorem dX12_ends_21 : decode cX12_ends 21 = .ok (.iadd, 1) := by decide +kernel
theorem dX12_ends_22 : decode cX12_ends 22 = .ok (.iaload, 1) := by decide +kernel
theorem dX12_ends_23 : decode cX12_ends 23 = .ok (.iload_n 2, 1) := by decide +kernel
theorem dX12_ends_24 : decode cX12_ends 24 = .ok (.ifCond .ne 7, 3) := by decide +kernel
theorem dX12_ends_27 : decode cX12_ends 27 = .ok (.iconst 1, 1) := by decide +kernel
theorem dX12_ends_28 : decode cX12_ends 28 = .ok (.goto 4, 3) := by decide +kernel
theorem dX12_ends_31 : decode cX12_ends 31 = .ok (.iconst 0, 1) := by decide +kernel
theorem dX12_ends_32 : decode cX12_ends 32 = .ok (.invokevirtual 91, 3) := by decide +kernel
theorem dX12_ends_35 : decode cX12_ends 35 = .ok (.iinc 2 1, 3) := by decide +kernel
theorem dX12_ends_38 : decode cX12_ends 38 = .ok (.goto (-36), 3) := by decide +kernel
theorem dX12_ends_41 : decode cX12_ends 41 = .ok (.return_, 1) := by decide +kernel
theorem dX12_forms_0 : decode cX12_forms 0 = .ok (.bipush 14, 2) := by decide +kernel
theorem dX12_forms_2 : decode cX12_forms 2 = .ok (.bipush 10, 2) := by decide +kernel
theorem dX12_forms_4 : decode cX12_forms 4 = .ok (.iload_n 1, 1) := by decide +kernel
theorem dX12_forms_5 : decode cX12_forms 5 = .ok (.imul, 1) := by decide +kernel
theorem dX12_forms_6 : decode cX12_forms 6 = .ok (.iadd, 1) := by decide +kernel
theorem dX12_forms_7 : decode cX12_forms 7 = .ok (.istore 6, 2) := by decide +kernel
theorem dX12_forms_9 : decode cX12_forms 9 = .ok (.aload_n 0, 1) := by decide +kernel
theorem dX12_forms_10 : decode cX12_forms 10 = .ok (.getfield 9, 3) := by decide +kernel
theorem dX12_forms_13 : decode cX12_forms 13 = .ok (.iload 6, 2) := by decide +kernel
theorem dX12_forms_15 : decode cX12_forms 15 = .ok (.iaload, 1) := by decide +kernel
theorem dX12_forms_16 : decode cX12_forms 16 = .ok (.istore 7, 2) := by decide +kernel
theorem dX12_forms_18 : decode cX12_forms 18 = .ok (.aload_n 0, 1) := by decide +kernel
theorem dX12_forms_19 : decode cX12_forms 19 = .ok (.iconst 0, 1) := by decide +kernel
theorem dX12_forms_20 : decode cX12_forms 20 = .ok (.putfield 84, 3) := by decide +kernel
theorem dX12_forms_23 : decode cX12_forms 23 = .ok (.iconst 0, 1) := by decide +kernel
theorem dX12_forms_24 : decode cX12_forms 24 = .ok (.istore 8, 2) := by decide +kernel
theorem dX12_forms_26 : decode cX12_forms 26 = .ok (.iload 8, 2) := by decide +kernel
theorem dX12_forms_28 : decode cX12_forms 28 = .ok (.aload_n 0, 1) := by decide +kernel
theorem dX12_forms_29 : decode cX12_forms 29 = .ok (.getfield 9, 3) := by decide +kernel
theorem dX12_forms_32 : decode cX12_forms 32 = .ok (.iload 6, 2) := by decide +kernel
theorem dX12_forms_34 : decode cX12_forms 34 = .ok (.iconst 3, 1) := by decide +kernel
theorem dX12_forms_35 : decode cX12_forms 35 = .ok (.iadd, 1) := by decide +kernel
theorem dX12_forms_36 : decode cX12_forms 36 = .ok (.iaload, 1) := by decide +kernel
theorem dX12_forms_37 : decode cX12_forms 37 = .ok (.if_icmp .ge 26, 3) := by decide +kernel
theorem dX12_forms_40 : decode cX12_forms 40 = .ok (.aload_n 0, 1) := by decide +kernel
theorem dX12_forms_41 : decode cX12_forms 41 = .ok (.aload_n 0, 1) := by decide +kernel
theorem dX12_forms_42 : decode cX12_forms 42 = .ok (.getfield 9, 3) := by decide +kernel
theorem dX12_forms_45 : decode cX12_forms 45 = .ok (.iload 6, 2) := by decide +kernel
theorem dX12_forms_47 : decode cX12_forms 47 = .ok (.iconst 4, 1) := by decide +kernel
theorem dX12_forms_48 : decode cX12_forms 48 = .ok (.iadd, 1) := by decide +kernel
theorem dX12_forms_49 : decode cX12_forms 49 = .ok (.iload 8, 2) := by decide +kernel
theorem dX12_forms_51 : decode cX12_forms 51 = .ok (.iadd, 1) := by decide +kernel
theorem dX12_forms_52 : decode cX12_forms 52 = .ok (.iaload, 1) := by decide +kernel
theorem dX12_forms_53 : decode cX12_forms 53 = .ok (.iconst 0, 1) := by decide +kernel
theorem dX12_forms_54 : decode cX12_forms 54 = .ok (.invokevirtual 91, 3) := by decide +kernel
theorem dX12_forms_57 : decode cX12_forms 57 = .ok (.iinc 8 1, 3) := by decide +kernel
theorem dX12_forms_60 : decode cX12_forms 60 = .ok (.goto (-34), 3) := by decide +kernel
theorem dX12_forms_63 : decode cX12_forms 63 = .ok (.iload 7, 2) := by decide +kernel
theorem dX12_forms_65 : decode cX12_forms 65 = .ok (.iconst 1, 1) := by decide +kernel
theorem dX12_forms_66 : decode cX12_forms 66 = .ok (.if_icmp .eq 9, 3) := by decide +kernel
theorem dX12_forms_69 : decode cX12_forms 69 = .ok (.iload 7, 2) := by decide +kernel
theorem dX12_forms_71 : decode cX12_forms 71 = .ok (.iconst 4, 1) := by decide +kernel
theorem dX12_forms_72 : decode cX12_forms 72 = .ok (.if_icmp .ne 21, 3) := by decide +kernel
theorem dX12_forms_75 : decode cX12_forms 75 = .ok (.aload_n 0, 1) := by decide +kernel
theorem dX12_forms_76 : decode cX12_forms 76 = .ok (.aload_n 0, 1) := by decide +kernel
theorem dX12_forms_77 : decode cX12_forms 77 = .ok (.getfield 9, 3) := by decide +kernel
theorem dX12_forms_80 : decode cX12_forms 80 = .ok (.iload 6, 2) := by decide +kernel
theorem dX12_forms_82 : decode cX12_forms 82 = .ok (.iconst 1, 1) := by decide +kernel
theorem dX12_forms_83 : decode cX12_forms 83 = .ok (.iadd, 1) := by decide +kernel
theorem dX12_forms_84 : decode cX12_forms 84 = .ok (.iaload, 1) := by decide +kernel
theorem dX12_forms_85 : decode cX12_forms 85 = .ok (.iload_n 2, 1) := by decide +kernel
theorem dX12_forms_86 : decode cX12_forms 86 = .ok (.iload_n 3, 1) := by decide +kernel
theorem dX12_forms_87 : decode cX12_forms 87 = .ok (.invokestatic 80, 3) := by decide +kernel
theorem dX12_forms_90 : decode cX12_forms 90 = .ok (.invokevirtual 95, 3) := by decide +kernel
theorem dX12_forms_93 : decode cX12_forms 93 = .ok (.iload 7, 2) := by decide +kernel
theorem dX12_forms_95 : decode cX12_forms 95 = .ok (.iconst 3, 1) := by decide +kernel
theorem dX12_forms_96 : decode cX12_forms 96 = .ok (.if_icmp .ne 21, 3) := by decide +kernel
theorem dX12_forms_99 : decode cX12_forms 99 = .ok (.aload_n 0, 1) := by decide +kernel
theorem dX12_forms_100 : decode cX12_forms 100 = .ok (.aload_n 0, 1) := by decide +kernel
theorem dX12_forms_101 : decode cX12_forms 101 = .ok (.getfield 9, 3) := by decide +kernel
theorem dX12_forms_104 : decode cX12_forms 104 = .ok (.iload 6, 2) := by decide +kernel
theorem dX12_forms_106 : decode cX12_forms 106 = .ok (.iconst 1, 1) := by decide +kernel
theorem dX12_forms_107 : decode cX12_forms 107 = .ok (.iadd, 1) := by decide +kernel
theorem dX12_forms_108 : decode cX12_forms 108 = .ok (.iaload, 1) := by decide +kernel
theorem dX12_forms_109 : decode cX12_forms 109 = .ok (.iload_n 2, 1) := by decide +kernel
theorem dX12_forms_110 : decode cX12_forms 110 = .ok (.iconst 0, 1) := by decide +kernel
theorem dX12_forms_111 : decode cX12_forms 111 = .ok (.invokestatic 80, 3) := by decide +kernel
theorem dX12_forms_114 : decode cX12_forms 114 = .ok (.invokevirtual 95, 3) := by decide +kernel
theorem dX12_forms_117 : decode cX12_forms 117 = .ok (.iload 7, 2) := by decide +kernel
theorem dX12_forms_119 : decode cX12_forms 119 = .ok (.iconst 2, 1) := by decide +kernel
theorem dX12_forms_120 : decode cX12_forms 120 = .ok (.if_icmp .eq 9, 3) := by decide +kernel
theorem dX12_forms_123 : decode cX12_forms 123 = .ok (.iload 7, 2) := by decide +kernel
theorem dX12_forms_125 : decode cX12_forms 125 = .ok (.iconst 5, 1) := by decide +kernel
theorem dX12_forms_126 : decode cX12_forms 126 = .ok (.if_icmp .ne 22, 3) := by decide +kernel
theorem dX12_forms_129 : decode cX12_forms 129 = .ok (.aload_n 0, 1) := by decide +kernel
theorem dX12_forms_130 : decode cX12_forms 130 = .ok (.aload_n 0, 1) := by decide +kernel
theorem dX12_forms_131 : decode cX12_forms 131 = .ok (.getfield 9, 3) := by decide +kernel
theorem dX12_forms_134 : decode cX12_forms 134 = .ok (.iload 6, 2) := by decide +kernel
theorem dX12_forms_136 : decode cX12_forms 136 = .ok (.iconst 1, 1) := by decide +kernel
theorem dX12_forms_137 : decode cX12_forms 137 = .ok (.iadd, 1) := by decide +kernel
theorem dX12_forms_138 : decode cX12_forms 138 = .ok (.iaload, 1) := by decide +kernel
theorem dX12_forms_139 : decode cX12_forms 139 = .ok (.iload 5, 2) := by decide +kernel
theorem dX12_forms_141 : decode cX12_forms 141 = .ok (.iload_n 3, 1) := by decide +kernel
theorem dX12_forms_142 : decode cX12_forms 142 = .ok (.invokestatic 80, 3) := by decide +kernel
theorem dX12_forms_145 : decode cX12_forms 145 = .ok (.invokevirtual 95, 3) := by decide +kernel
theorem dX12_forms_148 : decode cX12_forms 148 = .ok (.iload 7, 2) := by decide +kernel
theorem dX12_forms_150 : decode cX12_forms 150 = .ok (.iconst 4, 1) := by decide +kernel
theorem dX12_forms_151 : decode cX12_forms 151 = .ok (.if_icmp .ne 31, 3) := by decide +kernel
theorem dX12_forms_154 : decode cX12_forms 154 = .ok (.aload_n 0, 1) := by decide +kernel
theorem dX12_forms_155 : decode cX12_forms 155 = .ok (.iload 4, 2) := by decide +kernel
theorem dX12_forms_157 : decode cX12_forms 157 = .ok (.ifCond .ne 8, 3) := by decide +kernel
theorem dX12_forms_160 : decode cX12_forms 160 = .ok (.bipush 111, 2) := by decide +kernel
theorem dX12_forms_162 : decode cX12_forms 162 = .ok (.goto 16, 3) := by decide +kernel
theorem dX12_forms_165 : decode cX12_forms 165 = .ok (.iload 4, 2) := by decide +kernel
theorem dX12_forms_167 : decode cX12_forms 167 = .ok (.iconst 1, 1) := by decide +kernel
theorem dX12_forms_168 : decode cX12_forms 168 = .ok (.if_icmp .ne 8, 3) := by decide +kernel
theorem dX12_forms_171 : decode cX12_forms 171 = .ok (.bipush 97, 2) := by decide +kernel
theorem dX12_forms_173 : decode cX12_forms 173 = .ok (.goto 5, 3) := by decide +kernel
theorem dX12_forms_176 : decode cX12_forms 176 = .ok (.bipush 101, 2) := by decide +kernel
theorem dX12_forms_178 : decode cX12_forms 178 = .ok (.iconst 1, 1) := by decide +kernel
theorem dX12_forms_179 : decode cX12_forms 179 = .ok (.invokevirtual 91, 3) := by decide +kernel
theorem dX12_forms_182 : decode cX12_forms 182 = .ok (.iload 7, 2) := by decide +kernel
theorem dX12_forms_184 : decode cX12_forms 184 = .ok (.iconst 5, 1) := by decide +kernel
theorem dX12_forms_185 : decode cX12_forms 185 = .ok (.if_icmp .ne 24, 3) := by decide +kernel
theorem dX12_forms_188 : decode cX12_forms 188 = .ok (.iload 5, 2) := by decide +kernel
theorem dX12_forms_190 : decode cX12_forms 190 = .ok (.ifCond .eq 19, 3) := by decide +kernel
theorem dX12_forms_193 : decode cX12_forms 193 = .ok (.aload_n 0, 1) := by decide +kernel
theorem dX12_forms_194 : decode cX12_forms 194 = .ok (.aload_n 0, 1) := by decide +kernel
theorem dX12_forms_195 : decode cX12_forms 195 = .ok (.getfield 19, 3) := by decide +kernel
theorem dX12_forms_198 : decode cX12_forms 198 = .ok (.aload_n 0, 1) := by decide +kernel
theorem dX12_forms_199 : decode cX12_forms 199 = .ok (.getfield 84, 3) := by decide +kernel
theorem dX12_forms_202 : decode cX12_forms 202 = .ok (.iconst 1, 1) := by decide +kernel
theorem dX12_forms_203 : decode cX12_forms 203 = .ok (.isub, 1) := by decide +kernel
theorem dX12_forms_204 : decode cX12_forms 204 = .ok (.iaload, 1) := by decide +kernel
theorem dX12_forms_205 : decode cX12_forms 205 = .ok (.iconst 0, 1) := by decide +kernel
theorem dX12_forms_206 : decode cX12_forms 206 = .ok (.invokevirtual 91, 3) := by decide +kernel
theorem dX12_forms_209 : decode cX12_forms 209 = .ok (.return_, 1) := by decide +kernel
theorem dX12_told_0 : decode cX12_told 0 = .ok (.aload_n 0, 1) := by decide +kernel
theorem dX12_told_1 : decode cX12_told 1 = .ok (.iload_n 1, 1) := by decide +kernel
theorem dX12_told_2 : decode cX12_told 2 = .ok (.invokevirtual 98, 3) := by decide +kernel
theorem dX12_told_5 : decode cX12_told 5 = .ok (.ifCond .eq 29, 3) := by decide +kernel
theorem dX12_told_8 : decode cX12_told 8 = .ok (.iload_n 2, 1) := by decide +kernel
theorem dX12_told_9 : decode cX12_told 9 = .ok (.iconst 0, 1) := by decide +kernel
theorem dX12_told_10 : decode cX12_told 10 = .ok (.iconst 3, 1) := by decide +kernel
theorem dX12_told_11 : decode cX12_told 11 = .ok (.invokestatic 64, 3) := by decide +kernel
theorem dX12_told_14 : decode cX12_told 14 = .ok (.ifCond .eq 20, 3) := by decide +kernel
theorem dX12_told_17 : decode cX12_told 17 = .ok (.aload_n 0, 1) := by decide +kernel
theorem dX12_told_18 : decode cX12_told 18 = .ok (.getfield 9, 3) := by decide +kernel
theorem dX12_told_21 : decode cX12_told 21 = .ok (.bipush 14, 2) := by decide +kernel
theorem dX12_told_23 : decode cX12_told 23 = .ok (.bipush 10, 2) := by decide +kernel
theorem dX12_told_25 : decode cX12_told 25 = .ok (.iload_n 1, 1) := by decide +kernel
theorem dX12_told_26 : decode cX12_told 26 = .ok (.imul, 1) := by decide +kernel
theorem dX12_told_27 : decode cX12_told 27 = .ok (.iadd, 1) := by decide +kernel
theorem dX12_told_28 : decode cX12_told 28 = .ok (.iload_n 2, 1) := by decide +kernel
theorem dX12_told_29 : decode cX12_told 29 = .ok (.iadd, 1) := by decide +kernel
theorem dX12_told_30 : decode cX12_told 30 = .ok (.iaload, 1) := by decide +kernel
theorem dX12_told_31 : decode cX12_told 31 = .ok (.goto 5, 3) := by decide +kernel
theorem dX12_told_34 : decode cX12_told 34 = .ok (.bipush (-2), 2) := by decide +kernel
theorem dX12_told_36 : decode cX12_told 36 = .ok (.ireturn, 1) := by decide +kernel
theorem dX12_taken_0 : decode cX12_taken 0 = .ok (.aload_n 0, 1) := by decide +kernel
theorem dX12_taken_1 : decode cX12_taken 1 = .ok (.iload_n 1, 1) := by decide +kernel
theorem dX12_taken_2 : decode cX12_taken 2 = .ok (.invokevirtual 98, 3) := by decide +kernel
theorem dX12_taken_5 : decode cX12_taken 5 = .ok (.ifCond .eq 12, 3) := by decide +kernel
theorem dX12_taken_8 : decode cX12_taken 8 = .ok (.iload_n 2, 1) := by decide +kernel
theorem dX12_taken_9 : decode cX12_taken 9 = .ok (.iconst 0, 1) := by decide +kernel
theorem dX12_taken_10 : decode cX12_taken 10 = .ok (.iconst 5, 1) := by decide +kernel
theorem dX12_taken_11 : decode cX12_taken 11 = .ok (.invokestatic 64, 3) := by decide +kernel
theorem dX12_taken_14 : decode cX12_taken 14 = .ok (.ifCond .ne 6, 3) := by decide +kernel
theorem dX12_taken_17 : decode cX12_taken 17 = .ok (.bipush (-2), 2) := by decide +kernel
theorem dX12_taken_19 : decode cX12_taken 19 = .ok (.ireturn, 1) := by decide +kernel
theorem dX12_taken_20 : decode cX12_taken 20 = .ok (.aload_n 0, 1) := by decide +kernel
theorem dX12_taken_21 : decode cX12_taken 21 = .ok (.iload_n 1, 1) := by decide +kernel
theorem dX12_taken_22 : decode cX12_taken 22 = .ok (.invokevirtual 101, 3) := by decide +kernel
theorem dX12_taken_25 : decode cX12_taken 25 = .ok (.iload_n 2, 1) := by decide +kernel
theorem dX12_taken_26 : decode cX12_taken 26 = .ok (.invokestatic 104, 3) := by decide +kernel
theorem dX12_taken_29 : decode cX12_taken 29 = .ok (.ifCond .ne 6, 3) := by decide +kernel
theorem dX12_taken_32 : decode cX12_taken 32 = .ok (.bipush (-13), 2) := by decide +kernel
theorem dX12_taken_34 : decode cX12_taken 34 = .ok (.ireturn, 1) := by decide +kernel
theorem dX12_taken_35 : decode cX12_taken 35 = .ok (.aload_n 0, 1) := by decide +kernel
theorem dX12_taken_36 : decode cX12_taken 36 = .ok (.iload_n 1, 1) := by decide +kernel
theorem dX12_taken_37 : decode cX12_taken 37 = .ok (.iconst 1, 1) := by decide +kernel
theorem dX12_taken_38 : decode cX12_taken 38 = .ok (.iconst 1, 1) := by decide +kernel
theorem dX12_taken_39 : decode cX12_taken 39 = .ok (.aload_n 0, 1) := by decide +kernel
theorem dX12_taken_40 : decode cX12_taken 40 = .ok (.iload_n 1, 1) := by decide +kernel
theorem dX12_taken_41 : decode cX12_taken 41 = .ok (.invokevirtual 108, 3) := by decide +kernel
theorem dX12_taken_44 : decode cX12_taken 44 = .ok (.iconst 1, 1) := by decide +kernel
theorem dX12_taken_45 : decode cX12_taken 45 = .ok (.invokevirtual 111, 3) := by decide +kernel
theorem dX12_taken_48 : decode cX12_taken 48 = .ok (.aload_n 0, 1) := by decide +kernel
theorem dX12_taken_49 : decode cX12_taken 49 = .ok (.getfield 84, 3) := by decide +kernel
theorem dX12_taken_52 : decode cX12_taken 52 = .ok (.ireturn, 1) := by decide +kernel
theorem dX12_form_0 : decode cX12_form 0 = .ok (.aload_n 0, 1) := by decide +kernel
theorem dX12_form_1 : decode cX12_form 1 = .ok (.iload_n 1, 1) := by decide +kernel
theorem dX12_form_2 : decode cX12_form 2 = .ok (.invokevirtual 98, 3) := by decide +kernel
theorem dX12_form_5 : decode cX12_form 5 = .ok (.ifCond .eq 13, 3) := by decide +kernel
theorem dX12_form_8 : decode cX12_form 8 = .ok (.iload_n 2, 1) := by decide +kernel
theorem dX12_form_9 : decode cX12_form 9 = .ok (.iconst 0, 1) := by decide +kernel
theorem dX12_form_10 : decode cX12_form 10 = .ok (.bipush 95, 2) := by decide +kernel
theorem dX12_form_12 : decode cX12_form 12 = .ok (.invokestatic 64, 3) := by decide +kernel
theorem dX12_form_15 : decode cX12_form 15 = .ok (.ifCond .ne 6, 3) := by decide +kernel
theorem dX12_form_18 : decode cX12_form 18 = .ok (.bipush (-2), 2) := by decide +kernel
theorem dX12_form_20 : decode cX12_form 20 = .ok (.ireturn, 1) := by decide +kernel
theorem dX12_form_21 : decode cX12_form 21 = .ok (.aload_n 0, 1) := by decide +kernel
theorem dX12_form_22 : decode cX12_form 22 = .ok (.iload_n 1, 1) := by decide +kernel
theorem dX12_form_23 : decode cX12_form 23 = .ok (.iload_n 2, 1) := by decide +kernel
theorem dX12_form_24 : decode cX12_form 24 = .ok (.iconst 4, 1) := by decide +kernel
theorem dX12_form_25 : decode cX12_form 25 = .ok (.irem, 1) := by decide +kernel
theorem dX12_form_26 : decode cX12_form 26 = .ok (.iload_n 2, 1) := by decide +kernel
theorem dX12_form_27 : decode cX12_form 27 = .ok (.iconst 4, 1) := by decide +kernel
theorem dX12_form_28 : decode cX12_form 28 = .ok (.idiv, 1) := by decide +kernel
theorem dX12_form_29 : decode cX12_form 29 = .ok (.iconst 2, 1) := by decide +kernel
theorem dX12_form_30 : decode cX12_form 30 = .ok (.irem, 1) := by decide +kernel
theorem dX12_form_31 : decode cX12_form 31 = .ok (.iload_n 2, 1) := by decide +kernel
theorem dX12_form_32 : decode cX12_form 32 = .ok (.bipush 8, 2) := by decide +kernel
theorem dX12_form_34 : decode cX12_form 34 = .ok (.idiv, 1) := by decide +kernel
theorem dX12_form_35 : decode cX12_form 35 = .ok (.iconst 3, 1) := by decide +kernel
theorem dX12_form_36 : decode cX12_form 36 = .ok (.irem, 1) := by decide +kernel
theorem dX12_form_37 : decode cX12_form 37 = .ok (.iload_n 2, 1) := by decide +kernel
theorem dX12_form_38 : decode cX12_form 38 = .ok (.bipush 24, 2) := by decide +kernel
theorem dX12_form_40 : decode cX12_form 40 = .ok (.idiv, 1) := by decide +kernel
theorem dX12_form_41 : decode cX12_form 41 = .ok (.invokevirtual 111, 3) := by decide +kernel
theorem dX12_form_44 : decode cX12_form 44 = .ok (.iload_n 3, 1) := by decide +kernel
theorem dX12_form_45 : decode cX12_form 45 = .ok (.iconst (-1), 1) := by decide +kernel
theorem dX12_form_46 : decode cX12_form 46 = .ok (.if_icmp .ne 10, 3) := by decide +kernel
theorem dX12_form_49 : decode cX12_form 49 = .ok (.aload_n 0, 1) := by decide +kernel
theorem dX12_form_50 : decode cX12_form 50 = .ok (.getfield 84, 3) := by decide +kernel
theorem dX12_form_53 : decode cX12_form 53 = .ok (.goto 28, 3) := by decide +kernel
theorem dX12_form_56 : decode cX12_form 56 = .ok (.iload_n 3, 1) := by decide +kernel
theorem dX12_form_57 : decode cX12_form 57 = .ok (.iconst 0, 1) := by decide +kernel
theorem dX12_form_58 : decode cX12_form 58 = .ok (.aload_n 0, 1) := by decide +kernel
theorem dX12_form_59 : decode cX12_form 59 = .ok (.getfield 84, 3) := by decide +kernel
theorem dX12_form_62 : decode cX12_form 62 = .ok (.iconst 1, 1) := by decide +kernel
theorem dX12_form_63 : decode cX12_form 63 = .ok (.isub, 1) := by decide +kernel
theorem dX12_form_64 : decode cX12_form 64 = .ok (.invokestatic 64, 3) := by decide +kernel
theorem dX12_form_67 : decode cX12_form 67 = .ok (.ifCond .eq 12, 3) := by decide +kernel
theorem dX12_form_70 : decode cX12_form 70 = .ok (.aload_n 0, 1) := by decide +kernel
theorem dX12_form_71 : decode cX12_form 71 = .ok (.getfield 19, 3) := by decide +kernel
theorem dX12_form_74 : decode cX12_form 74 = .ok (.iload_n 3, 1) := by decide +kernel
theorem dX12_form_75 : decode cX12_form 75 = .ok (.iaload, 1) := by decide +kernel
theorem dX12_form_76 : decode cX12_form 76 = .ok (.goto 5, 3) := by decide +kernel
theorem dX12_form_79 : decode cX12_form 79 = .ok (.bipush (-12), 2) := by decide +kernel
theorem dX12_form_81 : decode cX12_form 81 = .ok (.ireturn, 1) := by decide +kernel
theorem dX12_holes_0 : decode cX12_holes 0 = .ok (.aload_n 0, 1) := by decide +kernel
theorem dX12_holes_1 : decode cX12_holes 1 = .ok (.getfield 9, 3) := by decide +kernel
theorem dX12_holes_4 : decode cX12_holes 4 = .ok (.sipush 342, 3) := by decide +kernel
theorem dX12_holes_7 : decode cX12_holes 7 = .ok (.bipush 25, 2) := by decide +kernel
theorem dX12_holes_9 : decode cX12_holes 9 = .ok (.iload_n 1, 1) := by decide +kernel
theorem dX12_holes_10 : decode cX12_holes 10 = .ok (.imul, 1) := by decide +kernel
theorem dX12_holes_11 : decode cX12_holes 11 = .ok (.iadd, 1) := by decide +kernel
theorem dX12_holes_12 : decode cX12_holes 12 = .ok (.iaload, 1) := by decide +kernel
theorem dX12_holes_13 : decode cX12_holes 13 = .ok (.ireturn, 1) := by decide +kernel
theorem dX12_ofHole_0 : decode cX12_ofHole 0 = .ok (.aload_n 0, 1) := by decide +kernel
theorem dX12_ofHole_1 : decode cX12_ofHole 1 = .ok (.getfield 9, 3) := by decide +kernel
theorem dX12_ofHole_4 : decode cX12_ofHole 4 = .ok (.sipush 342, 3) := by decide +kernel
theorem dX12_ofHole_7 : decode cX12_ofHole 7 = .ok (.bipush 25, 2) := by decide +kernel
theorem dX12_ofHole_9 : decode cX12_ofHole 9 = .ok (.iload_n 1, 1) := by decide +kernel
theorem dX12_ofHole_10 : decode cX12_ofHole 10 = .ok (.imul, 1) := by decide +kernel
theorem dX12_ofHole_11 : decode cX12_ofHole 11 = .ok (.iadd, 1) := by decide +kernel
theorem dX12_ofHole_12 : decode cX12_ofHole 12 = .ok (.iconst 1, 1) := by decide +kernel
theorem dX12_ofHole_13 : decode cX12_ofHole 13 = .ok (.iadd, 1) := by decide +kernel
theorem dX12_ofHole_14 : decode cX12_ofHole 14 = .ok (.iconst 4, 1) := by decide +kernel
theorem dX12_ofHole_15 : decode cX12_ofHole 15 = .ok (.iload_n 2, 1) := by decide +kernel
theorem dX12_ofHole_16 : decode cX12_ofHole 16 = .ok (.imul, 1) := by decide +kernel
theorem dX12_ofHole_17 : decode cX12_ofHole 17 = .ok (.iadd, 1) := by decide +kernel
theorem dX12_ofHole_18 : decode cX12_ofHole 18 = .ok (.iload_n 3, 1) := by decide +kernel
theorem dX12_ofHole_19 : decode cX12_ofHole 19 = .ok (.iadd, 1) := by decide +kernel
theorem dX12_ofHole_20 : decode cX12_ofHole 20 = .ok (.iaload, 1) := by decide +kernel
theorem dX12_ofHole_21 : decode cX12_ofHole 21 = .ok (.ireturn, 1) := by decide +kernel
theorem dX12_canBe_0 : decode cX12_canBe 0 = .ok (.aload_n 0, 1) := by decide +kernel
theorem dX12_canBe_1 : decode cX12_canBe 1 = .ok (.iload_n 1, 1) := by decide +kernel
theorem dX12_canBe_2 : decode cX12_canBe 2 = .ok (.iload_n 2, 1) := by decide +kernel
theorem dX12_canBe_3 : decode cX12_canBe 3 = .ok (.iconst 0, 1) := by decide +kernel
theorem dX12_canBe_4 : decode cX12_canBe 4 = .ok (.invokevirtual 115, 3) := by decide +kernel
theorem dX12_canBe_7 : decode cX12_canBe 7 = .ok (.istore 4, 2) := by decide +kernel
theorem dX12_canBe_9 : decode cX12_canBe 9 = .ok (.aload_n 0, 1) := by decide +kernel
theorem dX12_canBe_10 : decode cX12_canBe 10 = .ok (.iload_n 3, 1) := by decide +kernel
theorem dX12_canBe_11 : decode cX12_canBe 11 = .ok (.invokevirtual 101, 3) := by decide +kernel
theorem dX12_canBe_14 : decode cX12_canBe 14 = .ok (.istore 5, 2) := by decide +kernel
theorem dX12_canBe_16 : decode cX12_canBe 16 = .ok (.iload 4, 2) := by decide +kernel
theorem dX12_canBe_18 : decode cX12_canBe 18 = .ok (.bipush 110, 2) := by decide +kernel
theorem dX12_canBe_20 : decode cX12_canBe 20 = .ok (.if_icmp .ne 23, 3) := by decide +kernel
theorem dX12_canBe_23 : decode cX12_canBe 23 = .ok (.iload 5, 2) := by decide +kernel
theorem dX12_canBe_25 : decode cX12_canBe 25 = .ok (.iconst 1, 1) := by decide +kernel
theorem dX12_canBe_26 : decode cX12_canBe 26 = .ok (.if_icmp .eq 9, 3) := by decide +kernel
theorem dX12_canBe_29 : decode cX12_canBe 29 = .ok (.iload 5, 2) := by decide +kernel
theorem dX12_canBe_31 : decode cX12_canBe 31 = .ok (.iconst 3, 1) := by decide +kernel
theorem dX12_canBe_32 : decode cX12_canBe 32 = .ok (.if_icmp .ne 7, 3) := by decide +kernel
theorem dX12_canBe_35 : decode cX12_canBe 35 = .ok (.iconst 1, 1) := by decide +kernel
theorem dX12_canBe_36 : decode cX12_canBe 36 = .ok (.goto 71, 3) := by decide +kernel
theorem dX12_canBe_39 : decode cX12_canBe 39 = .ok (.iconst 0, 1) := by decide +kernel
theorem dX12_canBe_40 : decode cX12_canBe 40 = .ok (.goto 67, 3) := by decide +kernel
theorem dX12_canBe_43 : decode cX12_canBe 43 = .ok (.iload 4, 2) := by decide +kernel
theorem dX12_canBe_45 : decode cX12_canBe 45 = .ok (.bipush 118, 2) := by decide +kernel
theorem dX12_canBe_47 : decode cX12_canBe 47 = .ok (.if_icmp .ne 23, 3) := by decide +kernel
theorem dX12_canBe_50 : decode cX12_canBe 50 = .ok (.iload 5, 2) := by decide +kernel
theorem dX12_canBe_52 : decode cX12_canBe 52 = .ok (.iconst 2, 1) := by decide +kernel
theorem dX12_canBe_53 : decode cX12_canBe 53 = .ok (.if_icmp .eq 9, 3) := by decide +kernel
theorem dX12_canBe_56 : decode cX12_canBe 56 = .ok (.iload 5, 2) := by decide +kernel
theorem dX12_canBe_58 : decode cX12_canBe 58 = .ok (.iconst 5, 1) := by decide +kernel
theorem dX12_canBe_59 : decode cX12_canBe 59 = .ok (.if_icmp .ne 7, 3) := by decide +kernel
theorem dX12_canBe_62 : decode cX12_canBe 62 = .ok (.iconst 1, 1) := by decide +kernel
theorem dX12_canBe_63 : decode cX12_canBe 63 = .ok (.goto 44, 3) := by decide +kernel
theorem dX12_canBe_66 : decode cX12_canBe 66 = .ok (.iconst 0, 1) := by decide +kernel
theorem dX12_canBe_67 : decode cX12_canBe 67 = .ok (.goto 40, 3) := by decide +kernel
theorem dX12_canBe_70 : decode cX12_canBe 70 = .ok (.iload 4, 2) := by decide +kernel
theorem dX12_canBe_72 : decode cX12_canBe 72 = .ok (.bipush 102, 2) := by decide +kernel
theorem dX12_canBe_74 : decode cX12_canBe 74 = .ok (.if_icmp .ne 17, 3) := by decide +kernel
theorem dX12_canBe_77 : decode cX12_canBe 77 = .ok (.iload 5, 2) := by decide +kernel
theorem dX12_canBe_79 : decode cX12_canBe 79 = .ok (.iconst 4, 1) := by decide +kernel
theorem dX12_canBe_80 : decode cX12_canBe 80 = .ok (.if_icmp .ne 7, 3) := by decide +kernel
theorem dX12_canBe_83 : decode cX12_canBe 83 = .ok (.iconst 1, 1) := by decide +kernel
theorem dX12_canBe_84 : decode cX12_canBe 84 = .ok (.goto 23, 3) := by decide +kernel
theorem dX12_canBe_87 : decode cX12_canBe 87 = .ok (.iconst 0, 1) := by decide +kernel
theorem dX12_canBe_88 : decode cX12_canBe 88 = .ok (.goto 19, 3) := by decide +kernel
theorem dX12_canBe_91 : decode cX12_canBe 91 = .ok (.iload_n 3, 1) := by decide +kernel
theorem dX12_canBe_92 : decode cX12_canBe 92 = .ok (.aload_n 0, 1) := by decide +kernel
theorem dX12_canBe_93 : decode cX12_canBe 93 = .ok (.iload_n 1, 1) := by decide +kernel
theorem dX12_canBe_94 : decode cX12_canBe 94 = .ok (.iload_n 2, 1) := by decide +kernel
theorem dX12_canBe_95 : decode cX12_canBe 95 = .ok (.iconst 3, 1) := by decide +kernel
theorem dX12_canBe_96 : decode cX12_canBe 96 = .ok (.invokevirtual 115, 3) := by decide +kernel
theorem dX12_canBe_99 : decode cX12_canBe 99 = .ok (.if_icmp .ne 7, 3) := by decide +kernel
theorem dX12_canBe_102 : decode cX12_canBe 102 = .ok (.iconst 1, 1) := by decide +kernel
theorem dX12_canBe_103 : decode cX12_canBe 103 = .ok (.goto 4, 3) := by decide +kernel
theorem dX12_canBe_106 : decode cX12_canBe 106 = .ok (.iconst 0, 1) := by decide +kernel
theorem dX12_canBe_107 : decode cX12_canBe 107 = .ok (.ireturn, 1) := by decide +kernel
theorem dX12_here_0 : decode cX12_here 0 = .ok (.iload_n 1, 1) := by decide +kernel
theorem dX12_here_1 : decode cX12_here 1 = .ok (.aload_n 0, 1) := by decide +kernel
theorem dX12_here_2 : decode cX12_here 2 = .ok (.getfield 72, 3) := by decide +kernel
theorem dX12_here_5 : decode cX12_here 5 = .ok (.if_icmp .ge 12, 3) := by decide +kernel
theorem dX12_here_8 : decode cX12_here 8 = .ok (.aload_n 0, 1) := by decide +kernel
theorem dX12_here_9 : decode cX12_here 9 = .ok (.getfield 16, 3) := by decide +kernel
theorem dX12_here_12 : decode cX12_here 12 = .ok (.iload_n 1, 1) := by decide +kernel
theorem dX12_here_13 : decode cX12_here 13 = .ok (.iaload, 1) := by decide +kernel
theorem dX12_here_14 : decode cX12_here 14 = .ok (.goto 4, 3) := by decide +kernel
theorem dX12_here_17 : decode cX12_here 17 = .ok (.iconst (-1), 1) := by decide +kernel
theorem dX12_here_18 : decode cX12_here 18 = .ok (.ireturn, 1) := by decide +kernel
theorem dX12_isDigit_0 : decode cX12_isDigit 0 = .ok (.aload_n 0, 1) := by decide +kernel
theorem dX12_isDigit_1 : decode cX12_isDigit 1 = .ok (.iload_n 1, 1) := by decide +kernel
theorem dX12_isDigit_2 : decode cX12_isDigit 2 = .ok (.invokevirtual 118, 3) := by decide +kernel
theorem dX12_isDigit_5 : decode cX12_isDigit 5 = .ok (.bipush 48, 2) := by decide +kernel
theorem dX12_isDigit_7 : decode cX12_isDigit 7 = .ok (.bipush 48, 2) := by decide +kernel
theorem dX12_isDigit_9 : decode cX12_isDigit 9 = .ok (.iload_n 2, 1) := by decide +kernel
theorem dX12_isDigit_10 : decode cX12_isDigit 10 = .ok (.iadd, 1) := by decide +kernel
theorem dX12_isDigit_11 : decode cX12_isDigit 11 = .ok (.invokestatic 64, 3) := by decide +kernel
theorem dX12_isDigit_14 : decode cX12_isDigit 14 = .ok (.ireturn, 1) := by decide +kernel
theorem dX12_isBlank_0 : decode cX12_isBlank 0 = .ok (.iload_n 0, 1) := by decide +kernel
theorem dX12_isBlank_1 : decode cX12_isBlank 1 = .ok (.bipush 32, 2) := by decide +kernel
theorem dX12_isBlank_3 : decode cX12_isBlank 3 = .ok (.if_icmp .eq 9, 3) := by decide +kernel
theorem dX12_isBlank_6 : decode cX12_isBlank 6 = .ok (.iload_n 0, 1) := by decide +kernel
theorem dX12_isBlank_7 : decode cX12_isBlank 7 = .ok (.bipush 10, 2) := by decide +kernel
theorem dX12_isBlank_9 : decode cX12_isBlank 9 = .ok (.if_icmp .ne 7, 3) := by decide +kernel
theorem dX12_isBlank_12 : decode cX12_isBlank 12 = .ok (.iconst 1, 1) := by decide +kernel
theorem dX12_isBlank_13 : decode cX12_isBlank 13 = .ok (.goto 4, 3) := by decide +kernel
theorem dX12_isBlank_16 : decode cX12_isBlank 16 = .ok (.iconst 0, 1) := by decide +kernel
theorem dX12_isBlank_17 : decode cX12_isBlank 17 = .ok (.ireturn, 1) := by decide +kernel
theorem dX12_reads_0 : decode cX12_reads 0 = .ok (.aload_n 0, 1) := by decide +kernel
theorem dX12_reads_1 : decode cX12_reads 1 = .ok (.iload_n 2, 1) := by decide +kernel
theorem dX12_reads_2 : decode cX12_reads 2 = .ok (.invokevirtual 118, 3) := by decide +kernel
theorem dX12_reads_5 : decode cX12_reads 5 = .ok (.istore 4, 2) := by decide +kernel
theorem dX12_reads_7 : decode cX12_reads 7 = .ok (.aload_n 0, 1) := by decide +kernel
theorem dX12_reads_8 : decode cX12_reads 8 = .ok (.getfield 9, 3) := by decide +kernel
theorem dX12_reads_11 : decode cX12_reads 11 = .ok (.iload_n 1, 1) := by decide +kernel
theorem dX12_reads_12 : decode cX12_reads 12 = .ok (.iload 4, 2) := by decide +kernel
theorem dX12_reads_14 : decode cX12_reads 14 = .ok (.iastore, 1) := by decide +kernel
theorem dX12_reads_15 : decode cX12_reads 15 = .ok (.aload_n 0, 1) := by decide +kernel
theorem dX12_reads_16 : decode cX12_reads 16 = .ok (.getfield 9, 3) := by decide +kernel
theorem dX12_reads_19 : decode cX12_reads 19 = .ok (.iload_n 1, 1) := by decide +kernel
theorem dX12_reads_20 : decode cX12_reads 20 = .ok (.iconst 1, 1) := by decide +kernel
theorem dX12_reads_21 : decode cX12_reads 21 = .ok (.iadd, 1) := by decide +kernel
theorem dX12_reads_22 : decode cX12_reads 22 = .ok (.iconst (-1), 1) := by decide +kernel
theorem dX12_reads_23 : decode cX12_reads 23 = .ok (.iastore, 1) := by decide +kernel
theorem dX12_reads_24 : decode cX12_reads 24 = .ok (.aload_n 0, 1) := by decide +kernel
theorem dX12_reads_25 : decode cX12_reads 25 = .ok (.getfield 9, 3) := by decide +kernel
theorem dX12_reads_28 : decode cX12_reads 28 = .ok (.iload_n 1, 1) := by decide +kernel
theorem dX12_reads_29 : decode cX12_reads 29 = .ok (.iconst 2, 1) := by decide +kernel
theorem dX12_reads_30 : decode cX12_reads 30 = .ok (.iadd, 1) := by decide +kernel
theorem dX12_reads_31 : decode cX12_reads 31 = .ok (.iconst (-1), 1) := by decide +kernel
theorem dX12_reads_32 : decode cX12_reads 32 = .ok (.iastore, 1) := by decide +kernel
theorem dX12_reads_33 : decode cX12_reads 33 = .ok (.aload_n 0, 1) := by decide +kernel
theorem dX12_reads_34 : decode cX12_reads 34 = .ok (.getfield 9, 3) := by decide +kernel
theorem dX12_reads_37 : decode cX12_reads 37 = .ok (.iload_n 1, 1) := by decide +kernel
theorem dX12_reads_38 : decode cX12_reads 38 = .ok (.iconst 3, 1) := by decide +kernel
theorem dX12_reads_39 : decode cX12_reads 39 = .ok (.iadd, 1) := by decide +kernel
theorem dX12_reads_40 : decode cX12_reads 40 = .ok (.iconst (-1), 1) := by decide +kernel
theorem dX12_reads_41 : decode cX12_reads 41 = .ok (.iastore, 1) := by decide +kernel
theorem dX12_reads_42 : decode cX12_reads 42 = .ok (.aload_n 0, 1) := by decide +kernel
theorem dX12_reads_43 : decode cX12_reads 43 = .ok (.iload_n 2, 1) := by decide +kernel
theorem dX12_reads_44 : decode cX12_reads 44 = .ok (.iconst 1, 1) := by decide +kernel
theorem dX12_reads_45 : decode cX12_reads 45 = .ok (.iadd, 1) := by decide +kernel
theorem dX12_reads_46 : decode cX12_reads 46 = .ok (.putfield 121, 3) := by decide +kernel
theorem dX12_reads_49 : decode cX12_reads 49 = .ok (.iload 4, 2) := by decide +kernel
theorem dX12_reads_51 : decode cX12_reads 51 = .ok (.bipush 112, 2) := by decide +kernel
theorem dX12_reads_53 : decode cX12_reads 53 = .ok (.if_icmp .ne 33, 3) := by decide +kernel
theorem dX12_reads_56 : decode cX12_reads 56 = .ok (.aload_n 0, 1) := by decide +kernel
theorem dX12_reads_57 : decode cX12_reads 57 = .ok (.aload_n 0, 1) := by decide +kernel
theorem dX12_reads_58 : decode cX12_reads 58 = .ok (.getfield 121, 3) := by decide +kernel
theorem dX12_reads_61 : decode cX12_reads 61 = .ok (.bipush 9, 2) := by decide +kernel
theorem dX12_reads_63 : decode cX12_reads 63 = .ok (.invokevirtual 124, 3) := by decide +kernel
theorem dX12_reads_66 : decode cX12_reads 66 = .ok (.ifCond .ne 14, 3) := by decide +kernel
theorem dX12_reads_69 : decode cX12_reads 69 = .ok (.aload_n 0, 1) := by decide +kernel
theorem dX12_reads_70 : decode cX12_reads 70 = .ok (.aload_n 0, 1) := by decide +kernel
theorem dX12_reads_71 : decode cX12_reads 71 = .ok (.getfield 121, 3) := by decide +kernel
theorem dX12_reads_74 : decode cX12_reads 74 = .ok (.putfield 127, 3) := by decide +kernel
theorem dX12_reads_77 : decode cX12_reads 77 = .ok (.goto 8, 3) := by decide +kernel
theorem dX12_reads_80 : decode cX12_reads 80 = .ok (.aload_n 0, 1) := by decide +kernel
theorem dX12_reads_81 : decode cX12_reads 81 = .ok (.iload_n 1, 1) := by decide +kernel
theorem dX12_reads_82 : decode cX12_reads 82 = .ok (.invokevirtual 130, 3) := by decide +kernel
theorem dX12_reads_85 : decode cX12_reads 85 = .ok (.return_, 1) := by decide +kernel
theorem dX12_reads_86 : decode cX12_reads 86 = .ok (.aload_n 0, 1) := by decide +kernel
theorem dX12_reads_87 : decode cX12_reads 87 = .ok (.aload_n 0, 1) := by decide +kernel
theorem dX12_reads_88 : decode cX12_reads 88 = .ok (.getfield 121, 3) := by decide +kernel
theorem dX12_reads_91 : decode cX12_reads 91 = .ok (.iconst 2, 1) := by decide +kernel
theorem dX12_reads_92 : decode cX12_reads 92 = .ok (.invokevirtual 124, 3) := by decide +kernel
theorem dX12_reads_95 : decode cX12_reads 95 = .ok (.ifCond .eq 29, 3) := by decide +kernel
theorem dX12_reads_98 : decode cX12_reads 98 = .ok (.iload 4, 2) := by decide +kernel
theorem dX12_reads_100 : decode cX12_reads 100 = .ok (.bipush 110, 2) := by decide +kernel
theorem dX12_reads_102 : decode cX12_reads 102 = .ok (.if_icmp .ne 31, 3) := by decide +kernel
theorem dX12_reads_105 : decode cX12_reads 105 = .ok (.iload_n 3, 1) := by decide +kernel
theorem dX12_reads_106 : decode cX12_reads 106 = .ok (.aload_n 0, 1) := by decide +kernel
theorem dX12_reads_107 : decode cX12_reads 107 = .ok (.aload_n 0, 1) := by decide +kernel
theorem dX12_reads_108 : decode cX12_reads 108 = .ok (.getfield 121, 3) := by decide +kernel
theorem dX12_reads_111 : decode cX12_reads 111 = .ok (.invokevirtual 118, 3) := by decide +kernel
theorem dX12_reads_114 : decode cX12_reads 114 = .ok (.bipush 48, 2) := by decide +kernel
theorem dX12_reads_116 : decode cX12_reads 116 = .ok (.isub, 1) := by decide +kernel
theorem dX12_reads_117 : decode cX12_reads 117 = .ok (.ishr, 1) := by decide +kernel
theorem dX12_reads_118 : decode cX12_reads 118 = .ok (.iconst 1, 1) := by decide +kernel
theorem dX12_reads_119 : decode cX12_reads 119 = .ok (.iand, 1) := by decide +kernel
theorem dX12_reads_120 : decode cX12_reads 120 = .ok (.iconst 1, 1) := by decide +kernel
theorem dX12_reads_121 : decode cX12_reads 121 = .ok (.if_icmp .ne 12, 3) := by decide +kernel
theorem dX12_reads_124 : decode cX12_reads 124 = .ok (.aload_n 0, 1) := by decide +kernel
theorem dX12_reads_125 : decode cX12_reads 125 = .ok (.aload_n 0, 1) := by decide +kernel
theorem dX12_reads_126 : decode cX12_reads 126 = .ok (.getfield 121, 3) := by decide +kernel
theorem dX12_reads_129 : decode cX12_reads 129 = .ok (.putfield 127, 3) := by decide +kernel
theorem dX12_reads_132 : decode cX12_reads 132 = .ok (.return_, 1) := by decide +kernel
theorem dX12_reads_133 : decode cX12_reads 133 = .ok (.aload_n 0, 1) := by decide +kernel
theorem dX12_reads_134 : decode cX12_reads 134 = .ok (.getfield 9, 3) := by decide +kernel
theorem dX12_reads_137 : decode cX12_reads 137 = .ok (.iload_n 1, 1) := by decide +kernel
theorem dX12_reads_138 : decode cX12_reads 138 = .ok (.iconst 1, 1) := by decide +kernel
theorem dX12_reads_139 : decode cX12_reads 139 = .ok (.iadd, 1) := by decide +kernel
theorem dX12_reads_140 : decode cX12_reads 140 = .ok (.aload_n 0, 1) := by decide +kernel
theorem dX12_reads_141 : decode cX12_reads 141 = .ok (.aload_n 0, 1) := by decide +kernel
theorem dX12_reads_142 : decode cX12_reads 142 = .ok (.getfield 121, 3) := by decide +kernel
theorem dX12_reads_145 : decode cX12_reads 145 = .ok (.invokevirtual 118, 3) := by decide +kernel
theorem dX12_reads_148 : decode cX12_reads 148 = .ok (.bipush 48, 2) := by decide +kernel
theorem dX12_reads_150 : decode cX12_reads 150 = .ok (.isub, 1) := by decide +kernel
theorem dX12_reads_151 : decode cX12_reads 151 = .ok (.iastore, 1) := by decide +kernel
theorem dX12_reads_152 : decode cX12_reads 152 = .ok (.aload_n 0, 1) := by decide +kernel
theorem dX12_reads_153 : decode cX12_reads 153 = .ok (.dup, 1) := by decide +kernel
theorem dX12_reads_154 : decode cX12_reads 154 = .ok (.getfield 121, 3) := by decide +kernel
theorem dX12_reads_157 : decode cX12_reads 157 = .ok (.iconst 1, 1) := by decide +kernel
theorem dX12_reads_158 : decode cX12_reads 158 = .ok (.iadd, 1) := by decide +kernel
theorem dX12_reads_159 : decode cX12_reads 159 = .ok (.putfield 121, 3) := by decide +kernel
theorem dX12_reads_162 : decode cX12_reads 162 = .ok (.iload 4, 2) := by decide +kernel
theorem dX12_reads_164 : decode cX12_reads 164 = .ok (.bipush 118, 2) := by decide +kernel
theorem dX12_reads_166 : decode cX12_reads 166 = .ok (.if_icmp .ne 4, 3) := by decide +kernel
theorem dX12_reads_169 : decode cX12_reads 169 = .ok (.return_, 1) := by decide +kernel
theorem dX12_reads_170 : decode cX12_reads 170 = .ok (.aload_n 0, 1) := by decide +kernel
theorem dX12_reads_171 : decode cX12_reads 171 = .ok (.aload_n 0, 1) := by decide +kernel
theorem dX12_reads_172 : decode cX12_reads 172 = .ok (.getfield 121, 3) := by decide +kernel
theorem dX12_reads_175 : decode cX12_reads 175 = .ok (.iconst 3, 1) := by decide +kernel
theorem dX12_reads_176 : decode cX12_reads 176 = .ok (.invokevirtual 124, 3) := by decide +kernel
theorem dX12_reads_179 : decode cX12_reads 179 = .ok (.ifCond .ne 12, 3) := by decide +kernel
theorem dX12_reads_182 : decode cX12_reads 182 = .ok (.aload_n 0, 1) := by decide +kernel
theorem dX12_reads_183 : decode cX12_reads 183 = .ok (.aload_n 0, 1) := by decide +kernel
theorem dX12_reads_184 : decode cX12_reads 184 = .ok (.getfield 121, 3) := by decide +kernel
theorem dX12_reads_187 : decode cX12_reads 187 = .ok (.putfield 127, 3) := by decide +kernel
theorem dX12_reads_190 : decode cX12_reads 190 = .ok (.return_, 1) := by decide +kernel
theorem dX12_reads_191 : decode cX12_reads 191 = .ok (.aload_n 0, 1) := by decide +kernel
theorem dX12_reads_192 : decode cX12_reads 192 = .ok (.getfield 9, 3) := by decide +kernel
theorem dX12_reads_195 : decode cX12_reads 195 = .ok (.iload_n 1, 1) := by decide +kernel
theorem dX12_reads_196 : decode cX12_reads 196 = .ok (.iconst 2, 1) := by decide +kernel
theorem dX12_reads_197 : decode cX12_reads 197 = .ok (.iadd, 1) := by decide +kernel
theorem dX12_reads_198 : decode cX12_reads 198 = .ok (.aload_n 0, 1) := by decide +kernel
theorem dX12_reads_199 : decode cX12_reads 199 = .ok (.aload_n 0, 1) := by decide +kernel
theorem dX12_reads_200 : decode cX12_reads 200 = .ok (.getfield 121, 3) := by decide +kernel
theorem dX12_reads_203 : decode cX12_reads 203 = .ok (.invokevirtual 118, 3) := by decide +kernel
theorem dX12_reads_206 : decode cX12_reads 206 = .ok (.bipush 48, 2) := by decide +kernel
theorem dX12_reads_208 : decode cX12_reads 208 = .ok (.isub, 1) := by decide +kernel
theorem dX12_reads_209 : decode cX12_reads 209 = .ok (.iastore, 1) := by decide +kernel
theorem dX12_reads_210 : decode cX12_reads 210 = .ok (.aload_n 0, 1) := by decide +kernel
theorem dX12_reads_211 : decode cX12_reads 211 = .ok (.dup, 1) := by decide +kernel
theorem dX12_reads_212 : decode cX12_reads 212 = .ok (.getfield 121, 3) := by decide +kernel
theorem dX12_reads_215 : decode cX12_reads 215 = .ok (.iconst 1, 1) := by decide +kernel
theorem dX12_reads_216 : decode cX12_reads 216 = .ok (.iadd, 1) := by decide +kernel
theorem dX12_reads_217 : decode cX12_reads 217 = .ok (.putfield 121, 3) := by decide +kernel
theorem dX12_reads_220 : decode cX12_reads 220 = .ok (.return_, 1) := by decide +kernel
theorem dX12_readsWord_0 : decode cX12_readsWord 0 = .ok (.aload_n 0, 1) := by decide +kernel
theorem dX12_readsWord_1 : decode cX12_readsWord 1 = .ok (.getfield 121, 3) := by decide +kernel
theorem dX12_readsWord_4 : decode cX12_readsWord 4 = .ok (.istore_n 2, 1) := by decide +kernel
theorem dX12_readsWord_5 : decode cX12_readsWord 5 = .ok (.aload_n 0, 1) := by decide +kernel
theorem dX12_readsWord_6 : decode cX12_readsWord 6 = .ok (.iload_n 2, 1) := by decide +kernel
theorem dX12_readsWord_7 : decode cX12_readsWord 7 = .ok (.invokevirtual 118, 3) := by decide +kernel
theorem dX12_readsWord_10 : decode cX12_readsWord 10 = .ok (.bipush 48, 2) := by decide +kernel
theorem dX12_readsWord_12 : decode cX12_readsWord 12 = .ok (.isub, 1) := by decide +kernel
theorem dX12_readsWord_13 : decode cX12_readsWord 13 = .ok (.istore_n 3, 1) := by decide +kernel
theorem dX12_readsWord_14 : decode cX12_readsWord 14 = .ok (.aload_n 0, 1) := by decide +kernel
theorem dX12_readsWord_15 : decode cX12_readsWord 15 = .ok (.dup, 1) := by decide +kernel
theorem dX12_readsWord_16 : decode cX12_readsWord 16 = .ok (.getfield 121, 3) := by decide +kernel
theorem dX12_readsWord_19 : decode cX12_readsWord 19 = .ok (.iconst 1, 1) := by decide +kernel
theorem dX12_readsWord_20 : decode cX12_readsWord 20 = .ok (.iadd, 1) := by decide +kernel
theorem dX12_readsWord_21 : decode cX12_readsWord 21 = .ok (.putfield 121, 3) := by decide +kernel
theorem dX12_readsWord_24 : decode cX12_readsWord 24 = .ok (.aload_n 0, 1) := by decide +kernel
theorem dX12_readsWord_25 : decode cX12_readsWord 25 = .ok (.aload_n 0, 1) := by decide +kernel
theorem dX12_readsWord_26 : decode cX12_readsWord 26 = .ok (.getfield 121, 3) := by decide +kernel
theorem dX12_readsWord_29 : decode cX12_readsWord 29 = .ok (.bipush 9, 2) := by decide +kernel
theorem dX12_readsWord_31 : decode cX12_readsWord 31 = .ok (.invokevirtual 124, 3) := by decide +kernel
theorem dX12_readsWord_34 : decode cX12_readsWord 34 = .ok (.ifCond .eq 30, 3) := by decide +kernel
theorem dX12_readsWord_37 : decode cX12_readsWord 37 = .ok (.bipush 10, 2) := by decide +kernel
theorem dX12_readsWord_39 : decode cX12_readsWord 39 = .ok (.iload_n 3, 1) := by decide +kernel
theorem dX12_readsWord_40 : decode cX12_readsWord 40 = .ok (.imul, 1) := by decide +kernel
theorem dX12_readsWord_41 : decode cX12_readsWord 41 = .ok (.aload_n 0, 1) := by decide +kernel
theorem dX12_readsWord_42 : decode cX12_readsWord 42 = .ok (.aload_n 0, 1) := by decide +kernel
theorem dX12_readsWord_43 : decode cX12_readsWord 43 = .ok (.getfield 121, 3) := by decide +kernel
theorem dX12_readsWord_46 : decode cX12_readsWord 46 = .ok (.invokevirtual 118, 3) := by decide +kernel
theorem dX12_readsWord_49 : decode cX12_readsWord 49 = .ok (.iadd, 1) := by decide +kernel
theorem dX12_readsWord_50 : decode cX12_readsWord 50 = .ok (.bipush 48, 2) := by decide +kernel
theorem dX12_readsWord_52 : decode cX12_readsWord 52 = .ok (.isub, 1) := by decide +kernel
theorem dX12_readsWord_53 : decode cX12_readsWord 53 = .ok (.istore_n 3, 1) := by decide +kernel
theorem dX12_readsWord_54 : decode cX12_readsWord 54 = .ok (.aload_n 0, 1) := by decide +kernel
theorem dX12_readsWord_55 : decode cX12_readsWord 55 = .ok (.dup, 1) := by decide +kernel
theorem dX12_readsWord_56 : decode cX12_readsWord 56 = .ok (.getfield 121, 3) := by decide +kernel
theorem dX12_readsWord_59 : decode cX12_readsWord 59 = .ok (.iconst 1, 1) := by decide +kernel
theorem dX12_readsWord_60 : decode cX12_readsWord 60 = .ok (.iadd, 1) := by decide +kernel
theorem dX12_readsWord_61 : decode cX12_readsWord 61 = .ok (.putfield 121, 3) := by decide +kernel
theorem dX12_readsWord_64 : decode cX12_readsWord 64 = .ok (.aload_n 0, 1) := by decide +kernel
theorem dX12_readsWord_65 : decode cX12_readsWord 65 = .ok (.getfield 9, 3) := by decide +kernel
theorem dX12_readsWord_68 : decode cX12_readsWord 68 = .ok (.iload_n 1, 1) := by decide +kernel
theorem dX12_readsWord_69 : decode cX12_readsWord 69 = .ok (.iconst 3, 1) := by decide +kernel
theorem dX12_readsWord_70 : decode cX12_readsWord 70 = .ok (.iadd, 1) := by decide +kernel
theorem dX12_readsWord_71 : decode cX12_readsWord 71 = .ok (.iload_n 3, 1) := by decide +kernel
theorem dX12_readsWord_72 : decode cX12_readsWord 72 = .ok (.iastore, 1) := by decide +kernel
theorem dX12_readsWord_73 : decode cX12_readsWord 73 = .ok (.aload_n 0, 1) := by decide +kernel
theorem dX12_readsWord_74 : decode cX12_readsWord 74 = .ok (.iload_n 3, 1) := by decide +kernel
theorem dX12_readsWord_75 : decode cX12_readsWord 75 = .ok (.invokevirtual 98, 3) := by decide +kernel
theorem dX12_readsWord_78 : decode cX12_readsWord 78 = .ok (.ifCond .eq 11, 3) := by decide +kernel
theorem dX12_readsWord_81 : decode cX12_readsWord 81 = .ok (.aload_n 0, 1) := by decide +kernel
theorem dX12_readsWord_82 : decode cX12_readsWord 82 = .ok (.iload_n 3, 1) := by decide +kernel
theorem dX12_readsWord_83 : decode cX12_readsWord 83 = .ok (.invokevirtual 101, 3) := by decide +kernel
theorem dX12_readsWord_86 : decode cX12_readsWord 86 = .ok (.ifCond .eq 8, 3) := by decide +kernel
theorem dX12_readsWord_89 : decode cX12_readsWord 89 = .ok (.aload_n 0, 1) := by decide +kernel
theorem dX12_readsWord_90 : decode cX12_readsWord 90 = .ok (.iload_n 2, 1) := by decide +kernel
theorem dX12_readsWord_91 : decode cX12_readsWord 91 = .ok (.putfield 127, 3) := by decide +kernel
theorem dX12_readsWord_94 : decode cX12_readsWord 94 = .ok (.return_, 1) := by decide +kernel
theorem dX12_readsFrame_0 : decode cX12_readsFrame 0 = .ok (.iconst 0, 1) := by decide +kernel
theorem dX12_readsFrame_1 : decode cX12_readsFrame 1 = .ok (.istore_n 2, 1) := by decide +kernel
theorem dX12_readsFrame_2 : decode cX12_readsFrame 2 = .ok (.iconst 0, 1) := by decide +kernel
theorem dX12_readsFrame_3 : decode cX12_readsFrame 3 = .ok (.istore_n 3, 1) := by decide +kernel
theorem dX12_readsFrame_4 : decode cX12_readsFrame 4 = .ok (.iconst 0, 1) := by decide +kernel
theorem dX12_readsFrame_5 : decode cX12_readsFrame 5 = .ok (.istore 4, 2) := by decide +kernel
theorem dX12_readsFrame_7 : decode cX12_readsFrame 7 = .ok (.iconst 0, 1) := by decide +kernel
theorem dX12_readsFrame_8 : decode cX12_readsFrame 8 = .ok (.istore 5, 2) := by decide +kernel
theorem dX12_readsFrame_10 : decode cX12_readsFrame 10 = .ok (.aload_n 0, 1) := by decide +kernel
theorem dX12_readsFrame_11 : decode cX12_readsFrame 11 = .ok (.iconst (-1), 1) := by decide +kernel
theorem dX12_readsFrame_12 : decode cX12_readsFrame 12 = .ok (.putfield 127, 3) := by decide +kernel
theorem dX12_readsFrame_15 : decode cX12_readsFrame 15 = .ok (.iload_n 3, 1) := by decide +kernel
theorem dX12_readsFrame_16 : decode cX12_readsFrame 16 = .ok (.aload_n 0, 1) := by decide +kernel
theorem dX12_readsFrame_17 : decode cX12_readsFrame 17 = .ok (.getfield 72, 3) := by decide +kernel
theorem dX12_readsFrame_20 : decode cX12_readsFrame 20 = .ok (.if_icmp .ge 149, 3) := by decide +kernel
theorem dX12_readsFrame_23 : decode cX12_readsFrame 23 = .ok (.aload_n 0, 1) := by decide +kernel
theorem dX12_readsFrame_24 : decode cX12_readsFrame 24 = .ok (.getfield 127, 3) := by decide +kernel
theorem dX12_readsFrame_27 : decode cX12_readsFrame 27 = .ok (.ifCond .ge 142, 3) := by decide +kernel
theorem dX12_readsFrame_30 : decode cX12_readsFrame 30 = .ok (.aload_n 0, 1) := by decide +kernel
theorem dX12_readsFrame_31 : decode cX12_readsFrame 31 = .ok (.iload_n 3, 1) := by decide +kernel
theorem dX12_readsFrame_32 : decode cX12_readsFrame 32 = .ok (.invokevirtual 118, 3) := by decide +kernel
theorem dX12_readsFrame_35 : decode cX12_readsFrame 35 = .ok (.istore 6, 2) := by decide +kernel
theorem dX12_readsFrame_37 : decode cX12_readsFrame 37 = .ok (.iload 6, 2) := by decide +kernel
theorem dX12_readsFrame_39 : decode cX12_readsFrame 39 = .ok (.invokestatic 133, 3) := by decide +kernel
theorem dX12_readsFrame_42 : decode cX12_readsFrame 42 = .ok (.ifCond .eq 9, 3) := by decide +kernel
theorem dX12_readsFrame_45 : decode cX12_readsFrame 45 = .ok (.iinc 3 1, 3) := by decide +kernel
theorem dX12_readsFrame_48 : decode cX12_readsFrame 48 = .ok (.goto (-33), 3) := by decide +kernel
theorem dX12_readsFrame_51 : decode cX12_readsFrame 51 = .ok (.iload_n 2, 1) := by decide +kernel
theorem dX12_readsFrame_52 : decode cX12_readsFrame 52 = .ok (.bipush 6, 2) := by decide +kernel
theorem dX12_readsFrame_54 : decode cX12_readsFrame 54 = .ok (.if_icmp .eq 31, 3) := by decide +kernel
theorem dX12_readsFrame_57 : decode cX12_readsFrame 57 = .ok (.iload 6, 2) := by decide +kernel
theorem dX12_readsFrame_59 : decode cX12_readsFrame 59 = .ok (.bipush 110, 2) := by decide +kernel
theorem dX12_readsFrame_61 : decode cX12_readsFrame 61 = .ok (.if_icmp .eq 30, 3) := by decide +kernel
theorem dX12_readsFrame_64 : decode cX12_readsFrame 64 = .ok (.iload 6, 2) := by decide +kernel
theorem dX12_readsFrame_66 : decode cX12_readsFrame 66 = .ok (.bipush 118, 2) := by decide +kernel
theorem dX12_readsFrame_68 : decode cX12_readsFrame 68 = .ok (.if_icmp .eq 23, 3) := by decide +kernel
theorem dX12_readsFrame_71 : decode cX12_readsFrame 71 = .ok (.iload 6, 2) := by decide +kernel
theorem dX12_readsFrame_73 : decode cX12_readsFrame 73 = .ok (.bipush 102, 2) := by decide +kernel
theorem dX12_readsFrame_75 : decode cX12_readsFrame 75 = .ok (.if_icmp .eq 16, 3) := by decide +kernel
theorem dX12_readsFrame_78 : decode cX12_readsFrame 78 = .ok (.iload 6, 2) := by decide +kernel
theorem dX12_readsFrame_80 : decode cX12_readsFrame 80 = .ok (.bipush 112, 2) := by decide +kernel
theorem dX12_readsFrame_82 : decode cX12_readsFrame 82 = .ok (.if_icmp .eq 9, 3) := by decide +kernel
theorem dX12_readsFrame_85 : decode cX12_readsFrame 85 = .ok (.aload_n 0, 1) := by decide +kernel
theorem dX12_readsFrame_86 : decode cX12_readsFrame 86 = .ok (.iload_n 3, 1) := by decide +kernel
theorem dX12_readsFrame_87 : decode cX12_readsFrame 87 = .ok (.putfield 127, 3) := by decide +kernel
theorem dX12_readsFrame_90 : decode cX12_readsFrame 90 = .ok (.return_, 1) := by decide +kernel
theorem dX12_readsFrame_91 : decode cX12_readsFrame 91 = .ok (.iload_n 1, 1) := by decide +kernel
theorem dX12_readsFrame_92 : decode cX12_readsFrame 92 = .ok (.iconst 1, 1) := by decide +kernel
theorem dX12_readsFrame_93 : decode cX12_readsFrame 93 = .ok (.iadd, 1) := by decide +kernel
theorem dX12_readsFrame_94 : decode cX12_readsFrame 94 = .ok (.iconst 4, 1) := by decide +kernel
theorem dX12_readsFrame_95 : decode cX12_readsFrame 95 = .ok (.iload_n 2, 1) := by decide +kernel
theorem dX12_readsFrame_96 : decode cX12_readsFrame 96 = .ok (.imul, 1) := by decide +kernel
theorem dX12_readsFrame_97 : decode cX12_readsFrame 97 = .ok (.iadd, 1) := by decide +kernel
theorem dX12_readsFrame_98 : decode cX12_readsFrame 98 = .ok (.istore 7, 2) := by decide +kernel
theorem dX12_readsFrame_100 : decode cX12_readsFrame 100 = .ok (.aload_n 0, 1) := by decide +kernel
theorem dX12_readsFrame_101 : decode cX12_readsFrame 101 = .ok (.iload 7, 2) := by decide +kernel
theorem dX12_readsFrame_103 : decode cX12_readsFrame 103 = .ok (.iload_n 3, 1) := by decide +kernel
theorem dX12_readsFrame_104 : decode cX12_readsFrame 104 = .ok (.iload 4, 2) := by decide +kernel
theorem dX12_readsFrame_106 : decode cX12_readsFrame 106 = .ok (.invokevirtual 136, 3) := by decide +kernel
theorem dX12_readsFrame_109 : decode cX12_readsFrame 109 = .ok (.aload_n 0, 1) := by decide +kernel
theorem dX12_readsFrame_110 : decode cX12_readsFrame 110 = .ok (.getfield 127, 3) := by decide +kernel
theorem dX12_readsFrame_113 : decode cX12_readsFrame 113 = .ok (.ifCond .lt 4, 3) := by decide +kernel
theorem dX12_readsFrame_116 : decode cX12_readsFrame 116 = .ok (.return_, 1) := by decide +kernel
theorem dX12_readsFrame_117 : decode cX12_readsFrame 117 = .ok (.aload_n 0, 1) := by decide +kernel
theorem dX12_readsFrame_118 : decode cX12_readsFrame 118 = .ok (.getfield 9, 3) := by decide +kernel
theorem dX12_readsFrame_121 : decode cX12_readsFrame 121 = .ok (.iload 7, 2) := by decide +kernel
theorem dX12_readsFrame_123 : decode cX12_readsFrame 123 = .ok (.iconst 1, 1) := by decide +kernel
theorem dX12_readsFrame_124 : decode cX12_readsFrame 124 = .ok (.iadd, 1) := by decide +kernel
theorem dX12_readsFrame_125 : decode cX12_readsFrame 125 = .ok (.iaload, 1) := by decide +kernel
theorem dX12_readsFrame_126 : decode cX12_readsFrame 126 = .ok (.istore 8, 2) := by decide +kernel
theorem dX12_readsFrame_128 : decode cX12_readsFrame 128 = .ok (.iload 6, 2) := by decide +kernel
theorem dX12_readsFrame_130 : decode cX12_readsFrame 130 = .ok (.bipush 110, 2) := by decide +kernel
theorem dX12_readsFrame_132 : decode cX12_readsFrame 132 = .ok (.if_icmp .ne 12, 3) := by decide +kernel
theorem dX12_readsFrame_135 : decode cX12_readsFrame 135 = .ok (.iload 4, 2) := by decide +kernel
theorem dX12_readsFrame_137 : decode cX12_readsFrame 137 = .ok (.iconst 1, 1) := by decide +kernel
theorem dX12_readsFrame_138 : decode cX12_readsFrame 138 = .ok (.iload 8, 2) := by decide +kernel
theorem dX12_readsFrame_140 : decode cX12_readsFrame 140 = .ok (.ishl, 1) := by decide +kernel
theorem dX12_readsFrame_141 : decode cX12_readsFrame 141 = .ok (.ior, 1) := by decide +kernel
theorem dX12_readsFrame_142 : decode cX12_readsFrame 142 = .ok (.istore 4, 2) := by decide +kernel
theorem dX12_readsFrame_144 : decode cX12_readsFrame 144 = .ok (.iload 8, 2) := by decide +kernel
theorem dX12_readsFrame_146 : decode cX12_readsFrame 146 = .ok (.ifCond .lt 12, 3) := by decide +kernel
theorem dX12_readsFrame_149 : decode cX12_readsFrame 149 = .ok (.iload 5, 2) := by decide +kernel
theorem dX12_readsFrame_151 : decode cX12_readsFrame 151 = .ok (.iconst 1, 1) := by decide +kernel
theorem dX12_readsFrame_152 : decode cX12_readsFrame 152 = .ok (.iload 8, 2) := by decide +kernel
theorem dX12_readsFrame_154 : decode cX12_readsFrame 154 = .ok (.ishl, 1) := by decide +kernel
theorem dX12_readsFrame_155 : decode cX12_readsFrame 155 = .ok (.ior, 1) := by decide +kernel
theorem dX12_readsFrame_156 : decode cX12_readsFrame 156 = .ok (.istore 5, 2) := by decide +kernel
theorem dX12_readsFrame_158 : decode cX12_readsFrame 158 = .ok (.iinc 2 1, 3) := by decide +kernel
theorem dX12_readsFrame_161 : decode cX12_readsFrame 161 = .ok (.aload_n 0, 1) := by decide +kernel
theorem dX12_readsFrame_162 : decode cX12_readsFrame 162 = .ok (.getfield 121, 3) := by decide +kernel
theorem dX12_readsFrame_165 : decode cX12_readsFrame 165 = .ok (.istore_n 3, 1) := by decide +kernel
theorem dX12_readsFrame_166 : decode cX12_readsFrame 166 = .ok (.goto (-151), 3) := by decide +kernel
theorem dX12_readsFrame_169 : decode cX12_readsFrame 169 = .ok (.aload_n 0, 1) := by decide +kernel
theorem dX12_readsFrame_170 : decode cX12_readsFrame 170 = .ok (.getfield 9, 3) := by decide +kernel
theorem dX12_readsFrame_173 : decode cX12_readsFrame 173 = .ok (.iload_n 1, 1) := by decide +kernel
theorem dX12_readsFrame_174 : decode cX12_readsFrame 174 = .ok (.iload_n 2, 1) := by decide +kernel
theorem dX12_readsFrame_175 : decode cX12_readsFrame 175 = .ok (.iastore, 1) := by decide +kernel
theorem dX12_readsFrame_176 : decode cX12_readsFrame 176 = .ok (.iload_n 2, 1) := by decide +kernel
theorem dX12_readsFrame_177 : decode cX12_readsFrame 177 = .ok (.ifCond .eq 10, 3) := by decide +kernel
theorem dX12_readsFrame_180 : decode cX12_readsFrame 180 = .ok (.iload 5, 2) := by decide +kernel
theorem dX12_readsFrame_182 : decode cX12_readsFrame 182 = .ok (.iload 4, 2) := by decide +kernel
theorem dX12_readsFrame_184 : decode cX12_readsFrame 184 = .ok (.if_icmp .eq 11, 3) := by decide +kernel
theorem dX12_readsFrame_187 : decode cX12_readsFrame 187 = .ok (.aload_n 0, 1) := by decide +kernel
theorem dX12_readsFrame_188 : decode cX12_readsFrame 188 = .ok (.aload_n 0, 1) := by decide +kernel
theorem dX12_readsFrame_189 : decode cX12_readsFrame 189 = .ok (.getfield 72, 3) := by decide +kernel
theorem dX12_readsFrame_192 : decode cX12_readsFrame 192 = .ok (.putfield 127, 3) := by decide +kernel
theorem dX12_readsFrame_195 : decode cX12_readsFrame 195 = .ok (.return_, 1) := by decide +kernel
theorem dX12_frame_0 : decode cX12_frame 0 = .ok (.aload_n 0, 1) := by decide +kernel
theorem dX12_frame_1 : decode cX12_frame 1 = .ok (.getfield 9, 3) := by decide +kernel
theorem dX12_frame_4 : decode cX12_frame 4 = .ok (.iconst 1, 1) := by decide +kernel
theorem dX12_frame_5 : decode cX12_frame 5 = .ok (.iaload, 1) := by decide +kernel
theorem dX12_frame_6 : decode cX12_frame 6 = .ok (.istore_n 1, 1) := by decide +kernel
theorem dX12_frame_7 : decode cX12_frame 7 = .ok (.sipush 342, 3) := by decide +kernel
theorem dX12_frame_10 : decode cX12_frame 10 = .ok (.bipush 25, 2) := by decide +kernel
theorem dX12_frame_12 : decode cX12_frame 12 = .ok (.iload_n 1, 1) := by decide +kernel
theorem dX12_frame_13 : decode cX12_frame 13 = .ok (.iconst 4, 1) := by decide +kernel
theorem dX12_frame_14 : decode cX12_frame 14 = .ok (.invokestatic 140, 3) := by decide +kernel
theorem dX12_frame_17 : decode cX12_frame 17 = .ok (.imul, 1) := by decide +kernel
theorem dX12_frame_18 : decode cX12_frame 18 = .ok (.iadd, 1) := by decide +kernel
theorem dX12_frame_19 : decode cX12_frame 19 = .ok (.istore_n 2, 1) := by decide +kernel
theorem dX12_frame_20 : decode cX12_frame 20 = .ok (.iconst 0, 1) := by decide +kernel
theorem dX12_frame_21 : decode cX12_frame 21 = .ok (.istore_n 3, 1) := by decide +kernel
theorem dX12_frame_22 : decode cX12_frame 22 = .ok (.iload_n 3, 1) := by decide +kernel
theorem dX12_frame_23 : decode cX12_frame 23 = .ok (.bipush 25, 2) := by decide +kernel
theorem dX12_frame_25 : decode cX12_frame 25 = .ok (.if_icmp .ge 23, 3) := by decide +kernel
theorem dX12_frame_28 : decode cX12_frame 28 = .ok (.aload_n 0, 1) := by decide +kernel
theorem dX12_frame_29 : decode cX12_frame 29 = .ok (.getfield 22, 3) := by decide +kernel
theorem dX12_frame_32 : decode cX12_frame 32 = .ok (.iload_n 3, 1) := by decide +kernel
theorem dX12_frame_33 : decode cX12_frame 33 = .ok (.aload_n 0, 1) := by decide +kernel
theorem dX12_frame_34 : decode cX12_frame 34 = .ok (.getfield 9, 3) := by decide +kernel
theorem dX12_frame_37 : decode cX12_frame 37 = .ok (.iload_n 2, 1) := by decide +kernel
theorem dX12_frame_38 : decode cX12_frame 38 = .ok (.iload_n 3, 1) := by decide +kernel
theorem dX12_frame_39 : decode cX12_frame 39 = .ok (.iadd, 1) := by decide +kernel
theorem dX12_frame_40 : decode cX12_frame 40 = .ok (.iaload, 1) := by decide +kernel
theorem dX12_frame_41 : decode cX12_frame 41 = .ok (.iastore, 1) := by decide +kernel
theorem dX12_frame_42 : decode cX12_frame 42 = .ok (.iinc 3 1, 3) := by decide +kernel
theorem dX12_frame_45 : decode cX12_frame 45 = .ok (.goto (-23), 3) := by decide +kernel
theorem dX12_frame_48 : decode cX12_frame 48 = .ok (.aload_n 0, 1) := by decide +kernel
theorem dX12_frame_49 : decode cX12_frame 49 = .ok (.iload_n 2, 1) := by decide +kernel
theorem dX12_frame_50 : decode cX12_frame 50 = .ok (.invokevirtual 145, 3) := by decide +kernel
theorem dX12_frame_53 : decode cX12_frame 53 = .ok (.aload_n 0, 1) := by decide +kernel
theorem dX12_frame_54 : decode cX12_frame 54 = .ok (.iconst 0, 1) := by decide +kernel
theorem dX12_frame_55 : decode cX12_frame 55 = .ok (.putfield 72, 3) := by decide +kernel
theorem dX12_frame_58 : decode cX12_frame 58 = .ok (.aload_n 0, 1) := by decide +kernel
theorem dX12_frame_59 : decode cX12_frame 59 = .ok (.getfield 127, 3) := by decide +kernel
theorem dX12_frame_62 : decode cX12_frame 62 = .ok (.ifCond .ge 20, 3) := by decide +kernel
theorem dX12_frame_65 : decode cX12_frame 65 = .ok (.iload_n 1, 1) := by decide +kernel
theorem dX12_frame_66 : decode cX12_frame 66 = .ok (.iconst 5, 1) := by decide +kernel
theorem dX12_frame_67 : decode cX12_frame 67 = .ok (.if_icmp .ge 15, 3) := by decide +kernel
theorem dX12_frame_70 : decode cX12_frame 70 = .ok (.aload_n 0, 1) := by decide +kernel
theorem dX12_frame_71 : decode cX12_frame 71 = .ok (.getfield 9, 3) := by decide +kernel
theorem dX12_frame_74 : decode cX12_frame 74 = .ok (.iconst 1, 1) := by decide +kernel
theorem dX12_frame_75 : decode cX12_frame 75 = .ok (.dup2, 1) := by decide +kernel
theorem dX12_frame_76 : decode cX12_frame 76 = .ok (.iaload, 1) := by decide +kernel
theorem dX12_frame_77 : decode cX12_frame 77 = .ok (.iconst 1, 1) := by decide +kernel
theorem dX12_frame_78 : decode cX12_frame 78 = .ok (.iadd, 1) := by decide +kernel
theorem dX12_frame_79 : decode cX12_frame 79 = .ok (.iastore, 1) := by decide +kernel
theorem dX12_frame_80 : decode cX12_frame 80 = .ok (.iload_n 1, 1) := by decide +kernel
theorem dX12_frame_81 : decode cX12_frame 81 = .ok (.ireturn, 1) := by decide +kernel
theorem dX12_frame_82 : decode cX12_frame 82 = .ok (.iconst 0, 1) := by decide +kernel
theorem dX12_frame_83 : decode cX12_frame 83 = .ok (.istore_n 3, 1) := by decide +kernel
theorem dX12_frame_84 : decode cX12_frame 84 = .ok (.iload_n 3, 1) := by decide +kernel
theorem dX12_frame_85 : decode cX12_frame 85 = .ok (.bipush 25, 2) := by decide +kernel
theorem dX12_frame_87 : decode cX12_frame 87 = .ok (.if_icmp .ge 23, 3) := by decide +kernel
theorem dX12_frame_90 : decode cX12_frame 90 = .ok (.aload_n 0, 1) := by decide +kernel
theorem dX12_frame_91 : decode cX12_frame 91 = .ok (.getfield 9, 3) := by decide +kernel
theorem dX12_frame_94 : decode cX12_frame 94 = .ok (.iload_n 2, 1) := by decide +kernel
theorem dX12_frame_95 : decode cX12_frame 95 = .ok (.iload_n 3, 1) := by decide +kernel
theorem dX12_frame_96 : decode cX12_frame 96 = .ok (.iadd, 1) := by decide +kernel
theorem dX12_frame_97 : decode cX12_frame 97 = .ok (.aload_n 0, 1) := by decide +kernel
theorem dX12_frame_98 : decode cX12_frame 98 = .ok (.getfield 22, 3) := by decide +kernel
theorem dX12_frame_101 : decode cX12_frame 101 = .ok (.iload_n 3, 1) := by decide +kernel
theorem dX12_frame_102 : decode cX12_frame 102 = .ok (.iaload, 1) := by decide +kernel
theorem dX12_frame_103 : decode cX12_frame 103 = .ok (.iastore, 1) := by decide +kernel
theorem dX12_frame_104 : decode cX12_frame 104 = .ok (.iinc 3 1, 3) := by decide +kernel
theorem dX12_frame_107 : decode cX12_frame 107 = .ok (.goto (-23), 3) := by decide +kernel
theorem dX12_frame_110 : decode cX12_frame 110 = .ok (.aload_n 0, 1) := by decide +kernel
theorem dX12_frame_111 : decode cX12_frame 111 = .ok (.getfield 127, 3) := by decide +kernel
theorem dX12_frame_114 : decode cX12_frame 114 = .ok (.ifCond .lt 13, 3) := by decide +kernel
theorem dX12_frame_117 : decode cX12_frame 117 = .ok (.bipush (-100), 2) := by decide +kernel
theorem dX12_frame_119 : decode cX12_frame 119 = .ok (.aload_n 0, 1) := by decide +kernel
theorem dX12_frame_120 : decode cX12_frame 120 = .ok (.getfield 127, 3) := by decide +kernel
theorem dX12_frame_123 : decode cX12_frame 123 = .ok (.isub, 1) := by decide +kernel
theorem dX12_frame_124 : decode cX12_frame 124 = .ok (.goto 5, 3) := by decide +kernel
theorem dX12_frame_127 : decode cX12_frame 127 = .ok (.bipush (-4), 2) := by decide +kernel
theorem dX12_frame_129 : decode cX12_frame 129 = .ok (.ireturn, 1) := by decide +kernel
theorem dX12_isFrame_0 : decode cX12_isFrame 0 = .ok (.iload_n 1, 1) := by decide +kernel
theorem dX12_isFrame_1 : decode cX12_isFrame 1 = .ok (.iconst 0, 1) := by decide +kernel
theorem dX12_isFrame_2 : decode cX12_isFrame 2 = .ok (.aload_n 0, 1) := by decide +kernel
theorem dX12_isFrame_3 : decode cX12_isFrame 3 = .ok (.getfield 9, 3) := by decide +kernel
theorem dX12_isFrame_6 : decode cX12_isFrame 6 = .ok (.iconst 1, 1) := by decide +kernel
theorem dX12_isFrame_7 : decode cX12_isFrame 7 = .ok (.iaload, 1) := by decide +kernel
theorem dX12_isFrame_8 : decode cX12_isFrame 8 = .ok (.iconst 1, 1) := by decide +kernel
theorem dX12_isFrame_9 : decode cX12_isFrame 9 = .ok (.isub, 1) := by decide +kernel
theorem dX12_isFrame_10 : decode cX12_isFrame 10 = .ok (.invokestatic 64, 3) := by decide +kernel
theorem dX12_isFrame_13 : decode cX12_isFrame 13 = .ok (.ireturn, 1) := by decide +kernel
theorem dX12_able_0 : decode cX12_able 0 = .ok (.iconst 0, 1) := by decide +kernel
theorem dX12_able_1 : decode cX12_able 1 = .ok (.istore_n 3, 1) := by decide +kernel
theorem dX12_able_2 : decode cX12_able 2 = .ok (.iconst 0, 1) := by decide +kernel
theorem dX12_able_3 : decode cX12_able 3 = .ok (.istore 4, 2) := by decide +kernel
theorem dX12_able_5 : decode cX12_able 5 = .ok (.iload 4, 2) := by decide +kernel
theorem dX12_able_7 : decode cX12_able 7 = .ok (.aload_n 0, 1) := by decide +kernel
theorem dX12_able_8 : decode cX12_able 8 = .ok (.getfield 9, 3) := by decide +kernel
theorem dX12_able_11 : decode cX12_able 11 = .ok (.iconst 0, 1) := by decide +kernel
theorem dX12_able_12 : decode cX12_able 12 = .ok (.iaload, 1) := by decide +kernel
theorem dX12_able_13 : decode cX12_able 13 = .ok (.if_icmp .ge 28, 3) := by decide +kernel
theorem dX12_able_16 : decode cX12_able 16 = .ok (.iload_n 3, 1) := by decide +kernel
theorem dX12_able_17 : decode cX12_able 17 = .ok (.aload_n 0, 1) := by decide +kernel
theorem dX12_able_18 : decode cX12_able 18 = .ok (.iload_n 1, 1) := by decide +kernel
theorem dX12_able_19 : decode cX12_able 19 = .ok (.iload_n 2, 1) := by decide +kernel
theorem dX12_able_20 : decode cX12_able 20 = .ok (.iload 4, 2) := by decide +kernel
theorem dX12_able_22 : decode cX12_able 22 = .ok (.invokevirtual 148, 3) := by decide +kernel
theorem dX12_able_25 : decode cX12_able 25 = .ok (.ifCond .eq 7, 3) := by decide +kernel
theorem dX12_able_28 : decode cX12_able 28 = .ok (.iconst 1, 1) := by decide +kernel
theorem dX12_able_29 : decode cX12_able 29 = .ok (.goto 4, 3) := by decide +kernel
theorem dX12_able_32 : decode cX12_able 32 = .ok (.iconst 0, 1) := by decide +kernel
theorem dX12_able_33 : decode cX12_able 33 = .ok (.iadd, 1) := by decide +kernel
theorem dX12_able_34 : decode cX12_able 34 = .ok (.istore_n 3, 1) := by decide +kernel
theorem dX12_able_35 : decode cX12_able 35 = .ok (.iinc 4 1, 3) := by decide +kernel
theorem dX12_able_38 : decode cX12_able 38 = .ok (.goto (-33), 3) := by decide +kernel
theorem dX12_able_41 : decode cX12_able 41 = .ok (.iload_n 3, 1) := by decide +kernel
theorem dX12_able_42 : decode cX12_able 42 = .ok (.ireturn, 1) := by decide +kernel
theorem dX12_hole_0 : decode cX12_hole 0 = .ok (.aload_n 0, 1) := by decide +kernel
theorem dX12_hole_1 : decode cX12_hole 1 = .ok (.iload_n 1, 1) := by decide +kernel
theorem dX12_hole_2 : decode cX12_hole 2 = .ok (.invokevirtual 151, 3) := by decide +kernel
theorem dX12_hole_5 : decode cX12_hole 5 = .ok (.ifCond .eq 12, 3) := by decide +kernel
theorem dX12_hole_8 : decode cX12_hole 8 = .ok (.iload_n 3, 1) := by decide +kernel
theorem dX12_hole_9 : decode cX12_hole 9 = .ok (.iconst 0, 1) := by decide +kernel
theorem dX12_hole_10 : decode cX12_hole 10 = .ok (.iconst 4, 1) := by decide +kernel
theorem dX12_hole_11 : decode cX12_hole 11 = .ok (.invokestatic 64, 3) := by decide +kernel
theorem dX12_hole_14 : decode cX12_hole 14 = .ok (.ifCond .ne 6, 3) := by decide +kernel
theorem dX12_hole_17 : decode cX12_hole 17 = .ok (.bipush (-2), 2) := by decide +kernel
theorem dX12_hole_19 : decode cX12_hole 19 = .ok (.ireturn, 1) := by decide +kernel
theorem dX12_hole_20 : decode cX12_hole 20 = .ok (.iload_n 2, 1) := by decide +kernel
theorem dX12_hole_21 : decode cX12_hole 21 = .ok (.iconst 0, 1) := by decide +kernel
theorem dX12_hole_22 : decode cX12_hole 22 = .ok (.aload_n 0, 1) := by decide +kernel
theorem dX12_hole_23 : decode cX12_hole 23 = .ok (.iload_n 1, 1) := by decide +kernel
theorem dX12_hole_24 : decode cX12_hole 24 = .ok (.invokevirtual 154, 3) := by decide +kernel
theorem dX12_hole_27 : decode cX12_hole 27 = .ok (.iconst 1, 1) := by decide +kernel
theorem dX12_hole_28 : decode cX12_hole 28 = .ok (.isub, 1) := by decide +kernel
theorem dX12_hole_29 : decode cX12_hole 29 = .ok (.invokestatic 64, 3) := by decide +kernel
theorem dX12_hole_32 : decode cX12_hole 32 = .ok (.ifCond .ne 6, 3) := by decide +kernel
theorem dX12_hole_35 : decode cX12_hole 35 = .ok (.bipush (-12), 2) := by decide +kernel
theorem dX12_hole_37 : decode cX12_hole 37 = .ok (.ireturn, 1) := by decide +kernel
theorem dX12_hole_38 : decode cX12_hole 38 = .ok (.iload_n 3, 1) := by decide +kernel
theorem dX12_hole_39 : decode cX12_hole 39 = .ok (.iconst 4, 1) := by decide +kernel
theorem dX12_hole_40 : decode cX12_hole 40 = .ok (.if_icmp .ne 10, 3) := by decide +kernel
theorem dX12_hole_43 : decode cX12_hole 43 = .ok (.aload_n 0, 1) := by decide +kernel
theorem dX12_hole_44 : decode cX12_hole 44 = .ok (.iload_n 1, 1) := by decide +kernel
theorem dX12_hole_45 : decode cX12_hole 45 = .ok (.iload_n 2, 1) := by decide +kernel
theorem dX12_hole_46 : decode cX12_hole 46 = .ok (.invokevirtual 157, 3) := by decide +kernel
theorem dX12_hole_49 : decode cX12_hole 49 = .ok (.ireturn, 1) := by decide +kernel
theorem dX12_hole_50 : decode cX12_hole 50 = .ok (.aload_n 0, 1) := by decide +kernel
theorem dX12_hole_51 : decode cX12_hole 51 = .ok (.iload_n 1, 1) := by decide +kernel
theorem dX12_hole_52 : decode cX12_hole 52 = .ok (.iload_n 2, 1) := by decide +kernel
theorem dX12_hole_53 : decode cX12_hole 53 = .ok (.iconst 0, 1) := by decide +kernel
theorem dX12_hole_54 : decode cX12_hole 54 = .ok (.invokevirtual 115, 3) := by decide +kernel
theorem dX12_hole_57 : decode cX12_hole 57 = .ok (.istore 4, 2) := by decide +kernel
theorem dX12_hole_59 : decode cX12_hole 59 = .ok (.iload_n 3, 1) := by decide +kernel
theorem dX12_hole_60 : decode cX12_hole 60 = .ok (.ifCond .le 13, 3) := by decide +kernel
theorem dX12_hole_63 : decode cX12_hole 63 = .ok (.aload_n 0, 1) := by decide +kernel
theorem dX12_hole_64 : decode cX12_hole 64 = .ok (.iload_n 1, 1) := by decide +kernel
theorem dX12_hole_65 : decode cX12_hole 65 = .ok (.iload_n 2, 1) := by decide +kernel
theorem dX12_hole_66 : decode cX12_hole 66 = .ok (.iload_n 3, 1) := by decide +kernel
theorem dX12_hole_67 : decode cX12_hole 67 = .ok (.invokevirtual 115, 3) := by decide +kernel
theorem dX12_hole_70 : decode cX12_hole 70 = .ok (.goto 37, 3) := by decide +kernel
theorem dX12_hole_73 : decode cX12_hole 73 = .ok (.iload 4, 2) := by decide +kernel
theorem dX12_hole_75 : decode cX12_hole 75 = .ok (.bipush 110, 2) := by decide +kernel
theorem dX12_hole_77 : decode cX12_hole 77 = .ok (.if_icmp .ne 7, 3) := by decide +kernel
theorem dX12_hole_80 : decode cX12_hole 80 = .ok (.iconst 0, 1) := by decide +kernel
theorem dX12_hole_81 : decode cX12_hole 81 = .ok (.goto 26, 3) := by decide +kernel
theorem dX12_hole_84 : decode cX12_hole 84 = .ok (.iload 4, 2) := by decide +kernel
theorem dX12_hole_86 : decode cX12_hole 86 = .ok (.bipush 118, 2) := by decide +kernel
theorem dX12_hole_88 : decode cX12_hole 88 = .ok (.if_icmp .ne 7, 3) := by decide +kernel
theorem dX12_hole_91 : decode cX12_hole 91 = .ok (.iconst 1, 1) := by decide +kernel
theorem dX12_hole_92 : decode cX12_hole 92 = .ok (.goto 15, 3) := by decide +kernel
theorem dX12_hole_95 : decode cX12_hole 95 = .ok (.iload 4, 2) := by decide +kernel
theorem dX12_hole_97 : decode cX12_hole 97 = .ok (.bipush 102, 2) := by decide +kernel
theorem dX12_hole_99 : decode cX12_hole 99 = .ok (.if_icmp .ne 7, 3) := by decide +kernel
theorem dX12_hole_102 : decode cX12_hole 102 = .ok (.iconst 2, 1) := by decide +kernel
theorem dX12_hole_103 : decode cX12_hole 103 = .ok (.goto 4, 3) := by decide +kernel
theorem dX12_hole_106 : decode cX12_hole 106 = .ok (.iconst 3, 1) := by decide +kernel
theorem dX12_hole_107 : decode cX12_hole 107 = .ok (.ireturn, 1) := by decide +kernel
theorem dX12_holeOf_0 : decode cX12_holeOf 0 = .ok (.iconst 0, 1) := by decide +kernel
theorem dX12_holeOf_1 : decode cX12_holeOf 1 = .ok (.istore_n 3, 1) := by decide +kernel
theorem dX12_holeOf_2 : decode cX12_holeOf 2 = .ok (.iload_n 3, 1) := by decide +kernel
theorem dX12_holeOf_3 : decode cX12_holeOf 3 = .ok (.aload_n 0, 1) := by decide +kernel
theorem dX12_holeOf_4 : decode cX12_holeOf 4 = .ok (.iload_n 1, 1) := by decide +kernel
theorem dX12_holeOf_5 : decode cX12_holeOf 5 = .ok (.invokevirtual 154, 3) := by decide +kernel
theorem dX12_holeOf_8 : decode cX12_holeOf 8 = .ok (.if_icmp .ge 34, 3) := by decide +kernel
theorem dX12_holeOf_11 : decode cX12_holeOf 11 = .ok (.aload_n 0, 1) := by decide +kernel
theorem dX12_holeOf_12 : decode cX12_holeOf 12 = .ok (.iload_n 1, 1) := by decide +kernel
theorem dX12_holeOf_13 : decode cX12_holeOf 13 = .ok (.iload_n 3, 1) := by decide +kernel
theorem dX12_holeOf_14 : decode cX12_holeOf 14 = .ok (.iconst 0, 1) := by decide +kernel
theorem dX12_holeOf_15 : decode cX12_holeOf 15 = .ok (.invokevirtual 115, 3) := by decide +kernel
theorem dX12_holeOf_18 : decode cX12_holeOf 18 = .ok (.bipush 110, 2) := by decide +kernel
theorem dX12_holeOf_20 : decode cX12_holeOf 20 = .ok (.if_icmp .ne 16, 3) := by decide +kernel
theorem dX12_holeOf_23 : decode cX12_holeOf 23 = .ok (.aload_n 0, 1) := by decide +kernel
theorem dX12_holeOf_24 : decode cX12_holeOf 24 = .ok (.iload_n 1, 1) := by decide +kernel
theorem dX12_holeOf_25 : decode cX12_holeOf 25 = .ok (.iload_n 3, 1) := by decide +kernel
theorem dX12_holeOf_26 : decode cX12_holeOf 26 = .ok (.iconst 1, 1) := by decide +kernel
theorem dX12_holeOf_27 : decode cX12_holeOf 27 = .ok (.invokevirtual 115, 3) := by decide +kernel
theorem dX12_holeOf_30 : decode cX12_holeOf 30 = .ok (.iload_n 2, 1) := by decide +kernel
theorem dX12_holeOf_31 : decode cX12_holeOf 31 = .ok (.if_icmp .ne 5, 3) := by decide +kernel
theorem dX12_holeOf_34 : decode cX12_holeOf 34 = .ok (.iload_n 3, 1) := by decide +kernel
theorem dX12_holeOf_35 : decode cX12_holeOf 35 = .ok (.ireturn, 1) := by decide +kernel
theorem dX12_holeOf_36 : decode cX12_holeOf 36 = .ok (.iinc 3 1, 3) := by decide +kernel
theorem dX12_holeOf_39 : decode cX12_holeOf 39 = .ok (.goto (-37), 3) := by decide +kernel
theorem dX12_holeOf_42 : decode cX12_holeOf 42 = .ok (.iconst (-1), 1) := by decide +kernel
theorem dX12_holeOf_43 : decode cX12_holeOf 43 = .ok (.ireturn, 1) := by decide +kernel
theorem dX12_isFilled_0 : decode cX12_isFilled 0 = .ok (.iconst 0, 1) := by decide +kernel
theorem dX12_isFilled_1 : decode cX12_isFilled 1 = .ok (.istore 4, 2) := by decide +kernel
theorem dX12_isFilled_3 : decode cX12_isFilled 3 = .ok (.iload 4, 2) := by decide +kernel
theorem dX12_isFilled_5 : decode cX12_isFilled 5 = .ok (.aload_n 0, 1) := by decide +kernel
theorem dX12_isFilled_6 : decode cX12_isFilled 6 = .ok (.iload_n 1, 1) := by decide +kernel
theorem dX12_isFilled_7 : decode cX12_isFilled 7 = .ok (.invokevirtual 154, 3) := by decide +kernel
theorem dX12_isFilled_10 : decode cX12_isFilled 10 = .ok (.if_icmp .ge 20, 3) := by decide +kernel
theorem dX12_isFilled_13 : decode cX12_isFilled 13 = .ok (.aload_n 3, 1) := by decide +kernel
theorem dX12_isFilled_14 : decode cX12_isFilled 14 = .ok (.iload_n 2, 1) := by decide +kernel
theorem dX12_isFilled_15 : decode cX12_isFilled 15 = .ok (.iload 4, 2) := by decide +kernel
theorem dX12_isFilled_17 : decode cX12_isFilled 17 = .ok (.iadd, 1) := by decide +kernel
theorem dX12_isFilled_18 : decode cX12_isFilled 18 = .ok (.iaload, 1) := by decide +kernel
theorem dX12_isFilled_19 : decode cX12_isFilled 19 = .ok (.ifCond .ge 5, 3) := by decide +kernel
theorem dX12_isFilled_22 : decode cX12_isFilled 22 = .ok (.iconst 0, 1) := by decide +kernel
theorem dX12_isFilled_23 : decode cX12_isFilled 23 = .ok (.ireturn, 1) := by decide +kernel
theorem dX12_isFilled_24 : decode cX12_isFilled 24 = .ok (.iinc 4 1, 3) := by decide +kernel
theorem dX12_isFilled_27 : decode cX12_isFilled 27 = .ok (.goto (-24), 3) := by decide +kernel
theorem dX12_isFilled_30 : decode cX12_isFilled 30 = .ok (.iconst 1, 1) := by decide +kernel
theorem dX12_isFilled_31 : decode cX12_isFilled 31 = .ok (.ireturn, 1) := by decide +kernel
theorem dX12_formsAt_0 : decode cX12_formsAt 0 = .ok (.aload 4, 2) := by decide +kernel
theorem dX12_formsAt_2 : decode cX12_formsAt 2 = .ok (.iload_n 3, 1) := by decide +kernel
theorem dX12_formsAt_3 : decode cX12_formsAt 3 = .ok (.iload_n 2, 1) := by decide +kernel
theorem dX12_formsAt_4 : decode cX12_formsAt 4 = .ok (.iadd, 1) := by decide +kernel
theorem dX12_formsAt_5 : decode cX12_formsAt 5 = .ok (.iaload, 1) := by decide +kernel
theorem dX12_formsAt_6 : decode cX12_formsAt 6 = .ok (.istore 7, 2) := by decide +kernel
theorem dX12_formsAt_8 : decode cX12_formsAt 8 = .ok (.aload_n 0, 1) := by decide +kernel
theorem dX12_formsAt_9 : decode cX12_formsAt 9 = .ok (.iload_n 1, 1) := by decide +kernel
theorem dX12_formsAt_10 : decode cX12_formsAt 10 = .ok (.iload_n 2, 1) := by decide +kernel
theorem dX12_formsAt_11 : decode cX12_formsAt 11 = .ok (.iconst 1, 1) := by decide +kernel
theorem dX12_formsAt_12 : decode cX12_formsAt 12 = .ok (.invokevirtual 115, 3) := by decide +kernel
theorem dX12_formsAt_15 : decode cX12_formsAt 15 = .ok (.istore 8, 2) := by decide +kernel
theorem dX12_formsAt_17 : decode cX12_formsAt 17 = .ok (.iload 8, 2) := by decide +kernel
theorem dX12_formsAt_19 : decode cX12_formsAt 19 = .ok (.ifCond .ge 14, 3) := by decide +kernel
theorem dX12_formsAt_22 : decode cX12_formsAt 22 = .ok (.aload_n 0, 1) := by decide +kernel
theorem dX12_formsAt_23 : decode cX12_formsAt 23 = .ok (.iload 7, 2) := by decide +kernel
theorem dX12_formsAt_25 : decode cX12_formsAt 25 = .ok (.iconst 0, 1) := by decide +kernel
theorem dX12_formsAt_26 : decode cX12_formsAt 26 = .ok (.iconst 0, 1) := by decide +kernel
theorem dX12_formsAt_27 : decode cX12_formsAt 27 = .ok (.iconst 0, 1) := by decide +kernel
theorem dX12_formsAt_28 : decode cX12_formsAt 28 = .ok (.iconst 0, 1) := by decide +kernel
theorem dX12_formsAt_29 : decode cX12_formsAt 29 = .ok (.invokevirtual 111, 3) := by decide +kernel
theorem dX12_formsAt_32 : decode cX12_formsAt 32 = .ok (.return_, 1) := by decide +kernel
theorem dX12_formsAt_33 : decode cX12_formsAt 33 = .ok (.aload 4, 2) := by decide +kernel
theorem dX12_formsAt_35 : decode cX12_formsAt 35 = .ok (.iload_n 3, 1) := by decide +kernel
theorem dX12_formsAt_36 : decode cX12_formsAt 36 = .ok (.aload_n 0, 1) := by decide +kernel
theorem dX12_formsAt_37 : decode cX12_formsAt 37 = .ok (.iload_n 1, 1) := by decide +kernel
theorem dX12_formsAt_38 : decode cX12_formsAt 38 = .ok (.iload 8, 2) := by decide +kernel
theorem dX12_formsAt_40 : decode cX12_formsAt 40 = .ok (.invokevirtual 160, 3) := by decide +kernel
theorem dX12_formsAt_43 : decode cX12_formsAt 43 = .ok (.iadd, 1) := by decide +kernel
theorem dX12_formsAt_44 : decode cX12_formsAt 44 = .ok (.iaload, 1) := by decide +kernel
theorem dX12_formsAt_45 : decode cX12_formsAt 45 = .ok (.istore 9, 2) := by decide +kernel
theorem dX12_formsAt_47 : decode cX12_formsAt 47 = .ok (.aload_n 0, 1) := by decide +kernel
theorem dX12_formsAt_48 : decode cX12_formsAt 48 = .ok (.iload 7, 2) := by decide +kernel
theorem dX12_formsAt_50 : decode cX12_formsAt 50 = .ok (.iconst 0, 1) := by decide +kernel
theorem dX12_formsAt_51 : decode cX12_formsAt 51 = .ok (.aload_n 0, 1) := by decide +kernel
theorem dX12_formsAt_52 : decode cX12_formsAt 52 = .ok (.iload_n 1, 1) := by decide +kernel
theorem dX12_formsAt_53 : decode cX12_formsAt 53 = .ok (.iload_n 2, 1) := by decide +kernel
theorem dX12_formsAt_54 : decode cX12_formsAt 54 = .ok (.iconst 2, 1) := by decide +kernel
theorem dX12_formsAt_55 : decode cX12_formsAt 55 = .ok (.invokevirtual 115, 3) := by decide +kernel
theorem dX12_formsAt_58 : decode cX12_formsAt 58 = .ok (.invokestatic 163, 3) := by decide +kernel
theorem dX12_formsAt_61 : decode cX12_formsAt 61 = .ok (.aload_n 0, 1) := by decide +kernel
theorem dX12_formsAt_62 : decode cX12_formsAt 62 = .ok (.iload 9, 2) := by decide +kernel
theorem dX12_formsAt_64 : decode cX12_formsAt 64 = .ok (.invokevirtual 101, 3) := by decide +kernel
theorem dX12_formsAt_67 : decode cX12_formsAt 67 = .ok (.iconst 3, 1) := by decide +kernel
theorem dX12_formsAt_68 : decode cX12_formsAt 68 = .ok (.if_icmp .ne 7, 3) := by decide +kernel
theorem dX12_formsAt_71 : decode cX12_formsAt 71 = .ok (.iconst 0, 1) := by decide +kernel
theorem dX12_formsAt_72 : decode cX12_formsAt 72 = .ok (.goto 10, 3) := by decide +kernel
theorem dX12_formsAt_75 : decode cX12_formsAt 75 = .ok (.iload 5, 2) := by decide +kernel
theorem dX12_formsAt_77 : decode cX12_formsAt 77 = .ok (.iload 8, 2) := by decide +kernel
theorem dX12_formsAt_79 : decode cX12_formsAt 79 = .ok (.ishr, 1) := by decide +kernel
theorem dX12_formsAt_80 : decode cX12_formsAt 80 = .ok (.iconst 1, 1) := by decide +kernel
theorem dX12_formsAt_81 : decode cX12_formsAt 81 = .ok (.iand, 1) := by decide +kernel
theorem dX12_formsAt_82 : decode cX12_formsAt 82 = .ok (.aload_n 0, 1) := by decide +kernel
theorem dX12_formsAt_83 : decode cX12_formsAt 83 = .ok (.iload 9, 2) := by decide +kernel
theorem dX12_formsAt_85 : decode cX12_formsAt 85 = .ok (.invokevirtual 108, 3) := by decide +kernel
theorem dX12_formsAt_88 : decode cX12_formsAt 88 = .ok (.iload 6, 2) := by decide +kernel
theorem dX12_formsAt_90 : decode cX12_formsAt 90 = .ok (.invokevirtual 111, 3) := by decide +kernel
theorem dX12_formsAt_93 : decode cX12_formsAt 93 = .ok (.return_, 1) := by decide +kernel
theorem dX12_says_0 : decode cX12_says 0 = .ok (.aload_n 0, 1) := by decide +kernel
theorem dX12_says_1 : decode cX12_says 1 = .ok (.iconst 0, 1) := by decide +kernel
theorem dX12_says_2 : decode cX12_says 2 = .ok (.putfield 166, 3) := by decide +kernel
theorem dX12_says_5 : decode cX12_says 5 = .ok (.iload_n 1, 1) := by decide +kernel
theorem dX12_says_6 : decode cX12_says 6 = .ok (.ifCond .lt 13, 3) := by decide +kernel
theorem dX12_says_9 : decode cX12_says 9 = .ok (.aload_n 0, 1) := by decide +kernel
theorem dX12_says_10 : decode cX12_says 10 = .ok (.iload_n 1, 1) := by decide +kernel
theorem dX12_says_11 : decode cX12_says 11 = .ok (.iload_n 2, 1) := by decide +kernel
theorem dX12_says_12 : decode cX12_says 12 = .ok (.aload_n 3, 1) := by decide +kernel
theorem dX12_says_13 : decode cX12_says 13 = .ok (.invokevirtual 169, 3) := by decide +kernel
theorem dX12_says_16 : decode cX12_says 16 = .ok (.ifCond .ne 4, 3) := by decide +kernel
theorem dX12_says_19 : decode cX12_says 19 = .ok (.return_, 1) := by decide +kernel
theorem dX12_says_20 : decode cX12_says 20 = .ok (.iconst 0, 1) := by decide +kernel
theorem dX12_says_21 : decode cX12_says 21 = .ok (.istore 6, 2) := by decide +kernel
theorem dX12_says_23 : decode cX12_says 23 = .ok (.iload 6, 2) := by decide +kernel
theorem dX12_says_25 : decode cX12_says 25 = .ok (.aload_n 0, 1) := by decide +kernel
theorem dX12_says_26 : decode cX12_says 26 = .ok (.iload_n 1, 1) := by decide +kernel
theorem dX12_says_27 : decode cX12_says 27 = .ok (.invokevirtual 154, 3) := by decide +kernel
theorem dX12_says_30 : decode cX12_says 30 = .ok (.if_icmp .ge 98, 3) := by decide +kernel
theorem dX12_says_33 : decode cX12_says 33 = .ok (.iload 6, 2) := by decide +kernel
theorem dX12_says_35 : decode cX12_says 35 = .ok (.ifCond .le 24, 3) := by decide +kernel
theorem dX12_says_38 : decode cX12_says 38 = .ok (.aload_n 0, 1) := by decide +kernel
theorem dX12_says_39 : decode cX12_says 39 = .ok (.getfield 25, 3) := by decide +kernel
theorem dX12_says_42 : decode cX12_says 42 = .ok (.aload_n 0, 1) := by decide +kernel
theorem dX12_says_43 : decode cX12_says 43 = .ok (.getfield 166, 3) := by decide +kernel
theorem dX12_says_46 : decode cX12_says 46 = .ok (.bipush 32, 2) := by decide +kernel
theorem dX12_says_48 : decode cX12_says 48 = .ok (.iastore, 1) := by decide +kernel
theorem dX12_says_49 : decode cX12_says 49 = .ok (.aload_n 0, 1) := by decide +kernel
theorem dX12_says_50 : decode cX12_says 50 = .ok (.dup, 1) := by decide +kernel
theorem dX12_says_51 : decode cX12_says 51 = .ok (.getfield 166, 3) := by decide +kernel
theorem dX12_says_54 : decode cX12_says 54 = .ok (.iconst 1, 1) := by decide +kernel
theorem dX12_says_55 : decode cX12_says 55 = .ok (.iadd, 1) := by decide +kernel
theorem dX12_says_56 : decode cX12_says 56 = .ok (.putfield 166, 3) := by decide +kernel
theorem dX12_says_59 : decode cX12_says 59 = .ok (.aload_n 0, 1) := by decide +kernel
theorem dX12_says_60 : decode cX12_says 60 = .ok (.iload_n 1, 1) := by decide +kernel
theorem dX12_says_61 : decode cX12_says 61 = .ok (.iload 6, 2) := by decide +kernel
theorem dX12_says_63 : decode cX12_says 63 = .ok (.iload_n 2, 1) := by decide +kernel
theorem dX12_says_64 : decode cX12_says 64 = .ok (.aload_n 3, 1) := by decide +kernel
theorem dX12_says_65 : decode cX12_says 65 = .ok (.iload 4, 2) := by decide +kernel
theorem dX12_says_67 : decode cX12_says 67 = .ok (.iload 5, 2) := by decide +kernel
theorem dX12_says_69 : decode cX12_says 69 = .ok (.invokevirtual 173, 3) := by decide +kernel
theorem dX12_says_72 : decode cX12_says 72 = .ok (.iconst 0, 1) := by decide +kernel
theorem dX12_says_73 : decode cX12_says 73 = .ok (.istore 7, 2) := by decide +kernel
theorem dX12_says_75 : decode cX12_says 75 = .ok (.iload 7, 2) := by decide +kernel
theorem dX12_says_77 : decode cX12_says 77 = .ok (.aload_n 0, 1) := by decide +kernel
theorem dX12_says_78 : decode cX12_says 78 = .ok (.getfield 84, 3) := by decide +kernel
theorem dX12_says_81 : decode cX12_says 81 = .ok (.if_icmp .ge 28, 3) := by decide +kernel
theorem dX12_says_84 : decode cX12_says 84 = .ok (.aload_n 0, 1) := by decide +kernel
theorem dX12_says_85 : decode cX12_says 85 = .ok (.getfield 25, 3) := by decide +kernel
theorem dX12_says_88 : decode cX12_says 88 = .ok (.aload_n 0, 1) := by decide +kernel
theorem dX12_says_89 : decode cX12_says 89 = .ok (.getfield 166, 3) := by decide +kernel
theorem dX12_says_92 : decode cX12_says 92 = .ok (.iload 7, 2) := by decide +kernel
theorem dX12_says_94 : decode cX12_says 94 = .ok (.iadd, 1) := by decide +kernel
theorem dX12_says_95 : decode cX12_says 95 = .ok (.aload_n 0, 1) := by decide +kernel
theorem dX12_says_96 : decode cX12_says 96 = .ok (.getfield 19, 3) := by decide +kernel
theorem dX12_says_99 : decode cX12_says 99 = .ok (.iload 7, 2) := by decide +kernel
theorem dX12_says_101 : decode cX12_says 101 = .ok (.iaload, 1) := by decide +kernel
theorem dX12_says_102 : decode cX12_says 102 = .ok (.iastore, 1) := by decide +kernel
theorem dX12_says_103 : decode cX12_says 103 = .ok (.iinc 7 1, 3) := by decide +kernel
theorem dX12_says_106 : decode cX12_says 106 = .ok (.goto (-31), 3) := by decide +kernel
theorem dX12_says_109 : decode cX12_says 109 = .ok (.aload_n 0, 1) := by decide +kernel
theorem dX12_says_110 : decode cX12_says 110 = .ok (.dup, 1) := by decide +kernel
theorem dX12_says_111 : decode cX12_says 111 = .ok (.getfield 166, 3) := by decide +kernel
theorem dX12_says_114 : decode cX12_says 114 = .ok (.aload_n 0, 1) := by decide +kernel
theorem dX12_says_115 : decode cX12_says 115 = .ok (.getfield 84, 3) := by decide +kernel
theorem dX12_says_118 : decode cX12_says 118 = .ok (.iadd, 1) := by decide +kernel
theorem dX12_says_119 : decode cX12_says 119 = .ok (.putfield 166, 3) := by decide +kernel
theorem dX12_says_122 : decode cX12_says 122 = .ok (.iinc 6 1, 3) := by decide +kernel
theorem dX12_says_125 : decode cX12_says 125 = .ok (.goto (-102), 3) := by decide +kernel
theorem dX12_says_128 : decode cX12_says 128 = .ok (.return_, 1) := by decide +kernel
theorem dX12_numbers_0 : decode cX12_numbers 0 = .ok (.aload_n 0, 1) := by decide +kernel
theorem dX12_numbers_1 : decode cX12_numbers 1 = .ok (.getfield 9, 3) := by decide +kernel
theorem dX12_numbers_4 : decode cX12_numbers 4 = .ok (.iconst 4, 1) := by decide +kernel
theorem dX12_numbers_5 : decode cX12_numbers 5 = .ok (.iaload, 1) := by decide +kernel
theorem dX12_numbers_6 : decode cX12_numbers 6 = .ok (.aload_n 0, 1) := by decide +kernel
theorem dX12_numbers_7 : decode cX12_numbers 7 = .ok (.getfield 9, 3) := by decide +kernel
theorem dX12_numbers_10 : decode cX12_numbers 10 = .ok (.iconst 5, 1) := by decide +kernel
theorem dX12_numbers_11 : decode cX12_numbers 11 = .ok (.iaload, 1) := by decide +kernel
theorem dX12_numbers_12 : decode cX12_numbers 12 = .ok (.iconst 1, 1) := by decide +kernel
theorem dX12_numbers_13 : decode cX12_numbers 13 = .ok (.ishl, 1) := by decide +kernel
theorem dX12_numbers_14 : decode cX12_numbers 14 = .ok (.ior, 1) := by decide +kernel
theorem dX12_numbers_15 : decode cX12_numbers 15 = .ok (.aload_n 0, 1) := by decide +kernel
