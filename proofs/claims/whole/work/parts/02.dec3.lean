theorem dX12_numbers_16 : decode cX12_numbers 16 = .ok (.getfield 9, 3) := by decide +kernel
theorem dX12_numbers_19 : decode cX12_numbers 19 = .ok (.bipush 6, 2) := by decide +kernel
theorem dX12_numbers_21 : decode cX12_numbers 21 = .ok (.iaload, 1) := by decide +kernel
theorem dX12_numbers_22 : decode cX12_numbers 22 = .ok (.iconst 2, 1) := by decide +kernel
theorem dX12_numbers_23 : decode cX12_numbers 23 = .ok (.ishl, 1) := by decide +kernel
theorem dX12_numbers_24 : decode cX12_numbers 24 = .ok (.ior, 1) := by decide +kernel
theorem dX12_numbers_25 : decode cX12_numbers 25 = .ok (.ireturn, 1) := by decide +kernel
theorem dX12_saysDesk_0 : decode cX12_saysDesk 0 = .ok (.aload_n 0, 1) := by decide +kernel
theorem dX12_saysDesk_1 : decode cX12_saysDesk 1 = .ok (.aload_n 0, 1) := by decide +kernel
theorem dX12_saysDesk_2 : decode cX12_saysDesk 2 = .ok (.getfield 9, 3) := by decide +kernel
theorem dX12_saysDesk_5 : decode cX12_saysDesk 5 = .ok (.iconst 2, 1) := by decide +kernel
theorem dX12_saysDesk_6 : decode cX12_saysDesk 6 = .ok (.iaload, 1) := by decide +kernel
theorem dX12_saysDesk_7 : decode cX12_saysDesk 7 = .ok (.bipush 7, 2) := by decide +kernel
theorem dX12_saysDesk_9 : decode cX12_saysDesk 9 = .ok (.aload_n 0, 1) := by decide +kernel
theorem dX12_saysDesk_10 : decode cX12_saysDesk 10 = .ok (.getfield 9, 3) := by decide +kernel
theorem dX12_saysDesk_13 : decode cX12_saysDesk 13 = .ok (.iload_n 1, 1) := by decide +kernel
theorem dX12_saysDesk_14 : decode cX12_saysDesk 14 = .ok (.iload_n 2, 1) := by decide +kernel
theorem dX12_saysDesk_15 : decode cX12_saysDesk 15 = .ok (.invokevirtual 177, 3) := by decide +kernel
theorem dX12_saysDesk_18 : decode cX12_saysDesk 18 = .ok (.return_, 1) := by decide +kernel
theorem dX12_saysDesk__0 : decode cX12_saysDesk_ 0 = .ok (.aload_n 0, 1) := by decide +kernel
theorem dX12_saysDesk__1 : decode cX12_saysDesk_ 1 = .ok (.aload_n 0, 1) := by decide +kernel
theorem dX12_saysDesk__2 : decode cX12_saysDesk_ 2 = .ok (.invokevirtual 181, 3) := by decide +kernel
theorem dX12_saysDesk__5 : decode cX12_saysDesk_ 5 = .ok (.aload_n 0, 1) := by decide +kernel
theorem dX12_saysDesk__6 : decode cX12_saysDesk_ 6 = .ok (.getfield 9, 3) := by decide +kernel
theorem dX12_saysDesk__9 : decode cX12_saysDesk_ 9 = .ok (.iconst 3, 1) := by decide +kernel
theorem dX12_saysDesk__10 : decode cX12_saysDesk_ 10 = .ok (.iaload, 1) := by decide +kernel
theorem dX12_saysDesk__11 : decode cX12_saysDesk_ 11 = .ok (.invokevirtual 185, 3) := by decide +kernel
theorem dX12_saysDesk__14 : decode cX12_saysDesk_ 14 = .ok (.return_, 1) := by decide +kernel
theorem dX12_desk_0 : decode cX12_desk 0 = .ok (.aload_n 0, 1) := by decide +kernel
theorem dX12_desk_1 : decode cX12_desk 1 = .ok (.iload_n 1, 1) := by decide +kernel
theorem dX12_desk_2 : decode cX12_desk 2 = .ok (.invokevirtual 151, 3) := by decide +kernel
theorem dX12_desk_5 : decode cX12_desk 5 = .ok (.ifCond .eq 12, 3) := by decide +kernel
theorem dX12_desk_8 : decode cX12_desk 8 = .ok (.iload_n 2, 1) := by decide +kernel
theorem dX12_desk_9 : decode cX12_desk 9 = .ok (.iconst 0, 1) := by decide +kernel
theorem dX12_desk_10 : decode cX12_desk 10 = .ok (.iconst 3, 1) := by decide +kernel
theorem dX12_desk_11 : decode cX12_desk 11 = .ok (.invokestatic 64, 3) := by decide +kernel
theorem dX12_desk_14 : decode cX12_desk 14 = .ok (.ifCond .ne 6, 3) := by decide +kernel
theorem dX12_desk_17 : decode cX12_desk 17 = .ok (.bipush (-2), 2) := by decide +kernel
theorem dX12_desk_19 : decode cX12_desk 19 = .ok (.ireturn, 1) := by decide +kernel
theorem dX12_desk_20 : decode cX12_desk 20 = .ok (.aload_n 0, 1) := by decide +kernel
theorem dX12_desk_21 : decode cX12_desk 21 = .ok (.getfield 9, 3) := by decide +kernel
theorem dX12_desk_24 : decode cX12_desk 24 = .ok (.iconst 2, 1) := by decide +kernel
theorem dX12_desk_25 : decode cX12_desk 25 = .ok (.iload_n 1, 1) := by decide +kernel
theorem dX12_desk_26 : decode cX12_desk 26 = .ok (.iastore, 1) := by decide +kernel
theorem dX12_desk_27 : decode cX12_desk 27 = .ok (.aload_n 0, 1) := by decide +kernel
theorem dX12_desk_28 : decode cX12_desk 28 = .ok (.getfield 9, 3) := by decide +kernel
theorem dX12_desk_31 : decode cX12_desk 31 = .ok (.iconst 3, 1) := by decide +kernel
theorem dX12_desk_32 : decode cX12_desk 32 = .ok (.iload_n 2, 1) := by decide +kernel
theorem dX12_desk_33 : decode cX12_desk 33 = .ok (.iastore, 1) := by decide +kernel
theorem dX12_desk_34 : decode cX12_desk 34 = .ok (.iconst 0, 1) := by decide +kernel
theorem dX12_desk_35 : decode cX12_desk 35 = .ok (.istore_n 3, 1) := by decide +kernel
theorem dX12_desk_36 : decode cX12_desk 36 = .ok (.iload_n 3, 1) := by decide +kernel
theorem dX12_desk_37 : decode cX12_desk 37 = .ok (.iconst 3, 1) := by decide +kernel
theorem dX12_desk_38 : decode cX12_desk 38 = .ok (.if_icmp .ge 18, 3) := by decide +kernel
theorem dX12_desk_41 : decode cX12_desk 41 = .ok (.aload_n 0, 1) := by decide +kernel
theorem dX12_desk_42 : decode cX12_desk 42 = .ok (.getfield 9, 3) := by decide +kernel
theorem dX12_desk_45 : decode cX12_desk 45 = .ok (.iconst 4, 1) := by decide +kernel
theorem dX12_desk_46 : decode cX12_desk 46 = .ok (.iload_n 3, 1) := by decide +kernel
theorem dX12_desk_47 : decode cX12_desk 47 = .ok (.iadd, 1) := by decide +kernel
theorem dX12_desk_48 : decode cX12_desk 48 = .ok (.iconst 0, 1) := by decide +kernel
theorem dX12_desk_49 : decode cX12_desk 49 = .ok (.iastore, 1) := by decide +kernel
theorem dX12_desk_50 : decode cX12_desk 50 = .ok (.iinc 3 1, 3) := by decide +kernel
theorem dX12_desk_53 : decode cX12_desk 53 = .ok (.goto (-17), 3) := by decide +kernel
theorem dX12_desk_56 : decode cX12_desk 56 = .ok (.iconst 0, 1) := by decide +kernel
theorem dX12_desk_57 : decode cX12_desk 57 = .ok (.istore_n 3, 1) := by decide +kernel
theorem dX12_desk_58 : decode cX12_desk 58 = .ok (.iload_n 3, 1) := by decide +kernel
theorem dX12_desk_59 : decode cX12_desk 59 = .ok (.aload_n 0, 1) := by decide +kernel
theorem dX12_desk_60 : decode cX12_desk 60 = .ok (.iload_n 1, 1) := by decide +kernel
theorem dX12_desk_61 : decode cX12_desk 61 = .ok (.invokevirtual 154, 3) := by decide +kernel
theorem dX12_desk_64 : decode cX12_desk 64 = .ok (.if_icmp .ge 25, 3) := by decide +kernel
theorem dX12_desk_67 : decode cX12_desk 67 = .ok (.aload_n 0, 1) := by decide +kernel
theorem dX12_desk_68 : decode cX12_desk 68 = .ok (.getfield 9, 3) := by decide +kernel
theorem dX12_desk_71 : decode cX12_desk 71 = .ok (.bipush 7, 2) := by decide +kernel
theorem dX12_desk_73 : decode cX12_desk 73 = .ok (.iload_n 3, 1) := by decide +kernel
theorem dX12_desk_74 : decode cX12_desk 74 = .ok (.iadd, 1) := by decide +kernel
theorem dX12_desk_75 : decode cX12_desk 75 = .ok (.aload_n 0, 1) := by decide +kernel
theorem dX12_desk_76 : decode cX12_desk 76 = .ok (.iload_n 1, 1) := by decide +kernel
theorem dX12_desk_77 : decode cX12_desk 77 = .ok (.iload_n 3, 1) := by decide +kernel
theorem dX12_desk_78 : decode cX12_desk 78 = .ok (.iconst 0, 1) := by decide +kernel
theorem dX12_desk_79 : decode cX12_desk 79 = .ok (.invokevirtual 189, 3) := by decide +kernel
theorem dX12_desk_82 : decode cX12_desk 82 = .ok (.iastore, 1) := by decide +kernel
theorem dX12_desk_83 : decode cX12_desk 83 = .ok (.iinc 3 1, 3) := by decide +kernel
theorem dX12_desk_86 : decode cX12_desk 86 = .ok (.goto (-28), 3) := by decide +kernel
theorem dX12_desk_89 : decode cX12_desk 89 = .ok (.aload_n 0, 1) := by decide +kernel
theorem dX12_desk_90 : decode cX12_desk 90 = .ok (.iload_n 1, 1) := by decide +kernel
theorem dX12_desk_91 : decode cX12_desk 91 = .ok (.invokevirtual 154, 3) := by decide +kernel
theorem dX12_desk_94 : decode cX12_desk 94 = .ok (.ireturn, 1) := by decide +kernel
theorem dX12_choose_0 : decode cX12_choose 0 = .ok (.aload_n 0, 1) := by decide +kernel
theorem dX12_choose_1 : decode cX12_choose 1 = .ok (.iload_n 2, 1) := by decide +kernel
theorem dX12_choose_2 : decode cX12_choose 2 = .ok (.invokevirtual 98, 3) := by decide +kernel
theorem dX12_choose_5 : decode cX12_choose 5 = .ok (.ifCond .ne 6, 3) := by decide +kernel
theorem dX12_choose_8 : decode cX12_choose 8 = .ok (.bipush (-2), 2) := by decide +kernel
theorem dX12_choose_10 : decode cX12_choose 10 = .ok (.ireturn, 1) := by decide +kernel
theorem dX12_choose_11 : decode cX12_choose 11 = .ok (.aload_n 0, 1) := by decide +kernel
theorem dX12_choose_12 : decode cX12_choose 12 = .ok (.getfield 9, 3) := by decide +kernel
theorem dX12_choose_15 : decode cX12_choose 15 = .ok (.iconst 2, 1) := by decide +kernel
theorem dX12_choose_16 : decode cX12_choose 16 = .ok (.iaload, 1) := by decide +kernel
theorem dX12_choose_17 : decode cX12_choose 17 = .ok (.ifCond .ge 6, 3) := by decide +kernel
theorem dX12_choose_20 : decode cX12_choose 20 = .ok (.bipush (-3), 2) := by decide +kernel
theorem dX12_choose_22 : decode cX12_choose 22 = .ok (.ireturn, 1) := by decide +kernel
theorem dX12_choose_23 : decode cX12_choose 23 = .ok (.iload_n 1, 1) := by decide +kernel
theorem dX12_choose_24 : decode cX12_choose 24 = .ok (.iconst 0, 1) := by decide +kernel
theorem dX12_choose_25 : decode cX12_choose 25 = .ok (.aload_n 0, 1) := by decide +kernel
theorem dX12_choose_26 : decode cX12_choose 26 = .ok (.aload_n 0, 1) := by decide +kernel
theorem dX12_choose_27 : decode cX12_choose 27 = .ok (.getfield 9, 3) := by decide +kernel
theorem dX12_choose_30 : decode cX12_choose 30 = .ok (.iconst 2, 1) := by decide +kernel
theorem dX12_choose_31 : decode cX12_choose 31 = .ok (.iaload, 1) := by decide +kernel
theorem dX12_choose_32 : decode cX12_choose 32 = .ok (.invokevirtual 154, 3) := by decide +kernel
theorem dX12_choose_35 : decode cX12_choose 35 = .ok (.iconst 1, 1) := by decide +kernel
theorem dX12_choose_36 : decode cX12_choose 36 = .ok (.isub, 1) := by decide +kernel
theorem dX12_choose_37 : decode cX12_choose 37 = .ok (.invokestatic 64, 3) := by decide +kernel
theorem dX12_choose_40 : decode cX12_choose 40 = .ok (.ifCond .ne 6, 3) := by decide +kernel
theorem dX12_choose_43 : decode cX12_choose 43 = .ok (.bipush (-12), 2) := by decide +kernel
theorem dX12_choose_45 : decode cX12_choose 45 = .ok (.ireturn, 1) := by decide +kernel
theorem dX12_choose_46 : decode cX12_choose 46 = .ok (.aload_n 0, 1) := by decide +kernel
theorem dX12_choose_47 : decode cX12_choose 47 = .ok (.aload_n 0, 1) := by decide +kernel
theorem dX12_choose_48 : decode cX12_choose 48 = .ok (.getfield 9, 3) := by decide +kernel
theorem dX12_choose_51 : decode cX12_choose 51 = .ok (.iconst 2, 1) := by decide +kernel
theorem dX12_choose_52 : decode cX12_choose 52 = .ok (.iaload, 1) := by decide +kernel
theorem dX12_choose_53 : decode cX12_choose 53 = .ok (.iload_n 1, 1) := by decide +kernel
theorem dX12_choose_54 : decode cX12_choose 54 = .ok (.iload_n 2, 1) := by decide +kernel
theorem dX12_choose_55 : decode cX12_choose 55 = .ok (.invokevirtual 148, 3) := by decide +kernel
theorem dX12_choose_58 : decode cX12_choose 58 = .ok (.ifCond .ne 6, 3) := by decide +kernel
theorem dX12_choose_61 : decode cX12_choose 61 = .ok (.bipush (-13), 2) := by decide +kernel
theorem dX12_choose_63 : decode cX12_choose 63 = .ok (.ireturn, 1) := by decide +kernel
theorem dX12_choose_64 : decode cX12_choose 64 = .ok (.aload_n 0, 1) := by decide +kernel
theorem dX12_choose_65 : decode cX12_choose 65 = .ok (.getfield 9, 3) := by decide +kernel
theorem dX12_choose_68 : decode cX12_choose 68 = .ok (.bipush 7, 2) := by decide +kernel
theorem dX12_choose_70 : decode cX12_choose 70 = .ok (.iload_n 1, 1) := by decide +kernel
theorem dX12_choose_71 : decode cX12_choose 71 = .ok (.iadd, 1) := by decide +kernel
theorem dX12_choose_72 : decode cX12_choose 72 = .ok (.iaload, 1) := by decide +kernel
theorem dX12_choose_73 : decode cX12_choose 73 = .ok (.istore_n 3, 1) := by decide +kernel
theorem dX12_choose_74 : decode cX12_choose 74 = .ok (.aload_n 0, 1) := by decide +kernel
theorem dX12_choose_75 : decode cX12_choose 75 = .ok (.getfield 9, 3) := by decide +kernel
theorem dX12_choose_78 : decode cX12_choose 78 = .ok (.bipush 7, 2) := by decide +kernel
theorem dX12_choose_80 : decode cX12_choose 80 = .ok (.iload_n 1, 1) := by decide +kernel
theorem dX12_choose_81 : decode cX12_choose 81 = .ok (.iadd, 1) := by decide +kernel
theorem dX12_choose_82 : decode cX12_choose 82 = .ok (.iload_n 2, 1) := by decide +kernel
theorem dX12_choose_83 : decode cX12_choose 83 = .ok (.iastore, 1) := by decide +kernel
theorem dX12_choose_84 : decode cX12_choose 84 = .ok (.iload_n 3, 1) := by decide +kernel
theorem dX12_choose_85 : decode cX12_choose 85 = .ok (.ireturn, 1) := by decide +kernel
theorem dX12_number_0 : decode cX12_number 0 = .ok (.iload_n 1, 1) := by decide +kernel
theorem dX12_number_1 : decode cX12_number 1 = .ok (.iconst 0, 1) := by decide +kernel
theorem dX12_number_2 : decode cX12_number 2 = .ok (.iconst 2, 1) := by decide +kernel
theorem dX12_number_3 : decode cX12_number 3 = .ok (.invokestatic 64, 3) := by decide +kernel
theorem dX12_number_6 : decode cX12_number 6 = .ok (.ifCond .eq 12, 3) := by decide +kernel
theorem dX12_number_9 : decode cX12_number 9 = .ok (.iload_n 2, 1) := by decide +kernel
theorem dX12_number_10 : decode cX12_number 10 = .ok (.iconst 0, 1) := by decide +kernel
theorem dX12_number_11 : decode cX12_number 11 = .ok (.iconst 1, 1) := by decide +kernel
theorem dX12_number_12 : decode cX12_number 12 = .ok (.invokestatic 64, 3) := by decide +kernel
theorem dX12_number_15 : decode cX12_number 15 = .ok (.ifCond .ne 6, 3) := by decide +kernel
theorem dX12_number_18 : decode cX12_number 18 = .ok (.bipush (-2), 2) := by decide +kernel
theorem dX12_number_20 : decode cX12_number 20 = .ok (.ireturn, 1) := by decide +kernel
theorem dX12_number_21 : decode cX12_number 21 = .ok (.aload_n 0, 1) := by decide +kernel
theorem dX12_number_22 : decode cX12_number 22 = .ok (.getfield 9, 3) := by decide +kernel
theorem dX12_number_25 : decode cX12_number 25 = .ok (.iconst 2, 1) := by decide +kernel
theorem dX12_number_26 : decode cX12_number 26 = .ok (.iaload, 1) := by decide +kernel
theorem dX12_number_27 : decode cX12_number 27 = .ok (.ifCond .ge 6, 3) := by decide +kernel
theorem dX12_number_30 : decode cX12_number 30 = .ok (.bipush (-3), 2) := by decide +kernel
theorem dX12_number_32 : decode cX12_number 32 = .ok (.ireturn, 1) := by decide +kernel
theorem dX12_number_33 : decode cX12_number 33 = .ok (.aload_n 0, 1) := by decide +kernel
theorem dX12_number_34 : decode cX12_number 34 = .ok (.getfield 9, 3) := by decide +kernel
theorem dX12_number_37 : decode cX12_number 37 = .ok (.iconst 4, 1) := by decide +kernel
theorem dX12_number_38 : decode cX12_number 38 = .ok (.iload_n 1, 1) := by decide +kernel
theorem dX12_number_39 : decode cX12_number 39 = .ok (.iadd, 1) := by decide +kernel
theorem dX12_number_40 : decode cX12_number 40 = .ok (.iaload, 1) := by decide +kernel
theorem dX12_number_41 : decode cX12_number 41 = .ok (.istore_n 3, 1) := by decide +kernel
theorem dX12_number_42 : decode cX12_number 42 = .ok (.aload_n 0, 1) := by decide +kernel
theorem dX12_number_43 : decode cX12_number 43 = .ok (.getfield 9, 3) := by decide +kernel
theorem dX12_number_46 : decode cX12_number 46 = .ok (.iconst 4, 1) := by decide +kernel
theorem dX12_number_47 : decode cX12_number 47 = .ok (.iload_n 1, 1) := by decide +kernel
theorem dX12_number_48 : decode cX12_number 48 = .ok (.iadd, 1) := by decide +kernel
theorem dX12_number_49 : decode cX12_number 49 = .ok (.iload_n 2, 1) := by decide +kernel
theorem dX12_number_50 : decode cX12_number 50 = .ok (.iastore, 1) := by decide +kernel
theorem dX12_number_51 : decode cX12_number 51 = .ok (.iload_n 3, 1) := by decide +kernel
theorem dX12_number_52 : decode cX12_number 52 = .ok (.ireturn, 1) := by decide +kernel
theorem dX12_said_0 : decode cX12_said 0 = .ok (.aload_n 0, 1) := by decide +kernel
theorem dX12_said_1 : decode cX12_said 1 = .ok (.invokevirtual 192, 3) := by decide +kernel
theorem dX12_said_4 : decode cX12_said 4 = .ok (.iload_n 1, 1) := by decide +kernel
theorem dX12_said_5 : decode cX12_said 5 = .ok (.iconst (-1), 1) := by decide +kernel
theorem dX12_said_6 : decode cX12_said 6 = .ok (.if_icmp .ne 10, 3) := by decide +kernel
theorem dX12_said_9 : decode cX12_said 9 = .ok (.aload_n 0, 1) := by decide +kernel
theorem dX12_said_10 : decode cX12_said 10 = .ok (.getfield 166, 3) := by decide +kernel
theorem dX12_said_13 : decode cX12_said 13 = .ok (.goto 28, 3) := by decide +kernel
theorem dX12_said_16 : decode cX12_said 16 = .ok (.iload_n 1, 1) := by decide +kernel
theorem dX12_said_17 : decode cX12_said 17 = .ok (.iconst 0, 1) := by decide +kernel
theorem dX12_said_18 : decode cX12_said 18 = .ok (.aload_n 0, 1) := by decide +kernel
theorem dX12_said_19 : decode cX12_said 19 = .ok (.getfield 166, 3) := by decide +kernel
theorem dX12_said_22 : decode cX12_said 22 = .ok (.iconst 1, 1) := by decide +kernel
theorem dX12_said_23 : decode cX12_said 23 = .ok (.isub, 1) := by decide +kernel
theorem dX12_said_24 : decode cX12_said 24 = .ok (.invokestatic 64, 3) := by decide +kernel
theorem dX12_said_27 : decode cX12_said 27 = .ok (.ifCond .eq 12, 3) := by decide +kernel
theorem dX12_said_30 : decode cX12_said 30 = .ok (.aload_n 0, 1) := by decide +kernel
theorem dX12_said_31 : decode cX12_said 31 = .ok (.getfield 25, 3) := by decide +kernel
theorem dX12_said_34 : decode cX12_said 34 = .ok (.iload_n 1, 1) := by decide +kernel
theorem dX12_said_35 : decode cX12_said 35 = .ok (.iaload, 1) := by decide +kernel
theorem dX12_said_36 : decode cX12_said 36 = .ok (.goto 5, 3) := by decide +kernel
theorem dX12_said_39 : decode cX12_said 39 = .ok (.bipush (-12), 2) := by decide +kernel
theorem dX12_said_41 : decode cX12_said 41 = .ok (.ireturn, 1) := by decide +kernel
theorem dX12_spoken_0 : decode cX12_spoken 0 = .ok (.iload_n 1, 1) := by decide +kernel
theorem dX12_spoken_1 : decode cX12_spoken 1 = .ok (.iconst 1, 1) := by decide +kernel
theorem dX12_spoken_2 : decode cX12_spoken 2 = .ok (.bipush 99, 2) := by decide +kernel
theorem dX12_spoken_4 : decode cX12_spoken 4 = .ok (.invokestatic 64, 3) := by decide +kernel
theorem dX12_spoken_7 : decode cX12_spoken 7 = .ok (.ifCond .ne 6, 3) := by decide +kernel
theorem dX12_spoken_10 : decode cX12_spoken 10 = .ok (.bipush (-2), 2) := by decide +kernel
theorem dX12_spoken_12 : decode cX12_spoken 12 = .ok (.ireturn, 1) := by decide +kernel
theorem dX12_spoken_13 : decode cX12_spoken 13 = .ok (.aload_n 0, 1) := by decide +kernel
theorem dX12_spoken_14 : decode cX12_spoken 14 = .ok (.invokevirtual 192, 3) := by decide +kernel
theorem dX12_spoken_17 : decode cX12_spoken 17 = .ok (.fconst 0, 1) := by decide +kernel
theorem dX12_spoken_18 : decode cX12_spoken 18 = .ok (.fstore_n 2, 1) := by decide +kernel
theorem dX12_spoken_19 : decode cX12_spoken 19 = .ok (.iconst 0, 1) := by decide +kernel
theorem dX12_spoken_20 : decode cX12_spoken 20 = .ok (.istore_n 3, 1) := by decide +kernel
theorem dX12_spoken_21 : decode cX12_spoken 21 = .ok (.iload_n 3, 1) := by decide +kernel
theorem dX12_spoken_22 : decode cX12_spoken 22 = .ok (.aload_n 0, 1) := by decide +kernel
theorem dX12_spoken_23 : decode cX12_spoken 23 = .ok (.getfield 166, 3) := by decide +kernel
theorem dX12_spoken_26 : decode cX12_spoken 26 = .ok (.if_icmp .ge 93, 3) := by decide +kernel
theorem dX12_spoken_29 : decode cX12_spoken 29 = .ok (.aload_n 0, 1) := by decide +kernel
theorem dX12_spoken_30 : decode cX12_spoken 30 = .ok (.getfield 25, 3) := by decide +kernel
theorem dX12_spoken_33 : decode cX12_spoken 33 = .ok (.iload_n 3, 1) := by decide +kernel
theorem dX12_spoken_34 : decode cX12_spoken 34 = .ok (.iaload, 1) := by decide +kernel
theorem dX12_spoken_35 : decode cX12_spoken 35 = .ok (.invokestatic 87, 3) := by decide +kernel
theorem dX12_spoken_38 : decode cX12_spoken 38 = .ok (.ifCond .eq 8, 3) := by decide +kernel
theorem dX12_spoken_41 : decode cX12_spoken 41 = .ok (.ldc 194, 2) := by decide +kernel
theorem dX12_spoken_43 : decode cX12_spoken 43 = .ok (.goto 21, 3) := by decide +kernel
theorem dX12_spoken_46 : decode cX12_spoken 46 = .ok (.aload_n 0, 1) := by decide +kernel
theorem dX12_spoken_47 : decode cX12_spoken 47 = .ok (.getfield 25, 3) := by decide +kernel
theorem dX12_spoken_50 : decode cX12_spoken 50 = .ok (.iload_n 3, 1) := by decide +kernel
theorem dX12_spoken_51 : decode cX12_spoken 51 = .ok (.iaload, 1) := by decide +kernel
theorem dX12_spoken_52 : decode cX12_spoken 52 = .ok (.bipush 32, 2) := by decide +kernel
theorem dX12_spoken_54 : decode cX12_spoken 54 = .ok (.if_icmp .ne 8, 3) := by decide +kernel
theorem dX12_spoken_57 : decode cX12_spoken 57 = .ok (.ldc 195, 2) := by decide +kernel
theorem dX12_spoken_59 : decode cX12_spoken 59 = .ok (.goto 5, 3) := by decide +kernel
theorem dX12_spoken_62 : decode cX12_spoken 62 = .ok (.ldc 196, 2) := by decide +kernel
theorem dX12_spoken_64 : decode cX12_spoken 64 = .ok (.fstore 4, 2) := by decide +kernel
theorem dX12_spoken_66 : decode cX12_spoken 66 = .ok (.iload_n 3, 1) := by decide +kernel
theorem dX12_spoken_67 : decode cX12_spoken 67 = .ok (.ifCond .le 38, 3) := by decide +kernel
theorem dX12_spoken_70 : decode cX12_spoken 70 = .ok (.aload_n 0, 1) := by decide +kernel
theorem dX12_spoken_71 : decode cX12_spoken 71 = .ok (.getfield 25, 3) := by decide +kernel
theorem dX12_spoken_74 : decode cX12_spoken 74 = .ok (.iload_n 3, 1) := by decide +kernel
theorem dX12_spoken_75 : decode cX12_spoken 75 = .ok (.iaload, 1) := by decide +kernel
theorem dX12_spoken_76 : decode cX12_spoken 76 = .ok (.bipush 32, 2) := by decide +kernel
theorem dX12_spoken_78 : decode cX12_spoken 78 = .ok (.if_icmp .eq 27, 3) := by decide +kernel
theorem dX12_spoken_81 : decode cX12_spoken 81 = .ok (.aload_n 0, 1) := by decide +kernel
theorem dX12_spoken_82 : decode cX12_spoken 82 = .ok (.getfield 25, 3) := by decide +kernel
theorem dX12_spoken_85 : decode cX12_spoken 85 = .ok (.iload_n 3, 1) := by decide +kernel
theorem dX12_spoken_86 : decode cX12_spoken 86 = .ok (.iaload, 1) := by decide +kernel
theorem dX12_spoken_87 : decode cX12_spoken 87 = .ok (.aload_n 0, 1) := by decide +kernel
theorem dX12_spoken_88 : decode cX12_spoken 88 = .ok (.getfield 25, 3) := by decide +kernel
theorem dX12_spoken_91 : decode cX12_spoken 91 = .ok (.iload_n 3, 1) := by decide +kernel
theorem dX12_spoken_92 : decode cX12_spoken 92 = .ok (.iconst 1, 1) := by decide +kernel
theorem dX12_spoken_93 : decode cX12_spoken 93 = .ok (.isub, 1) := by decide +kernel
theorem dX12_spoken_94 : decode cX12_spoken 94 = .ok (.iaload, 1) := by decide +kernel
theorem dX12_spoken_95 : decode cX12_spoken 95 = .ok (.if_icmp .ne 10, 3) := by decide +kernel
theorem dX12_spoken_98 : decode cX12_spoken 98 = .ok (.fload 4, 2) := by decide +kernel
theorem dX12_spoken_100 : decode cX12_spoken 100 = .ok (.ldc 197, 2) := by decide +kernel
theorem dX12_spoken_102 : decode cX12_spoken 102 = .ok (.fmul, 1) := by decide +kernel
theorem dX12_spoken_103 : decode cX12_spoken 103 = .ok (.fstore 4, 2) := by decide +kernel
theorem dX12_spoken_105 : decode cX12_spoken 105 = .ok (.fload_n 2, 1) := by decide +kernel
theorem dX12_spoken_106 : decode cX12_spoken 106 = .ok (.fload 4, 2) := by decide +kernel
theorem dX12_spoken_108 : decode cX12_spoken 108 = .ok (.iload_n 1, 1) := by decide +kernel
theorem dX12_spoken_109 : decode cX12_spoken 109 = .ok (.i2f, 1) := by decide +kernel
theorem dX12_spoken_110 : decode cX12_spoken 110 = .ok (.fdiv, 1) := by decide +kernel
theorem dX12_spoken_111 : decode cX12_spoken 111 = .ok (.fadd, 1) := by decide +kernel
theorem dX12_spoken_112 : decode cX12_spoken 112 = .ok (.fstore_n 2, 1) := by decide +kernel
theorem dX12_spoken_113 : decode cX12_spoken 113 = .ok (.iinc 3 1, 3) := by decide +kernel
theorem dX12_spoken_116 : decode cX12_spoken 116 = .ok (.goto (-95), 3) := by decide +kernel
theorem dX12_spoken_119 : decode cX12_spoken 119 = .ok (.fload_n 2, 1) := by decide +kernel
theorem dX12_spoken_120 : decode cX12_spoken 120 = .ok (.invokestatic 198, 3) := by decide +kernel
theorem dX12_spoken_123 : decode cX12_spoken 123 = .ok (.ireturn, 1) := by decide +kernel
theorem dX12_text_0 : decode cX12_text 0 = .ok (.aload_n 0, 1) := by decide +kernel
theorem dX12_text_1 : decode cX12_text 1 = .ok (.getfield 72, 3) := by decide +kernel
theorem dX12_text_4 : decode cX12_text 4 = .ok (.istore_n 1, 1) := by decide +kernel
theorem dX12_text_5 : decode cX12_text 5 = .ok (.iconst 1, 1) := by decide +kernel
theorem dX12_text_6 : decode cX12_text 6 = .ok (.istore_n 2, 1) := by decide +kernel
theorem dX12_text_7 : decode cX12_text 7 = .ok (.aload_n 0, 1) := by decide +kernel
theorem dX12_text_8 : decode cX12_text 8 = .ok (.iconst 0, 1) := by decide +kernel
theorem dX12_text_9 : decode cX12_text 9 = .ok (.putfield 72, 3) := by decide +kernel
theorem dX12_text_12 : decode cX12_text 12 = .ok (.iconst 0, 1) := by decide +kernel
theorem dX12_text_13 : decode cX12_text 13 = .ok (.istore_n 3, 1) := by decide +kernel
theorem dX12_text_14 : decode cX12_text 14 = .ok (.iload_n 3, 1) := by decide +kernel
theorem dX12_text_15 : decode cX12_text 15 = .ok (.iload_n 1, 1) := by decide +kernel
theorem dX12_text_16 : decode cX12_text 16 = .ok (.if_icmp .ge 69, 3) := by decide +kernel
theorem dX12_text_19 : decode cX12_text 19 = .ok (.aload_n 0, 1) := by decide +kernel
theorem dX12_text_20 : decode cX12_text 20 = .ok (.getfield 16, 3) := by decide +kernel
theorem dX12_text_23 : decode cX12_text 23 = .ok (.iload_n 3, 1) := by decide +kernel
theorem dX12_text_24 : decode cX12_text 24 = .ok (.iaload, 1) := by decide +kernel
theorem dX12_text_25 : decode cX12_text 25 = .ok (.bipush 32, 2) := by decide +kernel
theorem dX12_text_27 : decode cX12_text 27 = .ok (.if_icmp .ne 33, 3) := by decide +kernel
theorem dX12_text_30 : decode cX12_text 30 = .ok (.iload_n 3, 1) := by decide +kernel
theorem dX12_text_31 : decode cX12_text 31 = .ok (.ifCond .le 29, 3) := by decide +kernel
theorem dX12_text_34 : decode cX12_text 34 = .ok (.iload_n 3, 1) := by decide +kernel
theorem dX12_text_35 : decode cX12_text 35 = .ok (.iload_n 1, 1) := by decide +kernel
theorem dX12_text_36 : decode cX12_text 36 = .ok (.iconst 1, 1) := by decide +kernel
theorem dX12_text_37 : decode cX12_text 37 = .ok (.isub, 1) := by decide +kernel
theorem dX12_text_38 : decode cX12_text 38 = .ok (.if_icmp .ge 22, 3) := by decide +kernel
theorem dX12_text_41 : decode cX12_text 41 = .ok (.aload_n 0, 1) := by decide +kernel
theorem dX12_text_42 : decode cX12_text 42 = .ok (.getfield 16, 3) := by decide +kernel
theorem dX12_text_45 : decode cX12_text 45 = .ok (.iload_n 3, 1) := by decide +kernel
theorem dX12_text_46 : decode cX12_text 46 = .ok (.iconst 1, 1) := by decide +kernel
theorem dX12_text_47 : decode cX12_text 47 = .ok (.isub, 1) := by decide +kernel
theorem dX12_text_48 : decode cX12_text 48 = .ok (.iaload, 1) := by decide +kernel
theorem dX12_text_49 : decode cX12_text 49 = .ok (.bipush 32, 2) := by decide +kernel
theorem dX12_text_51 : decode cX12_text 51 = .ok (.if_icmp .eq 9, 3) := by decide +kernel
theorem dX12_text_54 : decode cX12_text 54 = .ok (.iinc 2 1, 3) := by decide +kernel
theorem dX12_text_57 : decode cX12_text 57 = .ok (.goto 22, 3) := by decide +kernel
theorem dX12_text_60 : decode cX12_text 60 = .ok (.aload_n 0, 1) := by decide +kernel
theorem dX12_text_61 : decode cX12_text 61 = .ok (.getfield 16, 3) := by decide +kernel
theorem dX12_text_64 : decode cX12_text 64 = .ok (.iload_n 3, 1) := by decide +kernel
theorem dX12_text_65 : decode cX12_text 65 = .ok (.iaload, 1) := by decide +kernel
theorem dX12_text_66 : decode cX12_text 66 = .ok (.bipush 97, 2) := by decide +kernel
theorem dX12_text_68 : decode cX12_text 68 = .ok (.bipush 122, 2) := by decide +kernel
theorem dX12_text_70 : decode cX12_text 70 = .ok (.invokestatic 64, 3) := by decide +kernel
theorem dX12_text_73 : decode cX12_text 73 = .ok (.ifCond .ne 6, 3) := by decide +kernel
theorem dX12_text_76 : decode cX12_text 76 = .ok (.bipush (-3), 2) := by decide +kernel
theorem dX12_text_78 : decode cX12_text 78 = .ok (.ireturn, 1) := by decide +kernel
theorem dX12_text_79 : decode cX12_text 79 = .ok (.iinc 3 1, 3) := by decide +kernel
theorem dX12_text_82 : decode cX12_text 82 = .ok (.goto (-68), 3) := by decide +kernel
theorem dX12_text_85 : decode cX12_text 85 = .ok (.iload_n 1, 1) := by decide +kernel
theorem dX12_text_86 : decode cX12_text 86 = .ok (.ifCond .ne 6, 3) := by decide +kernel
theorem dX12_text_89 : decode cX12_text 89 = .ok (.bipush (-3), 2) := by decide +kernel
theorem dX12_text_91 : decode cX12_text 91 = .ok (.ireturn, 1) := by decide +kernel
theorem dX12_text_92 : decode cX12_text 92 = .ok (.aload_n 0, 1) := by decide +kernel
theorem dX12_text_93 : decode cX12_text 93 = .ok (.getfield 9, 3) := by decide +kernel
theorem dX12_text_96 : decode cX12_text 96 = .ok (.bipush 13, 2) := by decide +kernel
theorem dX12_text_98 : decode cX12_text 98 = .ok (.iload_n 1, 1) := by decide +kernel
theorem dX12_text_99 : decode cX12_text 99 = .ok (.iastore, 1) := by decide +kernel
theorem dX12_text_100 : decode cX12_text 100 = .ok (.iconst 0, 1) := by decide +kernel
theorem dX12_text_101 : decode cX12_text 101 = .ok (.istore_n 3, 1) := by decide +kernel
theorem dX12_text_102 : decode cX12_text 102 = .ok (.iload_n 3, 1) := by decide +kernel
theorem dX12_text_103 : decode cX12_text 103 = .ok (.iload_n 1, 1) := by decide +kernel
theorem dX12_text_104 : decode cX12_text 104 = .ok (.if_icmp .ge 25, 3) := by decide +kernel
theorem dX12_text_107 : decode cX12_text 107 = .ok (.aload_n 0, 1) := by decide +kernel
theorem dX12_text_108 : decode cX12_text 108 = .ok (.getfield 9, 3) := by decide +kernel
theorem dX12_text_111 : decode cX12_text 111 = .ok (.sipush 467, 3) := by decide +kernel
theorem dX12_text_114 : decode cX12_text 114 = .ok (.iload_n 3, 1) := by decide +kernel
theorem dX12_text_115 : decode cX12_text 115 = .ok (.iadd, 1) := by decide +kernel
theorem dX12_text_116 : decode cX12_text 116 = .ok (.aload_n 0, 1) := by decide +kernel
theorem dX12_text_117 : decode cX12_text 117 = .ok (.getfield 16, 3) := by decide +kernel
theorem dX12_text_120 : decode cX12_text 120 = .ok (.iload_n 3, 1) := by decide +kernel
theorem dX12_text_121 : decode cX12_text 121 = .ok (.iaload, 1) := by decide +kernel
theorem dX12_text_122 : decode cX12_text 122 = .ok (.iastore, 1) := by decide +kernel
theorem dX12_text_123 : decode cX12_text 123 = .ok (.iinc 3 1, 3) := by decide +kernel
theorem dX12_text_126 : decode cX12_text 126 = .ok (.goto (-24), 3) := by decide +kernel
theorem dX12_text_129 : decode cX12_text 129 = .ok (.iload_n 2, 1) := by decide +kernel
theorem dX12_text_130 : decode cX12_text 130 = .ok (.ireturn, 1) := by decide +kernel
theorem dX12_takesText_0 : decode cX12_takesText 0 = .ok (.aload_n 0, 1) := by decide +kernel
theorem dX12_takesText_1 : decode cX12_takesText 1 = .ok (.aload_n 0, 1) := by decide +kernel
theorem dX12_takesText_2 : decode cX12_takesText 2 = .ok (.getfield 9, 3) := by decide +kernel
theorem dX12_takesText_5 : decode cX12_takesText 5 = .ok (.bipush 13, 2) := by decide +kernel
theorem dX12_takesText_7 : decode cX12_takesText 7 = .ok (.iaload, 1) := by decide +kernel
theorem dX12_takesText_8 : decode cX12_takesText 8 = .ok (.putfield 166, 3) := by decide +kernel
theorem dX12_takesText_11 : decode cX12_takesText 11 = .ok (.iconst 0, 1) := by decide +kernel
theorem dX12_takesText_12 : decode cX12_takesText 12 = .ok (.istore_n 1, 1) := by decide +kernel
theorem dX12_takesText_13 : decode cX12_takesText 13 = .ok (.iload_n 1, 1) := by decide +kernel
theorem dX12_takesText_14 : decode cX12_takesText 14 = .ok (.aload_n 0, 1) := by decide +kernel
theorem dX12_takesText_15 : decode cX12_takesText 15 = .ok (.getfield 166, 3) := by decide +kernel
theorem dX12_takesText_18 : decode cX12_takesText 18 = .ok (.if_icmp .ge 25, 3) := by decide +kernel
theorem dX12_takesText_21 : decode cX12_takesText 21 = .ok (.aload_n 0, 1) := by decide +kernel
theorem dX12_takesText_22 : decode cX12_takesText 22 = .ok (.getfield 25, 3) := by decide +kernel
theorem dX12_takesText_25 : decode cX12_takesText 25 = .ok (.iload_n 1, 1) := by decide +kernel
theorem dX12_takesText_26 : decode cX12_takesText 26 = .ok (.aload_n 0, 1) := by decide +kernel
theorem dX12_takesText_27 : decode cX12_takesText 27 = .ok (.getfield 9, 3) := by decide +kernel
theorem dX12_takesText_30 : decode cX12_takesText 30 = .ok (.sipush 467, 3) := by decide +kernel
theorem dX12_takesText_33 : decode cX12_takesText 33 = .ok (.iload_n 1, 1) := by decide +kernel
theorem dX12_takesText_34 : decode cX12_takesText 34 = .ok (.iadd, 1) := by decide +kernel
theorem dX12_takesText_35 : decode cX12_takesText 35 = .ok (.iaload, 1) := by decide +kernel
theorem dX12_takesText_36 : decode cX12_takesText 36 = .ok (.iastore, 1) := by decide +kernel
theorem dX12_takesText_37 : decode cX12_takesText 37 = .ok (.iinc 1 1, 3) := by decide +kernel
theorem dX12_takesText_40 : decode cX12_takesText 40 = .ok (.goto (-27), 3) := by decide +kernel
theorem dX12_takesText_43 : decode cX12_takesText 43 = .ok (.return_, 1) := by decide +kernel
theorem dX12_parts_0 : decode cX12_parts 0 = .ok (.aload_n 0, 1) := by decide +kernel
theorem dX12_parts_1 : decode cX12_parts 1 = .ok (.iconst 0, 1) := by decide +kernel
theorem dX12_parts_2 : decode cX12_parts 2 = .ok (.putfield 204, 3) := by decide +kernel
theorem dX12_parts_5 : decode cX12_parts 5 = .ok (.aload_n 0, 1) := by decide +kernel
theorem dX12_parts_6 : decode cX12_parts 6 = .ok (.getfield 166, 3) := by decide +kernel
theorem dX12_parts_9 : decode cX12_parts 9 = .ok (.ifCond .ne 4, 3) := by decide +kernel
theorem dX12_parts_12 : decode cX12_parts 12 = .ok (.return_, 1) := by decide +kernel
theorem dX12_parts_13 : decode cX12_parts 13 = .ok (.aload_n 0, 1) := by decide +kernel
theorem dX12_parts_14 : decode cX12_parts 14 = .ok (.getfield 28, 3) := by decide +kernel
theorem dX12_parts_17 : decode cX12_parts 17 = .ok (.iconst 0, 1) := by decide +kernel
theorem dX12_parts_18 : decode cX12_parts 18 = .ok (.iconst 0, 1) := by decide +kernel
theorem dX12_parts_19 : decode cX12_parts 19 = .ok (.iastore, 1) := by decide +kernel
theorem dX12_parts_20 : decode cX12_parts 20 = .ok (.iconst 0, 1) := by decide +kernel
theorem dX12_parts_21 : decode cX12_parts 21 = .ok (.istore_n 1, 1) := by decide +kernel
theorem dX12_parts_22 : decode cX12_parts 22 = .ok (.iload_n 1, 1) := by decide +kernel
theorem dX12_parts_23 : decode cX12_parts 23 = .ok (.aload_n 0, 1) := by decide +kernel
theorem dX12_parts_24 : decode cX12_parts 24 = .ok (.getfield 166, 3) := by decide +kernel
theorem dX12_parts_27 : decode cX12_parts 27 = .ok (.if_icmp .ge 55, 3) := by decide +kernel
theorem dX12_parts_30 : decode cX12_parts 30 = .ok (.aload_n 0, 1) := by decide +kernel
theorem dX12_parts_31 : decode cX12_parts 31 = .ok (.getfield 25, 3) := by decide +kernel
theorem dX12_parts_34 : decode cX12_parts 34 = .ok (.iload_n 1, 1) := by decide +kernel
theorem dX12_parts_35 : decode cX12_parts 35 = .ok (.iaload, 1) := by decide +kernel
theorem dX12_parts_36 : decode cX12_parts 36 = .ok (.bipush 32, 2) := by decide +kernel
theorem dX12_parts_38 : decode cX12_parts 38 = .ok (.if_icmp .eq 6, 3) := by decide +kernel
theorem dX12_parts_41 : decode cX12_parts 41 = .ok (.goto 35, 3) := by decide +kernel
theorem dX12_parts_44 : decode cX12_parts 44 = .ok (.aload_n 0, 1) := by decide +kernel
theorem dX12_parts_45 : decode cX12_parts 45 = .ok (.getfield 31, 3) := by decide +kernel
theorem dX12_parts_48 : decode cX12_parts 48 = .ok (.aload_n 0, 1) := by decide +kernel
theorem dX12_parts_49 : decode cX12_parts 49 = .ok (.getfield 204, 3) := by decide +kernel
theorem dX12_parts_52 : decode cX12_parts 52 = .ok (.iload_n 1, 1) := by decide +kernel
theorem dX12_parts_53 : decode cX12_parts 53 = .ok (.iastore, 1) := by decide +kernel
theorem dX12_parts_54 : decode cX12_parts 54 = .ok (.aload_n 0, 1) := by decide +kernel
theorem dX12_parts_55 : decode cX12_parts 55 = .ok (.dup, 1) := by decide +kernel
theorem dX12_parts_56 : decode cX12_parts 56 = .ok (.getfield 204, 3) := by decide +kernel
theorem dX12_parts_59 : decode cX12_parts 59 = .ok (.iconst 1, 1) := by decide +kernel
theorem dX12_parts_60 : decode cX12_parts 60 = .ok (.iadd, 1) := by decide +kernel
theorem dX12_parts_61 : decode cX12_parts 61 = .ok (.putfield 204, 3) := by decide +kernel
theorem dX12_parts_64 : decode cX12_parts 64 = .ok (.aload_n 0, 1) := by decide +kernel
theorem dX12_parts_65 : decode cX12_parts 65 = .ok (.getfield 28, 3) := by decide +kernel
theorem dX12_parts_68 : decode cX12_parts 68 = .ok (.aload_n 0, 1) := by decide +kernel
theorem dX12_parts_69 : decode cX12_parts 69 = .ok (.getfield 204, 3) := by decide +kernel
theorem dX12_parts_72 : decode cX12_parts 72 = .ok (.iload_n 1, 1) := by decide +kernel
theorem dX12_parts_73 : decode cX12_parts 73 = .ok (.iconst 1, 1) := by decide +kernel
theorem dX12_parts_74 : decode cX12_parts 74 = .ok (.iadd, 1) := by decide +kernel
theorem dX12_parts_75 : decode cX12_parts 75 = .ok (.iastore, 1) := by decide +kernel
theorem dX12_parts_76 : decode cX12_parts 76 = .ok (.iinc 1 1, 3) := by decide +kernel
theorem dX12_parts_79 : decode cX12_parts 79 = .ok (.goto (-57), 3) := by decide +kernel
theorem dX12_parts_82 : decode cX12_parts 82 = .ok (.aload_n 0, 1) := by decide +kernel
theorem dX12_parts_83 : decode cX12_parts 83 = .ok (.getfield 31, 3) := by decide +kernel
theorem dX12_parts_86 : decode cX12_parts 86 = .ok (.aload_n 0, 1) := by decide +kernel
theorem dX12_parts_87 : decode cX12_parts 87 = .ok (.getfield 204, 3) := by decide +kernel
theorem dX12_parts_90 : decode cX12_parts 90 = .ok (.aload_n 0, 1) := by decide +kernel
theorem dX12_parts_91 : decode cX12_parts 91 = .ok (.getfield 166, 3) := by decide +kernel
theorem dX12_parts_94 : decode cX12_parts 94 = .ok (.iastore, 1) := by decide +kernel
theorem dX12_parts_95 : decode cX12_parts 95 = .ok (.aload_n 0, 1) := by decide +kernel
theorem dX12_parts_96 : decode cX12_parts 96 = .ok (.dup, 1) := by decide +kernel
theorem dX12_parts_97 : decode cX12_parts 97 = .ok (.getfield 204, 3) := by decide +kernel
theorem dX12_parts_100 : decode cX12_parts 100 = .ok (.iconst 1, 1) := by decide +kernel
theorem dX12_parts_101 : decode cX12_parts 101 = .ok (.iadd, 1) := by decide +kernel
theorem dX12_parts_102 : decode cX12_parts 102 = .ok (.putfield 204, 3) := by decide +kernel
theorem dX12_parts_105 : decode cX12_parts 105 = .ok (.return_, 1) := by decide +kernel
theorem dX12_isLike_0 : decode cX12_isLike 0 = .ok (.aload_n 0, 1) := by decide +kernel
theorem dX12_isLike_1 : decode cX12_isLike 1 = .ok (.getfield 31, 3) := by decide +kernel
theorem dX12_isLike_4 : decode cX12_isLike 4 = .ok (.iload_n 1, 1) := by decide +kernel
theorem dX12_isLike_5 : decode cX12_isLike 5 = .ok (.iaload, 1) := by decide +kernel
theorem dX12_isLike_6 : decode cX12_isLike 6 = .ok (.aload_n 0, 1) := by decide +kernel
theorem dX12_isLike_7 : decode cX12_isLike 7 = .ok (.getfield 28, 3) := by decide +kernel
theorem dX12_isLike_10 : decode cX12_isLike 10 = .ok (.iload_n 1, 1) := by decide +kernel
theorem dX12_isLike_11 : decode cX12_isLike 11 = .ok (.iaload, 1) := by decide +kernel
theorem dX12_isLike_12 : decode cX12_isLike 12 = .ok (.isub, 1) := by decide +kernel
theorem dX12_isLike_13 : decode cX12_isLike 13 = .ok (.aload_n 0, 1) := by decide +kernel
theorem dX12_isLike_14 : decode cX12_isLike 14 = .ok (.getfield 84, 3) := by decide +kernel
theorem dX12_isLike_17 : decode cX12_isLike 17 = .ok (.if_icmp .eq 5, 3) := by decide +kernel
theorem dX12_isLike_20 : decode cX12_isLike 20 = .ok (.iconst 0, 1) := by decide +kernel
theorem dX12_isLike_21 : decode cX12_isLike 21 = .ok (.ireturn, 1) := by decide +kernel
theorem dX12_isLike_22 : decode cX12_isLike 22 = .ok (.iconst 0, 1) := by decide +kernel
theorem dX12_isLike_23 : decode cX12_isLike 23 = .ok (.istore_n 2, 1) := by decide +kernel
theorem dX12_isLike_24 : decode cX12_isLike 24 = .ok (.iload_n 2, 1) := by decide +kernel
theorem dX12_isLike_25 : decode cX12_isLike 25 = .ok (.aload_n 0, 1) := by decide +kernel
theorem dX12_isLike_26 : decode cX12_isLike 26 = .ok (.getfield 84, 3) := by decide +kernel
theorem dX12_isLike_29 : decode cX12_isLike 29 = .ok (.if_icmp .ge 33, 3) := by decide +kernel
theorem dX12_isLike_32 : decode cX12_isLike 32 = .ok (.aload_n 0, 1) := by decide +kernel
theorem dX12_isLike_33 : decode cX12_isLike 33 = .ok (.getfield 25, 3) := by decide +kernel
theorem dX12_isLike_36 : decode cX12_isLike 36 = .ok (.aload_n 0, 1) := by decide +kernel
theorem dX12_isLike_37 : decode cX12_isLike 37 = .ok (.getfield 28, 3) := by decide +kernel
theorem dX12_isLike_40 : decode cX12_isLike 40 = .ok (.iload_n 1, 1) := by decide +kernel
theorem dX12_isLike_41 : decode cX12_isLike 41 = .ok (.iaload, 1) := by decide +kernel
theorem dX12_isLike_42 : decode cX12_isLike 42 = .ok (.iload_n 2, 1) := by decide +kernel
theorem dX12_isLike_43 : decode cX12_isLike 43 = .ok (.iadd, 1) := by decide +kernel
theorem dX12_isLike_44 : decode cX12_isLike 44 = .ok (.iaload, 1) := by decide +kernel
theorem dX12_isLike_45 : decode cX12_isLike 45 = .ok (.aload_n 0, 1) := by decide +kernel
theorem dX12_isLike_46 : decode cX12_isLike 46 = .ok (.getfield 19, 3) := by decide +kernel
theorem dX12_isLike_49 : decode cX12_isLike 49 = .ok (.iload_n 2, 1) := by decide +kernel
theorem dX12_isLike_50 : decode cX12_isLike 50 = .ok (.iaload, 1) := by decide +kernel
theorem dX12_isLike_51 : decode cX12_isLike 51 = .ok (.if_icmp .eq 5, 3) := by decide +kernel
theorem dX12_isLike_54 : decode cX12_isLike 54 = .ok (.iconst 0, 1) := by decide +kernel
theorem dX12_isLike_55 : decode cX12_isLike 55 = .ok (.ireturn, 1) := by decide +kernel
theorem dX12_isLike_56 : decode cX12_isLike 56 = .ok (.iinc 2 1, 3) := by decide +kernel
theorem dX12_isLike_59 : decode cX12_isLike 59 = .ok (.goto (-35), 3) := by decide +kernel
theorem dX12_isLike_62 : decode cX12_isLike 62 = .ok (.iconst 1, 1) := by decide +kernel
theorem dX12_isLike_63 : decode cX12_isLike 63 = .ok (.ireturn, 1) := by decide +kernel
theorem dX12_apart_0 : decode cX12_apart 0 = .ok (.aload_n 0, 1) := by decide +kernel
theorem dX12_apart_1 : decode cX12_apart 1 = .ok (.getfield 31, 3) := by decide +kernel
theorem dX12_apart_4 : decode cX12_apart 4 = .ok (.iload_n 1, 1) := by decide +kernel
theorem dX12_apart_5 : decode cX12_apart 5 = .ok (.iaload, 1) := by decide +kernel
theorem dX12_apart_6 : decode cX12_apart 6 = .ok (.aload_n 0, 1) := by decide +kernel
theorem dX12_apart_7 : decode cX12_apart 7 = .ok (.getfield 28, 3) := by decide +kernel
theorem dX12_apart_10 : decode cX12_apart 10 = .ok (.iload_n 1, 1) := by decide +kernel
theorem dX12_apart_11 : decode cX12_apart 11 = .ok (.iaload, 1) := by decide +kernel
theorem dX12_apart_12 : decode cX12_apart 12 = .ok (.isub, 1) := by decide +kernel
theorem dX12_apart_13 : decode cX12_apart 13 = .ok (.istore_n 2, 1) := by decide +kernel
theorem dX12_apart_14 : decode cX12_apart 14 = .ok (.iconst 0, 1) := by decide +kernel
theorem dX12_apart_15 : decode cX12_apart 15 = .ok (.istore_n 3, 1) := by decide +kernel
theorem dX12_apart_16 : decode cX12_apart 16 = .ok (.iload_n 3, 1) := by decide +kernel
theorem dX12_apart_17 : decode cX12_apart 17 = .ok (.iload_n 2, 1) := by decide +kernel
theorem dX12_apart_18 : decode cX12_apart 18 = .ok (.if_icmp .gt 16, 3) := by decide +kernel
theorem dX12_apart_21 : decode cX12_apart 21 = .ok (.aload_n 0, 1) := by decide +kernel
theorem dX12_apart_22 : decode cX12_apart 22 = .ok (.getfield 34, 3) := by decide +kernel
theorem dX12_apart_25 : decode cX12_apart 25 = .ok (.iload_n 3, 1) := by decide +kernel
theorem dX12_apart_26 : decode cX12_apart 26 = .ok (.iload_n 3, 1) := by decide +kernel
theorem dX12_apart_27 : decode cX12_apart 27 = .ok (.iastore, 1) := by decide +kernel
theorem dX12_apart_28 : decode cX12_apart 28 = .ok (.iinc 3 1, 3) := by decide +kernel
theorem dX12_apart_31 : decode cX12_apart 31 = .ok (.goto (-15), 3) := by decide +kernel
theorem dX12_apart_34 : decode cX12_apart 34 = .ok (.iconst 1, 1) := by decide +kernel
theorem dX12_apart_35 : decode cX12_apart 35 = .ok (.istore_n 3, 1) := by decide +kernel
theorem dX12_apart_36 : decode cX12_apart 36 = .ok (.iload_n 3, 1) := by decide +kernel
theorem dX12_apart_37 : decode cX12_apart 37 = .ok (.aload_n 0, 1) := by decide +kernel
theorem dX12_apart_38 : decode cX12_apart 38 = .ok (.getfield 84, 3) := by decide +kernel
theorem dX12_apart_41 : decode cX12_apart 41 = .ok (.if_icmp .gt 133, 3) := by decide +kernel
theorem dX12_apart_44 : decode cX12_apart 44 = .ok (.aload_n 0, 1) := by decide +kernel
theorem dX12_apart_45 : decode cX12_apart 45 = .ok (.getfield 37, 3) := by decide +kernel
theorem dX12_apart_48 : decode cX12_apart 48 = .ok (.iconst 0, 1) := by decide +kernel
theorem dX12_apart_49 : decode cX12_apart 49 = .ok (.iload_n 3, 1) := by decide +kernel
theorem dX12_apart_50 : decode cX12_apart 50 = .ok (.iastore, 1) := by decide +kernel
theorem dX12_apart_51 : decode cX12_apart 51 = .ok (.iconst 1, 1) := by decide +kernel
theorem dX12_apart_52 : decode cX12_apart 52 = .ok (.istore 4, 2) := by decide +kernel
theorem dX12_apart_54 : decode cX12_apart 54 = .ok (.iload 4, 2) := by decide +kernel
theorem dX12_apart_56 : decode cX12_apart 56 = .ok (.iload_n 2, 1) := by decide +kernel
theorem dX12_apart_57 : decode cX12_apart 57 = .ok (.if_icmp .gt 82, 3) := by decide +kernel
theorem dX12_apart_60 : decode cX12_apart 60 = .ok (.aload_n 0, 1) := by decide +kernel
theorem dX12_apart_61 : decode cX12_apart 61 = .ok (.getfield 37, 3) := by decide +kernel
theorem dX12_apart_64 : decode cX12_apart 64 = .ok (.iload 4, 2) := by decide +kernel
theorem dX12_apart_66 : decode cX12_apart 66 = .ok (.aload_n 0, 1) := by decide +kernel
theorem dX12_apart_67 : decode cX12_apart 67 = .ok (.getfield 34, 3) := by decide +kernel
theorem dX12_apart_70 : decode cX12_apart 70 = .ok (.iload 4, 2) := by decide +kernel
theorem dX12_apart_72 : decode cX12_apart 72 = .ok (.iaload, 1) := by decide +kernel
theorem dX12_apart_73 : decode cX12_apart 73 = .ok (.aload_n 0, 1) := by decide +kernel
theorem dX12_apart_74 : decode cX12_apart 74 = .ok (.getfield 37, 3) := by decide +kernel
theorem dX12_apart_77 : decode cX12_apart 77 = .ok (.iload 4, 2) := by decide +kernel
theorem dX12_apart_79 : decode cX12_apart 79 = .ok (.iconst 1, 1) := by decide +kernel
theorem dX12_apart_80 : decode cX12_apart 80 = .ok (.isub, 1) := by decide +kernel
theorem dX12_apart_81 : decode cX12_apart 81 = .ok (.iaload, 1) := by decide +kernel
theorem dX12_apart_82 : decode cX12_apart 82 = .ok (.invokestatic 140, 3) := by decide +kernel
theorem dX12_apart_85 : decode cX12_apart 85 = .ok (.iconst 1, 1) := by decide +kernel
theorem dX12_apart_86 : decode cX12_apart 86 = .ok (.iadd, 1) := by decide +kernel
theorem dX12_apart_87 : decode cX12_apart 87 = .ok (.aload_n 0, 1) := by decide +kernel
theorem dX12_apart_88 : decode cX12_apart 88 = .ok (.getfield 34, 3) := by decide +kernel
theorem dX12_apart_91 : decode cX12_apart 91 = .ok (.iload 4, 2) := by decide +kernel
theorem dX12_apart_93 : decode cX12_apart 93 = .ok (.iconst 1, 1) := by decide +kernel
theorem dX12_apart_94 : decode cX12_apart 94 = .ok (.isub, 1) := by decide +kernel
theorem dX12_apart_95 : decode cX12_apart 95 = .ok (.iaload, 1) := by decide +kernel
theorem dX12_apart_96 : decode cX12_apart 96 = .ok (.aload_n 0, 1) := by decide +kernel
theorem dX12_apart_97 : decode cX12_apart 97 = .ok (.getfield 19, 3) := by decide +kernel
theorem dX12_apart_100 : decode cX12_apart 100 = .ok (.iload_n 3, 1) := by decide +kernel
theorem dX12_apart_101 : decode cX12_apart 101 = .ok (.iconst 1, 1) := by decide +kernel
theorem dX12_apart_102 : decode cX12_apart 102 = .ok (.isub, 1) := by decide +kernel
theorem dX12_apart_103 : decode cX12_apart 103 = .ok (.iaload, 1) := by decide +kernel
theorem dX12_apart_104 : decode cX12_apart 104 = .ok (.aload_n 0, 1) := by decide +kernel
theorem dX12_apart_105 : decode cX12_apart 105 = .ok (.getfield 25, 3) := by decide +kernel
theorem dX12_apart_108 : decode cX12_apart 108 = .ok (.aload_n 0, 1) := by decide +kernel
theorem dX12_apart_109 : decode cX12_apart 109 = .ok (.getfield 28, 3) := by decide +kernel
theorem dX12_apart_112 : decode cX12_apart 112 = .ok (.iload_n 1, 1) := by decide +kernel
theorem dX12_apart_113 : decode cX12_apart 113 = .ok (.iaload, 1) := by decide +kernel
theorem dX12_apart_114 : decode cX12_apart 114 = .ok (.iload 4, 2) := by decide +kernel
theorem dX12_apart_116 : decode cX12_apart 116 = .ok (.iadd, 1) := by decide +kernel
theorem dX12_apart_117 : decode cX12_apart 117 = .ok (.iconst 1, 1) := by decide +kernel
theorem dX12_apart_118 : decode cX12_apart 118 = .ok (.isub, 1) := by decide +kernel
theorem dX12_apart_119 : decode cX12_apart 119 = .ok (.iaload, 1) := by decide +kernel
theorem dX12_apart_120 : decode cX12_apart 120 = .ok (.if_icmp .ne 7, 3) := by decide +kernel
theorem dX12_apart_123 : decode cX12_apart 123 = .ok (.iconst 0, 1) := by decide +kernel
theorem dX12_apart_124 : decode cX12_apart 124 = .ok (.goto 4, 3) := by decide +kernel
theorem dX12_apart_127 : decode cX12_apart 127 = .ok (.iconst 1, 1) := by decide +kernel
theorem dX12_apart_128 : decode cX12_apart 128 = .ok (.iadd, 1) := by decide +kernel
theorem dX12_apart_129 : decode cX12_apart 129 = .ok (.invokestatic 140, 3) := by decide +kernel
theorem dX12_apart_132 : decode cX12_apart 132 = .ok (.iastore, 1) := by decide +kernel
theorem dX12_apart_133 : decode cX12_apart 133 = .ok (.iinc 4 1, 3) := by decide +kernel
theorem dX12_apart_136 : decode cX12_apart 136 = .ok (.goto (-82), 3) := by decide +kernel
theorem dX12_apart_139 : decode cX12_apart 139 = .ok (.iconst 0, 1) := by decide +kernel
theorem dX12_apart_140 : decode cX12_apart 140 = .ok (.istore 4, 2) := by decide +kernel
theorem dX12_apart_142 : decode cX12_apart 142 = .ok (.iload 4, 2) := by decide +kernel
theorem dX12_apart_144 : decode cX12_apart 144 = .ok (.iload_n 2, 1) := by decide +kernel
theorem dX12_apart_145 : decode cX12_apart 145 = .ok (.if_icmp .gt 23, 3) := by decide +kernel
theorem dX12_apart_148 : decode cX12_apart 148 = .ok (.aload_n 0, 1) := by decide +kernel
theorem dX12_apart_149 : decode cX12_apart 149 = .ok (.getfield 34, 3) := by decide +kernel
theorem dX12_apart_152 : decode cX12_apart 152 = .ok (.iload 4, 2) := by decide +kernel
theorem dX12_apart_154 : decode cX12_apart 154 = .ok (.aload_n 0, 1) := by decide +kernel
theorem dX12_apart_155 : decode cX12_apart 155 = .ok (.getfield 37, 3) := by decide +kernel
theorem dX12_apart_158 : decode cX12_apart 158 = .ok (.iload 4, 2) := by decide +kernel
theorem dX12_apart_160 : decode cX12_apart 160 = .ok (.iaload, 1) := by decide +kernel
theorem dX12_apart_161 : decode cX12_apart 161 = .ok (.iastore, 1) := by decide +kernel
theorem dX12_apart_162 : decode cX12_apart 162 = .ok (.iinc 4 1, 3) := by decide +kernel
theorem dX12_apart_165 : decode cX12_apart 165 = .ok (.goto (-23), 3) := by decide +kernel
theorem dX12_apart_168 : decode cX12_apart 168 = .ok (.iinc 3 1, 3) := by decide +kernel
theorem dX12_apart_171 : decode cX12_apart 171 = .ok (.goto (-135), 3) := by decide +kernel
theorem dX12_apart_174 : decode cX12_apart 174 = .ok (.aload_n 0, 1) := by decide +kernel
theorem dX12_apart_175 : decode cX12_apart 175 = .ok (.getfield 34, 3) := by decide +kernel
theorem dX12_apart_178 : decode cX12_apart 178 = .ok (.iload_n 2, 1) := by decide +kernel
theorem dX12_apart_179 : decode cX12_apart 179 = .ok (.iaload, 1) := by decide +kernel
theorem dX12_apart_180 : decode cX12_apart 180 = .ok (.ireturn, 1) := by decide +kernel
theorem dX12_atHole_0 : decode cX12_atHole 0 = .ok (.iload 6, 2) := by decide +kernel
theorem dX12_atHole_2 : decode cX12_atHole 2 = .ok (.ifCond .eq 8, 3) := by decide +kernel
theorem dX12_atHole_5 : decode cX12_atHole 5 = .ok (.ldc 207, 2) := by decide +kernel
theorem dX12_atHole_7 : decode cX12_atHole 7 = .ok (.goto 4, 3) := by decide +kernel
theorem dX12_atHole_10 : decode cX12_atHole 10 = .ok (.iconst 0, 1) := by decide +kernel
theorem dX12_atHole_11 : decode cX12_atHole 11 = .ok (.istore 7, 2) := by decide +kernel
theorem dX12_atHole_13 : decode cX12_atHole 13 = .ok (.iconst 0, 1) := by decide +kernel
theorem dX12_atHole_14 : decode cX12_atHole 14 = .ok (.istore 8, 2) := by decide +kernel
theorem dX12_atHole_16 : decode cX12_atHole 16 = .ok (.iload 8, 2) := by decide +kernel
theorem dX12_atHole_18 : decode cX12_atHole 18 = .ok (.aload_n 0, 1) := by decide +kernel
theorem dX12_atHole_19 : decode cX12_atHole 19 = .ok (.getfield 9, 3) := by decide +kernel
theorem dX12_atHole_22 : decode cX12_atHole 22 = .ok (.iconst 0, 1) := by decide +kernel
theorem dX12_atHole_23 : decode cX12_atHole 23 = .ok (.iaload, 1) := by decide +kernel
theorem dX12_atHole_24 : decode cX12_atHole 24 = .ok (.if_icmp .ge 76, 3) := by decide +kernel
theorem dX12_atHole_27 : decode cX12_atHole 27 = .ok (.aload_n 0, 1) := by decide +kernel
theorem dX12_atHole_28 : decode cX12_atHole 28 = .ok (.iload_n 1, 1) := by decide +kernel
theorem dX12_atHole_29 : decode cX12_atHole 29 = .ok (.iload_n 2, 1) := by decide +kernel
theorem dX12_atHole_30 : decode cX12_atHole 30 = .ok (.iload 8, 2) := by decide +kernel
theorem dX12_atHole_32 : decode cX12_atHole 32 = .ok (.invokevirtual 148, 3) := by decide +kernel
theorem dX12_atHole_35 : decode cX12_atHole 35 = .ok (.ifCond .ne 6, 3) := by decide +kernel
theorem dX12_atHole_38 : decode cX12_atHole 38 = .ok (.goto 56, 3) := by decide +kernel
theorem dX12_atHole_41 : decode cX12_atHole 41 = .ok (.aload_n 0, 1) := by decide +kernel
theorem dX12_atHole_42 : decode cX12_atHole 42 = .ok (.iload 8, 2) := by decide +kernel
theorem dX12_atHole_44 : decode cX12_atHole 44 = .ok (.iconst 0, 1) := by decide +kernel
theorem dX12_atHole_45 : decode cX12_atHole 45 = .ok (.aload_n 0, 1) := by decide +kernel
theorem dX12_atHole_46 : decode cX12_atHole 46 = .ok (.iload_n 1, 1) := by decide +kernel
theorem dX12_atHole_47 : decode cX12_atHole 47 = .ok (.iload_n 2, 1) := by decide +kernel
theorem dX12_atHole_48 : decode cX12_atHole 48 = .ok (.iconst 2, 1) := by decide +kernel
theorem dX12_atHole_49 : decode cX12_atHole 49 = .ok (.invokevirtual 115, 3) := by decide +kernel
theorem dX12_atHole_52 : decode cX12_atHole 52 = .ok (.invokestatic 163, 3) := by decide +kernel
theorem dX12_atHole_55 : decode cX12_atHole 55 = .ok (.iload_n 3, 1) := by decide +kernel
theorem dX12_atHole_56 : decode cX12_atHole 56 = .ok (.iload 4, 2) := by decide +kernel
theorem dX12_atHole_58 : decode cX12_atHole 58 = .ok (.iload 5, 2) := by decide +kernel
theorem dX12_atHole_60 : decode cX12_atHole 60 = .ok (.invokevirtual 111, 3) := by decide +kernel
theorem dX12_atHole_63 : decode cX12_atHole 63 = .ok (.iload 6, 2) := by decide +kernel
theorem dX12_atHole_65 : decode cX12_atHole 65 = .ok (.ifCond .eq 18, 3) := by decide +kernel
theorem dX12_atHole_68 : decode cX12_atHole 68 = .ok (.iload 7, 2) := by decide +kernel
theorem dX12_atHole_70 : decode cX12_atHole 70 = .ok (.aload_n 0, 1) := by decide +kernel
theorem dX12_atHole_71 : decode cX12_atHole 71 = .ok (.iload_n 2, 1) := by decide +kernel
theorem dX12_atHole_72 : decode cX12_atHole 72 = .ok (.invokevirtual 208, 3) := by decide +kernel
theorem dX12_atHole_75 : decode cX12_atHole 75 = .ok (.invokestatic 140, 3) := by decide +kernel
theorem dX12_atHole_78 : decode cX12_atHole 78 = .ok (.istore 7, 2) := by decide +kernel
theorem dX12_atHole_80 : decode cX12_atHole 80 = .ok (.goto 14, 3) := by decide +kernel
theorem dX12_atHole_83 : decode cX12_atHole 83 = .ok (.aload_n 0, 1) := by decide +kernel
theorem dX12_atHole_84 : decode cX12_atHole 84 = .ok (.iload_n 2, 1) := by decide +kernel
theorem dX12_atHole_85 : decode cX12_atHole 85 = .ok (.invokevirtual 211, 3) := by decide +kernel
theorem dX12_atHole_88 : decode cX12_atHole 88 = .ok (.ifCond .eq 6, 3) := by decide +kernel
theorem dX12_atHole_91 : decode cX12_atHole 91 = .ok (.iinc 7 1, 3) := by decide +kernel
theorem dX12_atHole_94 : decode cX12_atHole 94 = .ok (.iinc 8 1, 3) := by decide +kernel
theorem dX12_atHole_97 : decode cX12_atHole 97 = .ok (.goto (-81), 3) := by decide +kernel
theorem dX12_atHole_100 : decode cX12_atHole 100 = .ok (.iload 7, 2) := by decide +kernel
theorem dX12_atHole_102 : decode cX12_atHole 102 = .ok (.ireturn, 1) := by decide +kernel
theorem dX12_byNoun_0 : decode cX12_byNoun 0 = .ok (.aload_n 0, 1) := by decide +kernel
theorem dX12_byNoun_1 : decode cX12_byNoun 1 = .ok (.iload_n 1, 1) := by decide +kernel
theorem dX12_byNoun_2 : decode cX12_byNoun 2 = .ok (.iload_n 2, 1) := by decide +kernel
theorem dX12_byNoun_3 : decode cX12_byNoun 3 = .ok (.invokevirtual 160, 3) := by decide +kernel
theorem dX12_byNoun_6 : decode cX12_byNoun 6 = .ok (.istore 7, 2) := by decide +kernel
theorem dX12_byNoun_8 : decode cX12_byNoun 8 = .ok (.aload_n 0, 1) := by decide +kernel
theorem dX12_byNoun_9 : decode cX12_byNoun 9 = .ok (.iload_n 3, 1) := by decide +kernel
theorem dX12_byNoun_10 : decode cX12_byNoun 10 = .ok (.aload_n 0, 1) := by decide +kernel
theorem dX12_byNoun_11 : decode cX12_byNoun 11 = .ok (.iload_n 1, 1) := by decide +kernel
theorem dX12_byNoun_12 : decode cX12_byNoun 12 = .ok (.iload 7, 2) := by decide +kernel
theorem dX12_byNoun_14 : decode cX12_byNoun 14 = .ok (.iconst 2, 1) := by decide +kernel
theorem dX12_byNoun_15 : decode cX12_byNoun 15 = .ok (.invokevirtual 115, 3) := by decide +kernel
theorem dX12_byNoun_18 : decode cX12_byNoun 18 = .ok (.iload 4, 2) := by decide +kernel
theorem dX12_byNoun_20 : decode cX12_byNoun 20 = .ok (.aload_n 0, 1) := by decide +kernel
theorem dX12_byNoun_21 : decode cX12_byNoun 21 = .ok (.iload_n 3, 1) := by decide +kernel
theorem dX12_byNoun_22 : decode cX12_byNoun 22 = .ok (.invokevirtual 108, 3) := by decide +kernel
theorem dX12_byNoun_25 : decode cX12_byNoun 25 = .ok (.iload 5, 2) := by decide +kernel
theorem dX12_byNoun_27 : decode cX12_byNoun 27 = .ok (.invokevirtual 111, 3) := by decide +kernel
theorem dX12_byNoun_30 : decode cX12_byNoun 30 = .ok (.iload 6, 2) := by decide +kernel
theorem dX12_byNoun_32 : decode cX12_byNoun 32 = .ok (.ifCond .eq 12, 3) := by decide +kernel
theorem dX12_byNoun_35 : decode cX12_byNoun 35 = .ok (.aload_n 0, 1) := by decide +kernel
theorem dX12_byNoun_36 : decode cX12_byNoun 36 = .ok (.iload 7, 2) := by decide +kernel
theorem dX12_byNoun_38 : decode cX12_byNoun 38 = .ok (.invokevirtual 208, 3) := by decide +kernel
theorem dX12_byNoun_41 : decode cX12_byNoun 41 = .ok (.goto 17, 3) := by decide +kernel
theorem dX12_byNoun_44 : decode cX12_byNoun 44 = .ok (.aload_n 0, 1) := by decide +kernel
theorem dX12_byNoun_45 : decode cX12_byNoun 45 = .ok (.iload 7, 2) := by decide +kernel
theorem dX12_byNoun_47 : decode cX12_byNoun 47 = .ok (.invokevirtual 211, 3) := by decide +kernel
theorem dX12_byNoun_50 : decode cX12_byNoun 50 = .ok (.ifCond .eq 7, 3) := by decide +kernel
theorem dX12_byNoun_53 : decode cX12_byNoun 53 = .ok (.iconst 1, 1) := by decide +kernel
theorem dX12_byNoun_54 : decode cX12_byNoun 54 = .ok (.goto 4, 3) := by decide +kernel
theorem dX12_byNoun_57 : decode cX12_byNoun 57 = .ok (.iconst 0, 1) := by decide +kernel
theorem dX12_byNoun_58 : decode cX12_byNoun 58 = .ok (.istore 8, 2) := by decide +kernel
theorem dX12_byNoun_60 : decode cX12_byNoun 60 = .ok (.iconst 0, 1) := by decide +kernel
theorem dX12_byNoun_61 : decode cX12_byNoun 61 = .ok (.istore 9, 2) := by decide +kernel
theorem dX12_byNoun_63 : decode cX12_byNoun 63 = .ok (.iload 9, 2) := by decide +kernel
theorem dX12_byNoun_65 : decode cX12_byNoun 65 = .ok (.aload_n 0, 1) := by decide +kernel
theorem dX12_byNoun_66 : decode cX12_byNoun 66 = .ok (.iload_n 1, 1) := by decide +kernel
theorem dX12_byNoun_67 : decode cX12_byNoun 67 = .ok (.invokevirtual 154, 3) := by decide +kernel
theorem dX12_byNoun_70 : decode cX12_byNoun 70 = .ok (.if_icmp .ge 81, 3) := by decide +kernel
theorem dX12_byNoun_73 : decode cX12_byNoun 73 = .ok (.iload 6, 2) := by decide +kernel
theorem dX12_byNoun_75 : decode cX12_byNoun 75 = .ok (.ifCond .ne 8, 3) := by decide +kernel
theorem dX12_byNoun_78 : decode cX12_byNoun 78 = .ok (.iload 8, 2) := by decide +kernel
theorem dX12_byNoun_80 : decode cX12_byNoun 80 = .ok (.ifCond .le 71, 3) := by decide +kernel
theorem dX12_byNoun_83 : decode cX12_byNoun 83 = .ok (.iload 9, 2) := by decide +kernel
theorem dX12_byNoun_85 : decode cX12_byNoun 85 = .ok (.iload 7, 2) := by decide +kernel
theorem dX12_byNoun_87 : decode cX12_byNoun 87 = .ok (.if_icmp .eq 58, 3) := by decide +kernel
theorem dX12_byNoun_90 : decode cX12_byNoun 90 = .ok (.aload_n 0, 1) := by decide +kernel
theorem dX12_byNoun_91 : decode cX12_byNoun 91 = .ok (.iload_n 1, 1) := by decide +kernel
theorem dX12_byNoun_92 : decode cX12_byNoun 92 = .ok (.iload 9, 2) := by decide +kernel
theorem dX12_byNoun_94 : decode cX12_byNoun 94 = .ok (.iconst 1, 1) := by decide +kernel
theorem dX12_byNoun_95 : decode cX12_byNoun 95 = .ok (.invokevirtual 115, 3) := by decide +kernel
theorem dX12_byNoun_98 : decode cX12_byNoun 98 = .ok (.iload_n 2, 1) := by decide +kernel
theorem dX12_byNoun_99 : decode cX12_byNoun 99 = .ok (.if_icmp .eq 6, 3) := by decide +kernel
theorem dX12_byNoun_102 : decode cX12_byNoun 102 = .ok (.goto 43, 3) := by decide +kernel
theorem dX12_byNoun_105 : decode cX12_byNoun 105 = .ok (.aload_n 0, 1) := by decide +kernel
theorem dX12_byNoun_106 : decode cX12_byNoun 106 = .ok (.iload_n 1, 1) := by decide +kernel
theorem dX12_byNoun_107 : decode cX12_byNoun 107 = .ok (.iload 9, 2) := by decide +kernel
theorem dX12_byNoun_109 : decode cX12_byNoun 109 = .ok (.iload 4, 2) := by decide +kernel
theorem dX12_byNoun_111 : decode cX12_byNoun 111 = .ok (.aload_n 0, 1) := by decide +kernel
theorem dX12_byNoun_112 : decode cX12_byNoun 112 = .ok (.iload_n 3, 1) := by decide +kernel
theorem dX12_byNoun_113 : decode cX12_byNoun 113 = .ok (.invokevirtual 108, 3) := by decide +kernel
theorem dX12_byNoun_116 : decode cX12_byNoun 116 = .ok (.iload 5, 2) := by decide +kernel
theorem dX12_byNoun_118 : decode cX12_byNoun 118 = .ok (.iload 6, 2) := by decide +kernel
theorem dX12_byNoun_120 : decode cX12_byNoun 120 = .ok (.invokevirtual 214, 3) := by decide +kernel
theorem dX12_byNoun_123 : decode cX12_byNoun 123 = .ok (.istore 10, 2) := by decide +kernel
theorem dX12_byNoun_125 : decode cX12_byNoun 125 = .ok (.iload 6, 2) := by decide +kernel
theorem dX12_byNoun_127 : decode cX12_byNoun 127 = .ok (.ifCond .eq 11, 3) := by decide +kernel
theorem dX12_byNoun_130 : decode cX12_byNoun 130 = .ok (.iload 8, 2) := by decide +kernel
theorem dX12_byNoun_132 : decode cX12_byNoun 132 = .ok (.iload 10, 2) := by decide +kernel
theorem dX12_byNoun_134 : decode cX12_byNoun 134 = .ok (.iadd, 1) := by decide +kernel
theorem dX12_byNoun_135 : decode cX12_byNoun 135 = .ok (.goto 8, 3) := by decide +kernel
theorem dX12_byNoun_138 : decode cX12_byNoun 138 = .ok (.iload 8, 2) := by decide +kernel
theorem dX12_byNoun_140 : decode cX12_byNoun 140 = .ok (.iload 10, 2) := by decide +kernel
theorem dX12_byNoun_142 : decode cX12_byNoun 142 = .ok (.imul, 1) := by decide +kernel
theorem dX12_byNoun_143 : decode cX12_byNoun 143 = .ok (.istore 8, 2) := by decide +kernel
theorem dX12_byNoun_145 : decode cX12_byNoun 145 = .ok (.iinc 9 1, 3) := by decide +kernel
theorem dX12_byNoun_148 : decode cX12_byNoun 148 = .ok (.goto (-85), 3) := by decide +kernel
theorem dX12_byNoun_151 : decode cX12_byNoun 151 = .ok (.iload 8, 2) := by decide +kernel
theorem dX12_byNoun_153 : decode cX12_byNoun 153 = .ok (.ireturn, 1) := by decide +kernel
theorem dX12_byGroup_0 : decode cX12_byGroup 0 = .ok (.iload 4, 2) := by decide +kernel
theorem dX12_byGroup_2 : decode cX12_byGroup 2 = .ok (.ifCond .eq 8, 3) := by decide +kernel
theorem dX12_byGroup_5 : decode cX12_byGroup 5 = .ok (.ldc 207, 2) := by decide +kernel
theorem dX12_byGroup_7 : decode cX12_byGroup 7 = .ok (.goto 4, 3) := by decide +kernel
theorem dX12_byGroup_10 : decode cX12_byGroup 10 = .ok (.iconst 0, 1) := by decide +kernel
theorem dX12_byGroup_11 : decode cX12_byGroup 11 = .ok (.istore 5, 2) := by decide +kernel
theorem dX12_byGroup_13 : decode cX12_byGroup 13 = .ok (.iconst 0, 1) := by decide +kernel
theorem dX12_byGroup_14 : decode cX12_byGroup 14 = .ok (.istore 6, 2) := by decide +kernel
theorem dX12_byGroup_16 : decode cX12_byGroup 16 = .ok (.iload 6, 2) := by decide +kernel
theorem dX12_byGroup_18 : decode cX12_byGroup 18 = .ok (.aload_n 0, 1) := by decide +kernel
theorem dX12_byGroup_19 : decode cX12_byGroup 19 = .ok (.getfield 9, 3) := by decide +kernel
theorem dX12_byGroup_22 : decode cX12_byGroup 22 = .ok (.iconst 0, 1) := by decide +kernel
theorem dX12_byGroup_23 : decode cX12_byGroup 23 = .ok (.iaload, 1) := by decide +kernel
theorem dX12_byGroup_24 : decode cX12_byGroup 24 = .ok (.if_icmp .ge 94, 3) := by decide +kernel
theorem dX12_byGroup_27 : decode cX12_byGroup 27 = .ok (.aload_n 0, 1) := by decide +kernel
theorem dX12_byGroup_28 : decode cX12_byGroup 28 = .ok (.iload_n 1, 1) := by decide +kernel
theorem dX12_byGroup_29 : decode cX12_byGroup 29 = .ok (.aload_n 0, 1) := by decide +kernel
theorem dX12_byGroup_30 : decode cX12_byGroup 30 = .ok (.iload_n 1, 1) := by decide +kernel
theorem dX12_byGroup_31 : decode cX12_byGroup 31 = .ok (.iload_n 2, 1) := by decide +kernel
theorem dX12_byGroup_32 : decode cX12_byGroup 32 = .ok (.invokevirtual 160, 3) := by decide +kernel
theorem dX12_byGroup_35 : decode cX12_byGroup 35 = .ok (.iload 6, 2) := by decide +kernel
theorem dX12_byGroup_37 : decode cX12_byGroup 37 = .ok (.invokevirtual 148, 3) := by decide +kernel
theorem dX12_byGroup_40 : decode cX12_byGroup 40 = .ok (.ifCond .ne 6, 3) := by decide +kernel
theorem dX12_byGroup_43 : decode cX12_byGroup 43 = .ok (.goto 69, 3) := by decide +kernel
theorem dX12_byGroup_46 : decode cX12_byGroup 46 = .ok (.iconst 0, 1) := by decide +kernel
theorem dX12_byGroup_47 : decode cX12_byGroup 47 = .ok (.istore 7, 2) := by decide +kernel
theorem dX12_byGroup_49 : decode cX12_byGroup 49 = .ok (.iload 7, 2) := by decide +kernel
theorem dX12_byGroup_51 : decode cX12_byGroup 51 = .ok (.aload_n 0, 1) := by decide +kernel
theorem dX12_byGroup_52 : decode cX12_byGroup 52 = .ok (.iload 6, 2) := by decide +kernel
theorem dX12_byGroup_54 : decode cX12_byGroup 54 = .ok (.invokevirtual 101, 3) := by decide +kernel
theorem dX12_byGroup_57 : decode cX12_byGroup 57 = .ok (.iconst 3, 1) := by decide +kernel
theorem dX12_byGroup_58 : decode cX12_byGroup 58 = .ok (.if_icmp .ne 7, 3) := by decide +kernel
theorem dX12_byGroup_61 : decode cX12_byGroup 61 = .ok (.iconst 1, 1) := by decide +kernel
theorem dX12_byGroup_62 : decode cX12_byGroup 62 = .ok (.goto 4, 3) := by decide +kernel
theorem dX12_byGroup_65 : decode cX12_byGroup 65 = .ok (.iconst 2, 1) := by decide +kernel
theorem dX12_byGroup_66 : decode cX12_byGroup 66 = .ok (.if_icmp .ge 46, 3) := by decide +kernel
theorem dX12_byGroup_69 : decode cX12_byGroup 69 = .ok (.aload_n 0, 1) := by decide +kernel
theorem dX12_byGroup_70 : decode cX12_byGroup 70 = .ok (.iload_n 1, 1) := by decide +kernel
theorem dX12_byGroup_71 : decode cX12_byGroup 71 = .ok (.iload_n 2, 1) := by decide +kernel
theorem dX12_byGroup_72 : decode cX12_byGroup 72 = .ok (.iload 6, 2) := by decide +kernel
theorem dX12_byGroup_74 : decode cX12_byGroup 74 = .ok (.iload 7, 2) := by decide +kernel
theorem dX12_byGroup_76 : decode cX12_byGroup 76 = .ok (.iload_n 3, 1) := by decide +kernel
theorem dX12_byGroup_77 : decode cX12_byGroup 77 = .ok (.iload 4, 2) := by decide +kernel
theorem dX12_byGroup_79 : decode cX12_byGroup 79 = .ok (.invokevirtual 218, 3) := by decide +kernel
theorem dX12_byGroup_82 : decode cX12_byGroup 82 = .ok (.istore 8, 2) := by decide +kernel
theorem dX12_byGroup_84 : decode cX12_byGroup 84 = .ok (.iload 4, 2) := by decide +kernel
theorem dX12_byGroup_86 : decode cX12_byGroup 86 = .ok (.ifCond .eq 13, 3) := by decide +kernel
theorem dX12_byGroup_89 : decode cX12_byGroup 89 = .ok (.iload 5, 2) := by decide +kernel
theorem dX12_byGroup_91 : decode cX12_byGroup 91 = .ok (.iload 8, 2) := by decide +kernel
theorem dX12_byGroup_93 : decode cX12_byGroup 93 = .ok (.invokestatic 140, 3) := by decide +kernel
theorem dX12_byGroup_96 : decode cX12_byGroup 96 = .ok (.goto 8, 3) := by decide +kernel
theorem dX12_byGroup_99 : decode cX12_byGroup 99 = .ok (.iload 5, 2) := by decide +kernel
theorem dX12_byGroup_101 : decode cX12_byGroup 101 = .ok (.iload 8, 2) := by decide +kernel
theorem dX12_byGroup_103 : decode cX12_byGroup 103 = .ok (.iadd, 1) := by decide +kernel
theorem dX12_byGroup_104 : decode cX12_byGroup 104 = .ok (.istore 5, 2) := by decide +kernel
theorem dX12_byGroup_106 : decode cX12_byGroup 106 = .ok (.iinc 7 1, 3) := by decide +kernel
theorem dX12_byGroup_109 : decode cX12_byGroup 109 = .ok (.goto (-60), 3) := by decide +kernel
theorem dX12_byGroup_112 : decode cX12_byGroup 112 = .ok (.iinc 6 1, 3) := by decide +kernel
theorem dX12_byGroup_115 : decode cX12_byGroup 115 = .ok (.goto (-99), 3) := by decide +kernel
theorem dX12_byGroup_118 : decode cX12_byGroup 118 = .ok (.iload 5, 2) := by decide +kernel
theorem dX12_byGroup_120 : decode cX12_byGroup 120 = .ok (.ireturn, 1) := by decide +kernel
theorem dX12_byFrame_0 : decode cX12_byFrame 0 = .ok (.iload_n 3, 1) := by decide +kernel
theorem dX12_byFrame_1 : decode cX12_byFrame 1 = .ok (.ifCond .eq 7, 3) := by decide +kernel
theorem dX12_byFrame_4 : decode cX12_byFrame 4 = .ok (.iconst 0, 1) := by decide +kernel
theorem dX12_byFrame_5 : decode cX12_byFrame 5 = .ok (.goto 4, 3) := by decide +kernel
theorem dX12_byFrame_8 : decode cX12_byFrame 8 = .ok (.iconst 1, 1) := by decide +kernel
theorem dX12_byFrame_9 : decode cX12_byFrame 9 = .ok (.istore 4, 2) := by decide +kernel
theorem dX12_byFrame_11 : decode cX12_byFrame 11 = .ok (.iconst 0, 1) := by decide +kernel
theorem dX12_byFrame_12 : decode cX12_byFrame 12 = .ok (.istore 5, 2) := by decide +kernel
theorem dX12_byFrame_14 : decode cX12_byFrame 14 = .ok (.iload 5, 2) := by decide +kernel
theorem dX12_byFrame_16 : decode cX12_byFrame 16 = .ok (.aload_n 0, 1) := by decide +kernel
theorem dX12_byFrame_17 : decode cX12_byFrame 17 = .ok (.iload_n 1, 1) := by decide +kernel
theorem dX12_byFrame_18 : decode cX12_byFrame 18 = .ok (.invokevirtual 154, 3) := by decide +kernel
theorem dX12_byFrame_21 : decode cX12_byFrame 21 = .ok (.if_icmp .ge 101, 3) := by decide +kernel
theorem dX12_byFrame_24 : decode cX12_byFrame 24 = .ok (.aload_n 0, 1) := by decide +kernel
theorem dX12_byFrame_25 : decode cX12_byFrame 25 = .ok (.iload_n 1, 1) := by decide +kernel
theorem dX12_byFrame_26 : decode cX12_byFrame 26 = .ok (.iload 5, 2) := by decide +kernel
theorem dX12_byFrame_28 : decode cX12_byFrame 28 = .ok (.iconst 0, 1) := by decide +kernel
theorem dX12_byFrame_29 : decode cX12_byFrame 29 = .ok (.invokevirtual 115, 3) := by decide +kernel
theorem dX12_byFrame_32 : decode cX12_byFrame 32 = .ok (.bipush 110, 2) := by decide +kernel
theorem dX12_byFrame_34 : decode cX12_byFrame 34 = .ok (.if_icmp .eq 19, 3) := by decide +kernel
theorem dX12_byFrame_37 : decode cX12_byFrame 37 = .ok (.aload_n 0, 1) := by decide +kernel
theorem dX12_byFrame_38 : decode cX12_byFrame 38 = .ok (.iload_n 1, 1) := by decide +kernel
theorem dX12_byFrame_39 : decode cX12_byFrame 39 = .ok (.iload 5, 2) := by decide +kernel
theorem dX12_byFrame_41 : decode cX12_byFrame 41 = .ok (.iconst 0, 1) := by decide +kernel
theorem dX12_byFrame_42 : decode cX12_byFrame 42 = .ok (.invokevirtual 115, 3) := by decide +kernel
theorem dX12_byFrame_45 : decode cX12_byFrame 45 = .ok (.bipush 112, 2) := by decide +kernel
theorem dX12_byFrame_47 : decode cX12_byFrame 47 = .ok (.if_icmp .eq 6, 3) := by decide +kernel
theorem dX12_byFrame_50 : decode cX12_byFrame 50 = .ok (.goto 66, 3) := by decide +kernel
theorem dX12_byFrame_53 : decode cX12_byFrame 53 = .ok (.aload_n 0, 1) := by decide +kernel
theorem dX12_byFrame_54 : decode cX12_byFrame 54 = .ok (.iload_n 1, 1) := by decide +kernel
theorem dX12_byFrame_55 : decode cX12_byFrame 55 = .ok (.iload 5, 2) := by decide +kernel
theorem dX12_byFrame_57 : decode cX12_byFrame 57 = .ok (.iconst 0, 1) := by decide +kernel
theorem dX12_byFrame_58 : decode cX12_byFrame 58 = .ok (.invokevirtual 115, 3) := by decide +kernel
theorem dX12_byFrame_61 : decode cX12_byFrame 61 = .ok (.bipush 112, 2) := by decide +kernel
theorem dX12_byFrame_63 : decode cX12_byFrame 63 = .ok (.if_icmp .ne 17, 3) := by decide +kernel
theorem dX12_byFrame_66 : decode cX12_byFrame 66 = .ok (.aload_n 0, 1) := by decide +kernel
theorem dX12_byFrame_67 : decode cX12_byFrame 67 = .ok (.iload_n 1, 1) := by decide +kernel
theorem dX12_byFrame_68 : decode cX12_byFrame 68 = .ok (.iload 5, 2) := by decide +kernel
theorem dX12_byFrame_70 : decode cX12_byFrame 70 = .ok (.iconst 0, 1) := by decide +kernel
theorem dX12_byFrame_71 : decode cX12_byFrame 71 = .ok (.iconst 0, 1) := by decide +kernel
theorem dX12_byFrame_72 : decode cX12_byFrame 72 = .ok (.iconst 0, 1) := by decide +kernel
theorem dX12_byFrame_73 : decode cX12_byFrame 73 = .ok (.iload_n 3, 1) := by decide +kernel
theorem dX12_byFrame_74 : decode cX12_byFrame 74 = .ok (.invokevirtual 214, 3) := by decide +kernel
theorem dX12_byFrame_77 : decode cX12_byFrame 77 = .ok (.goto 18, 3) := by decide +kernel
theorem dX12_byFrame_80 : decode cX12_byFrame 80 = .ok (.aload_n 0, 1) := by decide +kernel
theorem dX12_byFrame_81 : decode cX12_byFrame 81 = .ok (.iload_n 1, 1) := by decide +kernel
theorem dX12_byFrame_82 : decode cX12_byFrame 82 = .ok (.aload_n 0, 1) := by decide +kernel
theorem dX12_byFrame_83 : decode cX12_byFrame 83 = .ok (.iload_n 1, 1) := by decide +kernel
theorem dX12_byFrame_84 : decode cX12_byFrame 84 = .ok (.iload 5, 2) := by decide +kernel
theorem dX12_byFrame_86 : decode cX12_byFrame 86 = .ok (.iconst 1, 1) := by decide +kernel
theorem dX12_byFrame_87 : decode cX12_byFrame 87 = .ok (.invokevirtual 115, 3) := by decide +kernel
theorem dX12_byFrame_90 : decode cX12_byFrame 90 = .ok (.iload_n 2, 1) := by decide +kernel
theorem dX12_byFrame_91 : decode cX12_byFrame 91 = .ok (.iload_n 3, 1) := by decide +kernel
theorem dX12_byFrame_92 : decode cX12_byFrame 92 = .ok (.invokevirtual 221, 3) := by decide +kernel
theorem dX12_byFrame_95 : decode cX12_byFrame 95 = .ok (.istore 6, 2) := by decide +kernel
theorem dX12_byFrame_97 : decode cX12_byFrame 97 = .ok (.iload_n 3, 1) := by decide +kernel
theorem dX12_byFrame_98 : decode cX12_byFrame 98 = .ok (.ifCond .eq 11, 3) := by decide +kernel
theorem dX12_byFrame_101 : decode cX12_byFrame 101 = .ok (.iload 4, 2) := by decide +kernel
theorem dX12_byFrame_103 : decode cX12_byFrame 103 = .ok (.iload 6, 2) := by decide +kernel
theorem dX12_byFrame_105 : decode cX12_byFrame 105 = .ok (.iadd, 1) := by decide +kernel
theorem dX12_byFrame_106 : decode cX12_byFrame 106 = .ok (.goto 8, 3) := by decide +kernel
theorem dX12_byFrame_109 : decode cX12_byFrame 109 = .ok (.iload 4, 2) := by decide +kernel
theorem dX12_byFrame_111 : decode cX12_byFrame 111 = .ok (.iload 6, 2) := by decide +kernel
theorem dX12_byFrame_113 : decode cX12_byFrame 113 = .ok (.imul, 1) := by decide +kernel
theorem dX12_byFrame_114 : decode cX12_byFrame 114 = .ok (.istore 4, 2) := by decide +kernel
theorem dX12_byFrame_116 : decode cX12_byFrame 116 = .ok (.iinc 5 1, 3) := by decide +kernel
theorem dX12_byFrame_119 : decode cX12_byFrame 119 = .ok (.goto (-105), 3) := by decide +kernel
theorem dX12_byFrame_122 : decode cX12_byFrame 122 = .ok (.iload 4, 2) := by decide +kernel
theorem dX12_byFrame_124 : decode cX12_byFrame 124 = .ok (.ireturn, 1) := by decide +kernel
theorem dX12_counted_0 : decode cX12_counted 0 = .ok (.iconst 0, 1) := by decide +kernel
theorem dX12_counted_1 : decode cX12_counted 1 = .ok (.istore_n 1, 1) := by decide +kernel
theorem dX12_counted_2 : decode cX12_counted 2 = .ok (.aload_n 0, 1) := by decide +kernel
theorem dX12_counted_3 : decode cX12_counted 3 = .ok (.iconst (-1), 1) := by decide +kernel
theorem dX12_counted_4 : decode cX12_counted 4 = .ok (.putfield 225, 3) := by decide +kernel
theorem dX12_counted_7 : decode cX12_counted 7 = .ok (.aload_n 0, 1) := by decide +kernel
theorem dX12_counted_8 : decode cX12_counted 8 = .ok (.iconst (-1), 1) := by decide +kernel
theorem dX12_counted_9 : decode cX12_counted 9 = .ok (.putfield 228, 3) := by decide +kernel
theorem dX12_counted_12 : decode cX12_counted 12 = .ok (.aload_n 0, 1) := by decide +kernel
theorem dX12_counted_13 : decode cX12_counted 13 = .ok (.invokevirtual 231, 3) := by decide +kernel
theorem dX12_counted_16 : decode cX12_counted 16 = .ok (.iconst 0, 1) := by decide +kernel
theorem dX12_counted_17 : decode cX12_counted 17 = .ok (.istore_n 2, 1) := by decide +kernel
theorem dX12_counted_18 : decode cX12_counted 18 = .ok (.iload_n 2, 1) := by decide +kernel
theorem dX12_counted_19 : decode cX12_counted 19 = .ok (.aload_n 0, 1) := by decide +kernel
theorem dX12_counted_20 : decode cX12_counted 20 = .ok (.getfield 9, 3) := by decide +kernel
theorem dX12_counted_23 : decode cX12_counted 23 = .ok (.iconst 1, 1) := by decide +kernel
theorem dX12_counted_24 : decode cX12_counted 24 = .ok (.iaload, 1) := by decide +kernel
theorem dX12_counted_25 : decode cX12_counted 25 = .ok (.if_icmp .ge 70, 3) := by decide +kernel
theorem dX12_counted_28 : decode cX12_counted 28 = .ok (.aload_n 0, 1) := by decide +kernel
theorem dX12_counted_29 : decode cX12_counted 29 = .ok (.iload_n 2, 1) := by decide +kernel
theorem dX12_counted_30 : decode cX12_counted 30 = .ok (.invokevirtual 154, 3) := by decide +kernel
theorem dX12_counted_33 : decode cX12_counted 33 = .ok (.aload_n 0, 1) := by decide +kernel
theorem dX12_counted_34 : decode cX12_counted 34 = .ok (.getfield 204, 3) := by decide +kernel
theorem dX12_counted_37 : decode cX12_counted 37 = .ok (.if_icmp .eq 6, 3) := by decide +kernel
theorem dX12_counted_40 : decode cX12_counted 40 = .ok (.goto 49, 3) := by decide +kernel
theorem dX12_counted_43 : decode cX12_counted 43 = .ok (.iconst 0, 1) := by decide +kernel
theorem dX12_counted_44 : decode cX12_counted 44 = .ok (.istore_n 3, 1) := by decide +kernel
theorem dX12_counted_45 : decode cX12_counted 45 = .ok (.iload_n 3, 1) := by decide +kernel
theorem dX12_counted_46 : decode cX12_counted 46 = .ok (.iconst 4, 1) := by decide +kernel
theorem dX12_counted_47 : decode cX12_counted 47 = .ok (.if_icmp .ge 42, 3) := by decide +kernel
theorem dX12_counted_50 : decode cX12_counted 50 = .ok (.aload_n 0, 1) := by decide +kernel
theorem dX12_counted_51 : decode cX12_counted 51 = .ok (.iload_n 2, 1) := by decide +kernel
theorem dX12_counted_52 : decode cX12_counted 52 = .ok (.iload_n 3, 1) := by decide +kernel
theorem dX12_counted_53 : decode cX12_counted 53 = .ok (.iconst 0, 1) := by decide +kernel
theorem dX12_counted_54 : decode cX12_counted 54 = .ok (.invokevirtual 234, 3) := by decide +kernel
theorem dX12_counted_57 : decode cX12_counted 57 = .ok (.istore 4, 2) := by decide +kernel
theorem dX12_counted_59 : decode cX12_counted 59 = .ok (.iload 4, 2) := by decide +kernel
theorem dX12_counted_61 : decode cX12_counted 61 = .ok (.ifCond .le 17, 3) := by decide +kernel
theorem dX12_counted_64 : decode cX12_counted 64 = .ok (.iload_n 1, 1) := by decide +kernel
theorem dX12_counted_65 : decode cX12_counted 65 = .ok (.ifCond .ne 13, 3) := by decide +kernel
theorem dX12_counted_68 : decode cX12_counted 68 = .ok (.aload_n 0, 1) := by decide +kernel
theorem dX12_counted_69 : decode cX12_counted 69 = .ok (.iload_n 2, 1) := by decide +kernel
theorem dX12_counted_70 : decode cX12_counted 70 = .ok (.putfield 225, 3) := by decide +kernel
theorem dX12_counted_73 : decode cX12_counted 73 = .ok (.aload_n 0, 1) := by decide +kernel
theorem dX12_counted_74 : decode cX12_counted 74 = .ok (.iload_n 3, 1) := by decide +kernel
theorem dX12_counted_75 : decode cX12_counted 75 = .ok (.putfield 228, 3) := by decide +kernel
theorem dX12_counted_78 : decode cX12_counted 78 = .ok (.iload_n 1, 1) := by decide +kernel
theorem dX12_counted_79 : decode cX12_counted 79 = .ok (.iload 4, 2) := by decide +kernel
theorem dX12_counted_81 : decode cX12_counted 81 = .ok (.iadd, 1) := by decide +kernel
theorem dX12_counted_82 : decode cX12_counted 82 = .ok (.istore_n 1, 1) := by decide +kernel
theorem dX12_counted_83 : decode cX12_counted 83 = .ok (.iinc 3 1, 3) := by decide +kernel
theorem dX12_counted_86 : decode cX12_counted 86 = .ok (.goto (-41), 3) := by decide +kernel
theorem dX12_counted_89 : decode cX12_counted 89 = .ok (.iinc 2 1, 3) := by decide +kernel
theorem dX12_counted_92 : decode cX12_counted 92 = .ok (.goto (-74), 3) := by decide +kernel
theorem dX12_counted_95 : decode cX12_counted 95 = .ok (.iload_n 1, 1) := by decide +kernel
theorem dX12_counted_96 : decode cX12_counted 96 = .ok (.ireturn, 1) := by decide +kernel
theorem dX12_readings_0 : decode cX12_readings 0 = .ok (.iload_n 1, 1) := by decide +kernel
theorem dX12_readings_1 : decode cX12_readings 1 = .ok (.iconst 0, 1) := by decide +kernel
theorem dX12_readings_2 : decode cX12_readings 2 = .ok (.iconst 2, 1) := by decide +kernel
theorem dX12_readings_3 : decode cX12_readings 3 = .ok (.invokestatic 64, 3) := by decide +kernel
theorem dX12_readings_6 : decode cX12_readings 6 = .ok (.ifCond .ne 6, 3) := by decide +kernel
theorem dX12_readings_9 : decode cX12_readings 9 = .ok (.bipush (-2), 2) := by decide +kernel
theorem dX12_readings_11 : decode cX12_readings 11 = .ok (.ireturn, 1) := by decide +kernel
theorem dX12_readings_12 : decode cX12_readings 12 = .ok (.aload_n 0, 1) := by decide +kernel
theorem dX12_readings_13 : decode cX12_readings 13 = .ok (.invokevirtual 238, 3) := by decide +kernel
theorem dX12_readings_16 : decode cX12_readings 16 = .ok (.aload_n 0, 1) := by decide +kernel
theorem dX12_readings_17 : decode cX12_readings 17 = .ok (.invokevirtual 241, 3) := by decide +kernel
theorem dX12_readings_20 : decode cX12_readings 20 = .ok (.istore_n 2, 1) := by decide +kernel
theorem dX12_readings_21 : decode cX12_readings 21 = .ok (.iload_n 1, 1) := by decide +kernel
theorem dX12_readings_22 : decode cX12_readings 22 = .ok (.ifCond .ne 7, 3) := by decide +kernel
theorem dX12_readings_25 : decode cX12_readings 25 = .ok (.iload_n 2, 1) := by decide +kernel
theorem dX12_readings_26 : decode cX12_readings 26 = .ok (.goto 19, 3) := by decide +kernel
theorem dX12_readings_29 : decode cX12_readings 29 = .ok (.iload_n 1, 1) := by decide +kernel
theorem dX12_readings_30 : decode cX12_readings 30 = .ok (.iconst 1, 1) := by decide +kernel
theorem dX12_readings_31 : decode cX12_readings 31 = .ok (.if_icmp .ne 10, 3) := by decide +kernel
theorem dX12_readings_34 : decode cX12_readings 34 = .ok (.aload_n 0, 1) := by decide +kernel
theorem dX12_readings_35 : decode cX12_readings 35 = .ok (.getfield 225, 3) := by decide +kernel
theorem dX12_readings_38 : decode cX12_readings 38 = .ok (.goto 7, 3) := by decide +kernel
theorem dX12_readings_41 : decode cX12_readings 41 = .ok (.aload_n 0, 1) := by decide +kernel
theorem dX12_readings_42 : decode cX12_readings 42 = .ok (.getfield 228, 3) := by decide +kernel
theorem dX12_readings_45 : decode cX12_readings 45 = .ok (.ireturn, 1) := by decide +kernel
theorem dX12_near_0 : decode cX12_near 0 = .ok (.iload_n 1, 1) := by decide +kernel
theorem dX12_near_1 : decode cX12_near 1 = .ok (.iconst 0, 1) := by decide +kernel
theorem dX12_near_2 : decode cX12_near 2 = .ok (.iconst 1, 1) := by decide +kernel
theorem dX12_near_3 : decode cX12_near 3 = .ok (.invokestatic 64, 3) := by decide +kernel
theorem dX12_near_6 : decode cX12_near 6 = .ok (.ifCond .ne 6, 3) := by decide +kernel
theorem dX12_near_9 : decode cX12_near 9 = .ok (.bipush (-2), 2) := by decide +kernel
theorem dX12_near_11 : decode cX12_near 11 = .ok (.ireturn, 1) := by decide +kernel
theorem dX12_near_12 : decode cX12_near 12 = .ok (.aload_n 0, 1) := by decide +kernel
theorem dX12_near_13 : decode cX12_near 13 = .ok (.invokevirtual 238, 3) := by decide +kernel
theorem dX12_near_16 : decode cX12_near 16 = .ok (.aload_n 0, 1) := by decide +kernel
theorem dX12_near_17 : decode cX12_near 17 = .ok (.invokevirtual 231, 3) := by decide +kernel
theorem dX12_near_20 : decode cX12_near 20 = .ok (.ldc 207, 2) := by decide +kernel
theorem dX12_near_22 : decode cX12_near 22 = .ok (.istore_n 2, 1) := by decide +kernel
theorem dX12_near_23 : decode cX12_near 23 = .ok (.iconst (-1), 1) := by decide +kernel
theorem dX12_near_24 : decode cX12_near 24 = .ok (.istore_n 3, 1) := by decide +kernel
theorem dX12_near_25 : decode cX12_near 25 = .ok (.iconst 0, 1) := by decide +kernel
theorem dX12_near_26 : decode cX12_near 26 = .ok (.istore 4, 2) := by decide +kernel
theorem dX12_near_28 : decode cX12_near 28 = .ok (.iload 4, 2) := by decide +kernel
theorem dX12_near_30 : decode cX12_near 30 = .ok (.aload_n 0, 1) := by decide +kernel
theorem dX12_near_31 : decode cX12_near 31 = .ok (.getfield 9, 3) := by decide +kernel
theorem dX12_near_34 : decode cX12_near 34 = .ok (.iconst 1, 1) := by decide +kernel
theorem dX12_near_35 : decode cX12_near 35 = .ok (.iaload, 1) := by decide +kernel
theorem dX12_near_36 : decode cX12_near 36 = .ok (.if_icmp .ge 66, 3) := by decide +kernel
theorem dX12_near_39 : decode cX12_near 39 = .ok (.aload_n 0, 1) := by decide +kernel
theorem dX12_near_40 : decode cX12_near 40 = .ok (.iload 4, 2) := by decide +kernel
theorem dX12_near_42 : decode cX12_near 42 = .ok (.invokevirtual 154, 3) := by decide +kernel
theorem dX12_near_45 : decode cX12_near 45 = .ok (.aload_n 0, 1) := by decide +kernel
theorem dX12_near_46 : decode cX12_near 46 = .ok (.getfield 204, 3) := by decide +kernel
theorem dX12_near_49 : decode cX12_near 49 = .ok (.if_icmp .eq 6, 3) := by decide +kernel
theorem dX12_near_52 : decode cX12_near 52 = .ok (.goto 44, 3) := by decide +kernel
theorem dX12_near_55 : decode cX12_near 55 = .ok (.iconst 0, 1) := by decide +kernel
theorem dX12_near_56 : decode cX12_near 56 = .ok (.istore 5, 2) := by decide +kernel
theorem dX12_near_58 : decode cX12_near 58 = .ok (.iload 5, 2) := by decide +kernel
theorem dX12_near_60 : decode cX12_near 60 = .ok (.iconst 4, 1) := by decide +kernel
theorem dX12_near_61 : decode cX12_near 61 = .ok (.if_icmp .ge 35, 3) := by decide +kernel
theorem dX12_near_64 : decode cX12_near 64 = .ok (.aload_n 0, 1) := by decide +kernel
theorem dX12_near_65 : decode cX12_near 65 = .ok (.iload 4, 2) := by decide +kernel
theorem dX12_near_67 : decode cX12_near 67 = .ok (.iload 5, 2) := by decide +kernel
theorem dX12_near_69 : decode cX12_near 69 = .ok (.iconst 1, 1) := by decide +kernel
theorem dX12_near_70 : decode cX12_near 70 = .ok (.invokevirtual 234, 3) := by decide +kernel
theorem dX12_near_73 : decode cX12_near 73 = .ok (.istore 6, 2) := by decide +kernel
theorem dX12_near_75 : decode cX12_near 75 = .ok (.iload 6, 2) := by decide +kernel
theorem dX12_near_77 : decode cX12_near 77 = .ok (.iload_n 2, 1) := by decide +kernel
theorem dX12_near_78 : decode cX12_near 78 = .ok (.if_icmp .lt 6, 3) := by decide +kernel
theorem dX12_near_81 : decode cX12_near 81 = .ok (.goto 9, 3) := by decide +kernel
theorem dX12_near_84 : decode cX12_near 84 = .ok (.iload 6, 2) := by decide +kernel
theorem dX12_near_86 : decode cX12_near 86 = .ok (.istore_n 2, 1) := by decide +kernel
theorem dX12_near_87 : decode cX12_near 87 = .ok (.iload 4, 2) := by decide +kernel
theorem dX12_near_89 : decode cX12_near 89 = .ok (.istore_n 3, 1) := by decide +kernel
theorem dX12_near_90 : decode cX12_near 90 = .ok (.iinc 5 1, 3) := by decide +kernel
theorem dX12_near_93 : decode cX12_near 93 = .ok (.goto (-35), 3) := by decide +kernel
theorem dX12_near_96 : decode cX12_near 96 = .ok (.iinc 4 1, 3) := by decide +kernel
theorem dX12_near_99 : decode cX12_near 99 = .ok (.goto (-71), 3) := by decide +kernel
theorem dX12_near_102 : decode cX12_near 102 = .ok (.iload_n 1, 1) := by decide +kernel
theorem dX12_near_103 : decode cX12_near 103 = .ok (.iconst 1, 1) := by decide +kernel
theorem dX12_near_104 : decode cX12_near 104 = .ok (.if_icmp .eq 7, 3) := by decide +kernel
theorem dX12_near_107 : decode cX12_near 107 = .ok (.iload_n 3, 1) := by decide +kernel
theorem dX12_near_108 : decode cX12_near 108 = .ok (.ifCond .ge 7, 3) := by decide +kernel
theorem dX12_near_111 : decode cX12_near 111 = .ok (.iload_n 3, 1) := by decide +kernel
theorem dX12_near_112 : decode cX12_near 112 = .ok (.goto 4, 3) := by decide +kernel
theorem dX12_near_115 : decode cX12_near 115 = .ok (.iload_n 2, 1) := by decide +kernel
theorem dX12_near_116 : decode cX12_near 116 = .ok (.ireturn, 1) := by decide +kernel
theorem dX12_draws_0 : decode cX12_draws 0 = .ok (.aload_n 0, 1) := by decide +kernel
theorem dX12_draws_1 : decode cX12_draws 1 = .ok (.aload_n 0, 1) := by decide +kernel
theorem dX12_draws_2 : decode cX12_draws 2 = .ok (.getfield 244, 3) := by decide +kernel
theorem dX12_draws_5 : decode cX12_draws 5 = .ok (.ldc 247, 2) := by decide +kernel
theorem dX12_draws_7 : decode cX12_draws 7 = .ok (.imul, 1) := by decide +kernel
theorem dX12_draws_8 : decode cX12_draws 8 = .ok (.sipush 12345, 3) := by decide +kernel
theorem dX12_draws_11 : decode cX12_draws 11 = .ok (.iadd, 1) := by decide +kernel
theorem dX12_draws_12 : decode cX12_draws 12 = .ok (.putfield 244, 3) := by decide +kernel
theorem dX12_draws_15 : decode cX12_draws 15 = .ok (.iload_n 1, 1) := by decide +kernel
theorem dX12_draws_16 : decode cX12_draws 16 = .ok (.ifCond .ne 7, 3) := by decide +kernel
theorem dX12_draws_19 : decode cX12_draws 19 = .ok (.iconst (-1), 1) := by decide +kernel
theorem dX12_draws_20 : decode cX12_draws 20 = .ok (.goto 12, 3) := by decide +kernel
theorem dX12_draws_23 : decode cX12_draws 23 = .ok (.aload_n 0, 1) := by decide +kernel
theorem dX12_draws_24 : decode cX12_draws 24 = .ok (.getfield 244, 3) := by decide +kernel
theorem dX12_draws_27 : decode cX12_draws 27 = .ok (.bipush 9, 2) := by decide +kernel
theorem dX12_draws_29 : decode cX12_draws 29 = .ok (.iushr, 1) := by decide +kernel
theorem dX12_draws_30 : decode cX12_draws 30 = .ok (.iload_n 1, 1) := by decide +kernel
theorem dX12_draws_31 : decode cX12_draws 31 = .ok (.irem, 1) := by decide +kernel
theorem dX12_draws_32 : decode cX12_draws 32 = .ok (.ireturn, 1) := by decide +kernel
theorem dX12_ableAt_0 : decode cX12_ableAt 0 = .ok (.iload_n 3, 1) := by decide +kernel
theorem dX12_ableAt_1 : decode cX12_ableAt 1 = .ok (.istore 4, 2) := by decide +kernel
theorem dX12_ableAt_3 : decode cX12_ableAt 3 = .ok (.iconst 0, 1) := by decide +kernel
theorem dX12_ableAt_4 : decode cX12_ableAt 4 = .ok (.istore 5, 2) := by decide +kernel
theorem dX12_ableAt_6 : decode cX12_ableAt 6 = .ok (.iload 5, 2) := by decide +kernel
theorem dX12_ableAt_8 : decode cX12_ableAt 8 = .ok (.aload_n 0, 1) := by decide +kernel
theorem dX12_ableAt_9 : decode cX12_ableAt 9 = .ok (.getfield 9, 3) := by decide +kernel
theorem dX12_ableAt_12 : decode cX12_ableAt 12 = .ok (.iconst 0, 1) := by decide +kernel
theorem dX12_ableAt_13 : decode cX12_ableAt 13 = .ok (.iaload, 1) := by decide +kernel
theorem dX12_ableAt_14 : decode cX12_ableAt 14 = .ok (.if_icmp .ge 39, 3) := by decide +kernel
theorem dX12_ableAt_17 : decode cX12_ableAt 17 = .ok (.iload 4, 2) := by decide +kernel
theorem dX12_ableAt_19 : decode cX12_ableAt 19 = .ok (.ifCond .lt 34, 3) := by decide +kernel
theorem dX12_ableAt_22 : decode cX12_ableAt 22 = .ok (.aload_n 0, 1) := by decide +kernel
theorem dX12_ableAt_23 : decode cX12_ableAt 23 = .ok (.iload_n 1, 1) := by decide +kernel
theorem dX12_ableAt_24 : decode cX12_ableAt 24 = .ok (.iload_n 2, 1) := by decide +kernel
theorem dX12_ableAt_25 : decode cX12_ableAt 25 = .ok (.iload 5, 2) := by decide +kernel
theorem dX12_ableAt_27 : decode cX12_ableAt 27 = .ok (.invokevirtual 148, 3) := by decide +kernel
theorem dX12_ableAt_30 : decode cX12_ableAt 30 = .ok (.ifCond .ne 6, 3) := by decide +kernel
theorem dX12_ableAt_33 : decode cX12_ableAt 33 = .ok (.goto 14, 3) := by decide +kernel
theorem dX12_ableAt_36 : decode cX12_ableAt 36 = .ok (.iload 4, 2) := by decide +kernel
theorem dX12_ableAt_38 : decode cX12_ableAt 38 = .ok (.ifCond .ne 6, 3) := by decide +kernel
theorem dX12_ableAt_41 : decode cX12_ableAt 41 = .ok (.iload 5, 2) := by decide +kernel
theorem dX12_ableAt_43 : decode cX12_ableAt 43 = .ok (.ireturn, 1) := by decide +kernel
theorem dX12_ableAt_44 : decode cX12_ableAt 44 = .ok (.iinc 4 (-1), 3) := by decide +kernel
theorem dX12_ableAt_47 : decode cX12_ableAt 47 = .ok (.iinc 5 1, 3) := by decide +kernel
theorem dX12_ableAt_50 : decode cX12_ableAt 50 = .ok (.goto (-44), 3) := by decide +kernel
theorem dX12_ableAt_53 : decode cX12_ableAt 53 = .ok (.iconst (-1), 1) := by decide +kernel
theorem dX12_ableAt_54 : decode cX12_ableAt 54 = .ok (.ireturn, 1) := by decide +kernel
theorem dX12_drawsLine_0 : decode cX12_drawsLine 0 = .ok (.aload_n 0, 1) := by decide +kernel
theorem dX12_drawsLine_1 : decode cX12_drawsLine 1 = .ok (.iload_n 1, 1) := by decide +kernel
theorem dX12_drawsLine_2 : decode cX12_drawsLine 2 = .ok (.putfield 244, 3) := by decide +kernel
theorem dX12_drawsLine_5 : decode cX12_drawsLine 5 = .ok (.aload_n 0, 1) := by decide +kernel
theorem dX12_drawsLine_6 : decode cX12_drawsLine 6 = .ok (.aload_n 0, 1) := by decide +kernel
theorem dX12_drawsLine_7 : decode cX12_drawsLine 7 = .ok (.getfield 9, 3) := by decide +kernel
theorem dX12_drawsLine_10 : decode cX12_drawsLine 10 = .ok (.iconst 1, 1) := by decide +kernel
theorem dX12_drawsLine_11 : decode cX12_drawsLine 11 = .ok (.iaload, 1) := by decide +kernel
theorem dX12_drawsLine_12 : decode cX12_drawsLine 12 = .ok (.invokevirtual 248, 3) := by decide +kernel
theorem dX12_drawsLine_15 : decode cX12_drawsLine 15 = .ok (.istore_n 2, 1) := by decide +kernel
theorem dX12_drawsLine_16 : decode cX12_drawsLine 16 = .ok (.aload_n 0, 1) := by decide +kernel
theorem dX12_drawsLine_17 : decode cX12_drawsLine 17 = .ok (.iconst 4, 1) := by decide +kernel
theorem dX12_drawsLine_18 : decode cX12_drawsLine 18 = .ok (.invokevirtual 248, 3) := by decide +kernel
theorem dX12_drawsLine_21 : decode cX12_drawsLine 21 = .ok (.istore_n 3, 1) := by decide +kernel
theorem dX12_drawsLine_22 : decode cX12_drawsLine 22 = .ok (.aload_n 0, 1) := by decide +kernel
theorem dX12_drawsLine_23 : decode cX12_drawsLine 23 = .ok (.iconst 2, 1) := by decide +kernel
theorem dX12_drawsLine_24 : decode cX12_drawsLine 24 = .ok (.invokevirtual 248, 3) := by decide +kernel
theorem dX12_drawsLine_27 : decode cX12_drawsLine 27 = .ok (.istore 4, 2) := by decide +kernel
theorem dX12_drawsLine_29 : decode cX12_drawsLine 29 = .ok (.iload 4, 2) := by decide +kernel
theorem dX12_drawsLine_31 : decode cX12_drawsLine 31 = .ok (.aload_n 0, 1) := by decide +kernel
theorem dX12_drawsLine_32 : decode cX12_drawsLine 32 = .ok (.iconst 2, 1) := by decide +kernel
theorem dX12_drawsLine_33 : decode cX12_drawsLine 33 = .ok (.invokevirtual 248, 3) := by decide +kernel
theorem dX12_drawsLine_36 : decode cX12_drawsLine 36 = .ok (.iconst 1, 1) := by decide +kernel
theorem dX12_drawsLine_37 : decode cX12_drawsLine 37 = .ok (.ishl, 1) := by decide +kernel
theorem dX12_drawsLine_38 : decode cX12_drawsLine 38 = .ok (.ior, 1) := by decide +kernel
theorem dX12_drawsLine_39 : decode cX12_drawsLine 39 = .ok (.istore 4, 2) := by decide +kernel
theorem dX12_drawsLine_41 : decode cX12_drawsLine 41 = .ok (.iload 4, 2) := by decide +kernel
theorem dX12_drawsLine_43 : decode cX12_drawsLine 43 = .ok (.aload_n 0, 1) := by decide +kernel
theorem dX12_drawsLine_44 : decode cX12_drawsLine 44 = .ok (.iconst 2, 1) := by decide +kernel
theorem dX12_drawsLine_45 : decode cX12_drawsLine 45 = .ok (.invokevirtual 248, 3) := by decide +kernel
theorem dX12_drawsLine_48 : decode cX12_drawsLine 48 = .ok (.iconst 2, 1) := by decide +kernel
theorem dX12_drawsLine_49 : decode cX12_drawsLine 49 = .ok (.ishl, 1) := by decide +kernel
theorem dX12_drawsLine_50 : decode cX12_drawsLine 50 = .ok (.ior, 1) := by decide +kernel
theorem dX12_drawsLine_51 : decode cX12_drawsLine 51 = .ok (.istore 4, 2) := by decide +kernel
theorem dX12_drawsLine_53 : decode cX12_drawsLine 53 = .ok (.iconst 0, 1) := by decide +kernel
theorem dX12_drawsLine_54 : decode cX12_drawsLine 54 = .ok (.istore 5, 2) := by decide +kernel
theorem dX12_drawsLine_56 : decode cX12_drawsLine 56 = .ok (.iload 5, 2) := by decide +kernel
theorem dX12_drawsLine_58 : decode cX12_drawsLine 58 = .ok (.aload_n 0, 1) := by decide +kernel
theorem dX12_drawsLine_59 : decode cX12_drawsLine 59 = .ok (.iload_n 2, 1) := by decide +kernel
theorem dX12_drawsLine_60 : decode cX12_drawsLine 60 = .ok (.invokevirtual 154, 3) := by decide +kernel
theorem dX12_drawsLine_63 : decode cX12_drawsLine 63 = .ok (.if_icmp .ge 58, 3) := by decide +kernel
theorem dX12_drawsLine_66 : decode cX12_drawsLine 66 = .ok (.aload_n 0, 1) := by decide +kernel
theorem dX12_drawsLine_67 : decode cX12_drawsLine 67 = .ok (.getfield 40, 3) := by decide +kernel
theorem dX12_drawsLine_70 : decode cX12_drawsLine 70 = .ok (.iload 5, 2) := by decide +kernel
theorem dX12_drawsLine_72 : decode cX12_drawsLine 72 = .ok (.aload_n 0, 1) := by decide +kernel
theorem dX12_drawsLine_73 : decode cX12_drawsLine 73 = .ok (.iload_n 2, 1) := by decide +kernel
theorem dX12_drawsLine_74 : decode cX12_drawsLine 74 = .ok (.iload 5, 2) := by decide +kernel
theorem dX12_drawsLine_76 : decode cX12_drawsLine 76 = .ok (.iconst 0, 1) := by decide +kernel
theorem dX12_drawsLine_77 : decode cX12_drawsLine 77 = .ok (.invokevirtual 115, 3) := by decide +kernel
theorem dX12_drawsLine_80 : decode cX12_drawsLine 80 = .ok (.bipush 112, 2) := by decide +kernel
theorem dX12_drawsLine_82 : decode cX12_drawsLine 82 = .ok (.if_icmp .ne 14, 3) := by decide +kernel
theorem dX12_drawsLine_85 : decode cX12_drawsLine 85 = .ok (.aload_n 0, 1) := by decide +kernel
theorem dX12_drawsLine_86 : decode cX12_drawsLine 86 = .ok (.iload_n 2, 1) := by decide +kernel
theorem dX12_drawsLine_87 : decode cX12_drawsLine 87 = .ok (.iload 5, 2) := by decide +kernel
theorem dX12_drawsLine_89 : decode cX12_drawsLine 89 = .ok (.iconst 3, 1) := by decide +kernel
theorem dX12_drawsLine_90 : decode cX12_drawsLine 90 = .ok (.invokevirtual 115, 3) := by decide +kernel
theorem dX12_drawsLine_93 : decode cX12_drawsLine 93 = .ok (.goto 21, 3) := by decide +kernel
theorem dX12_drawsLine_96 : decode cX12_drawsLine 96 = .ok (.aload_n 0, 1) := by decide +kernel
theorem dX12_drawsLine_97 : decode cX12_drawsLine 97 = .ok (.iload_n 2, 1) := by decide +kernel
theorem dX12_drawsLine_98 : decode cX12_drawsLine 98 = .ok (.iload 5, 2) := by decide +kernel
theorem dX12_drawsLine_100 : decode cX12_drawsLine 100 = .ok (.aload_n 0, 1) := by decide +kernel
theorem dX12_drawsLine_101 : decode cX12_drawsLine 101 = .ok (.aload_n 0, 1) := by decide +kernel
theorem dX12_drawsLine_102 : decode cX12_drawsLine 102 = .ok (.iload_n 2, 1) := by decide +kernel
theorem dX12_drawsLine_103 : decode cX12_drawsLine 103 = .ok (.iload 5, 2) := by decide +kernel
theorem dX12_drawsLine_105 : decode cX12_drawsLine 105 = .ok (.invokevirtual 157, 3) := by decide +kernel
theorem dX12_drawsLine_108 : decode cX12_drawsLine 108 = .ok (.invokevirtual 248, 3) := by decide +kernel
theorem dX12_drawsLine_111 : decode cX12_drawsLine 111 = .ok (.invokevirtual 189, 3) := by decide +kernel
theorem dX12_drawsLine_114 : decode cX12_drawsLine 114 = .ok (.iastore, 1) := by decide +kernel
theorem dX12_drawsLine_115 : decode cX12_drawsLine 115 = .ok (.iinc 5 1, 3) := by decide +kernel
theorem dX12_drawsLine_118 : decode cX12_drawsLine 118 = .ok (.goto (-62), 3) := by decide +kernel
theorem dX12_drawsLine_121 : decode cX12_drawsLine 121 = .ok (.aload_n 0, 1) := by decide +kernel
theorem dX12_drawsLine_122 : decode cX12_drawsLine 122 = .ok (.iload_n 2, 1) := by decide +kernel
theorem dX12_drawsLine_123 : decode cX12_drawsLine 123 = .ok (.iconst 0, 1) := by decide +kernel
theorem dX12_drawsLine_124 : decode cX12_drawsLine 124 = .ok (.aload_n 0, 1) := by decide +kernel
theorem dX12_drawsLine_125 : decode cX12_drawsLine 125 = .ok (.getfield 40, 3) := by decide +kernel
theorem dX12_drawsLine_128 : decode cX12_drawsLine 128 = .ok (.iload 4, 2) := by decide +kernel
theorem dX12_drawsLine_130 : decode cX12_drawsLine 130 = .ok (.iload_n 3, 1) := by decide +kernel
theorem dX12_drawsLine_131 : decode cX12_drawsLine 131 = .ok (.invokevirtual 177, 3) := by decide +kernel
theorem dX12_drawsLine_134 : decode cX12_drawsLine 134 = .ok (.return_, 1) := by decide +kernel
theorem dX12_drawn_0 : decode cX12_drawn 0 = .ok (.iload_n 2, 1) := by decide +kernel
theorem dX12_drawn_1 : decode cX12_drawn 1 = .ok (.iconst 0, 1) := by decide +kernel
theorem dX12_drawn_2 : decode cX12_drawn 2 = .ok (.iconst 1, 1) := by decide +kernel
theorem dX12_drawn_3 : decode cX12_drawn 3 = .ok (.invokestatic 64, 3) := by decide +kernel
theorem dX12_drawn_6 : decode cX12_drawn 6 = .ok (.ifCond .ne 6, 3) := by decide +kernel
theorem dX12_drawn_9 : decode cX12_drawn 9 = .ok (.bipush (-2), 2) := by decide +kernel
theorem dX12_drawn_11 : decode cX12_drawn 11 = .ok (.ireturn, 1) := by decide +kernel
theorem dX12_drawn_12 : decode cX12_drawn 12 = .ok (.aload_n 0, 1) := by decide +kernel
theorem dX12_drawn_13 : decode cX12_drawn 13 = .ok (.getfield 9, 3) := by decide +kernel
theorem dX12_drawn_16 : decode cX12_drawn 16 = .ok (.iconst 1, 1) := by decide +kernel
theorem dX12_drawn_17 : decode cX12_drawn 17 = .ok (.iaload, 1) := by decide +kernel
theorem dX12_drawn_18 : decode cX12_drawn 18 = .ok (.ifCond .ne 6, 3) := by decide +kernel
theorem dX12_drawn_21 : decode cX12_drawn 21 = .ok (.bipush (-3), 2) := by decide +kernel
theorem dX12_drawn_23 : decode cX12_drawn 23 = .ok (.ireturn, 1) := by decide +kernel
theorem dX12_drawn_24 : decode cX12_drawn 24 = .ok (.aload_n 0, 1) := by decide +kernel
theorem dX12_drawn_25 : decode cX12_drawn 25 = .ok (.iload_n 1, 1) := by decide +kernel
theorem dX12_drawn_26 : decode cX12_drawn 26 = .ok (.invokevirtual 251, 3) := by decide +kernel
theorem dX12_drawn_29 : decode cX12_drawn 29 = .ok (.iload_n 2, 1) := by decide +kernel
theorem dX12_drawn_30 : decode cX12_drawn 30 = .ok (.iconst 1, 1) := by decide +kernel
theorem dX12_drawn_31 : decode cX12_drawn 31 = .ok (.if_icmp .ne 10, 3) := by decide +kernel
theorem dX12_drawn_34 : decode cX12_drawn 34 = .ok (.aload_n 0, 1) := by decide +kernel
theorem dX12_drawn_35 : decode cX12_drawn 35 = .ok (.getfield 166, 3) := by decide +kernel
theorem dX12_drawn_38 : decode cX12_drawn 38 = .ok (.goto 7, 3) := by decide +kernel
theorem dX12_drawn_41 : decode cX12_drawn 41 = .ok (.aload_n 0, 1) := by decide +kernel
theorem dX12_drawn_42 : decode cX12_drawn 42 = .ok (.invokevirtual 241, 3) := by decide +kernel
theorem dX12_drawn_45 : decode cX12_drawn 45 = .ok (.ireturn, 1) := by decide +kernel
theorem dX12_chance_0 : decode cX12_chance 0 = .ok (.iload_n 2, 1) := by decide +kernel
theorem dX12_chance_1 : decode cX12_chance 1 = .ok (.iconst 1, 1) := by decide +kernel
theorem dX12_chance_2 : decode cX12_chance 2 = .ok (.bipush 8, 2) := by decide +kernel
theorem dX12_chance_4 : decode cX12_chance 4 = .ok (.invokestatic 64, 3) := by decide +kernel
theorem dX12_chance_7 : decode cX12_chance 7 = .ok (.ifCond .eq 12, 3) := by decide +kernel
theorem dX12_chance_10 : decode cX12_chance 10 = .ok (.iload_n 3, 1) := by decide +kernel
theorem dX12_chance_11 : decode cX12_chance 11 = .ok (.iconst 0, 1) := by decide +kernel
theorem dX12_chance_12 : decode cX12_chance 12 = .ok (.iconst 1, 1) := by decide +kernel
theorem dX12_chance_13 : decode cX12_chance 13 = .ok (.invokestatic 64, 3) := by decide +kernel
theorem dX12_chance_16 : decode cX12_chance 16 = .ok (.ifCond .ne 6, 3) := by decide +kernel
theorem dX12_chance_19 : decode cX12_chance 19 = .ok (.bipush (-2), 2) := by decide +kernel
theorem dX12_chance_21 : decode cX12_chance 21 = .ok (.ireturn, 1) := by decide +kernel
theorem dX12_chance_22 : decode cX12_chance 22 = .ok (.aload_n 0, 1) := by decide +kernel
theorem dX12_chance_23 : decode cX12_chance 23 = .ok (.getfield 9, 3) := by decide +kernel
theorem dX12_chance_26 : decode cX12_chance 26 = .ok (.iconst 1, 1) := by decide +kernel
theorem dX12_chance_27 : decode cX12_chance 27 = .ok (.iaload, 1) := by decide +kernel
theorem dX12_chance_28 : decode cX12_chance 28 = .ok (.ifCond .ne 6, 3) := by decide +kernel
theorem dX12_chance_31 : decode cX12_chance 31 = .ok (.bipush (-3), 2) := by decide +kernel
theorem dX12_chance_33 : decode cX12_chance 33 = .ok (.ireturn, 1) := by decide +kernel
theorem dX12_chance_34 : decode cX12_chance 34 = .ok (.iconst 0, 1) := by decide +kernel
theorem dX12_chance_35 : decode cX12_chance 35 = .ok (.istore 4, 2) := by decide +kernel
theorem dX12_chance_37 : decode cX12_chance 37 = .ok (.iconst 0, 1) := by decide +kernel
theorem dX12_chance_38 : decode cX12_chance 38 = .ok (.istore 5, 2) := by decide +kernel
theorem dX12_chance_40 : decode cX12_chance 40 = .ok (.iload 5, 2) := by decide +kernel
theorem dX12_chance_42 : decode cX12_chance 42 = .ok (.iload_n 2, 1) := by decide +kernel
theorem dX12_chance_43 : decode cX12_chance 43 = .ok (.if_icmp .ge 35, 3) := by decide +kernel
theorem dX12_chance_46 : decode cX12_chance 46 = .ok (.aload_n 0, 1) := by decide +kernel
theorem dX12_chance_47 : decode cX12_chance 47 = .ok (.iload_n 1, 1) := by decide +kernel
theorem dX12_chance_48 : decode cX12_chance 48 = .ok (.iload 5, 2) := by decide +kernel
theorem dX12_chance_50 : decode cX12_chance 50 = .ok (.iadd, 1) := by decide +kernel
theorem dX12_chance_51 : decode cX12_chance 51 = .ok (.invokevirtual 251, 3) := by decide +kernel
theorem dX12_chance_54 : decode cX12_chance 54 = .ok (.iload 4, 2) := by decide +kernel
theorem dX12_chance_56 : decode cX12_chance 56 = .ok (.aload_n 0, 1) := by decide +kernel
theorem dX12_chance_57 : decode cX12_chance 57 = .ok (.invokevirtual 241, 3) := by decide +kernel
theorem dX12_chance_60 : decode cX12_chance 60 = .ok (.iconst 1, 1) := by decide +kernel
theorem dX12_chance_61 : decode cX12_chance 61 = .ok (.if_icmp .ne 7, 3) := by decide +kernel
theorem dX12_chance_64 : decode cX12_chance 64 = .ok (.iconst 1, 1) := by decide +kernel
theorem dX12_chance_65 : decode cX12_chance 65 = .ok (.goto 4, 3) := by decide +kernel
theorem dX12_chance_68 : decode cX12_chance 68 = .ok (.iconst 0, 1) := by decide +kernel
theorem dX12_chance_69 : decode cX12_chance 69 = .ok (.iadd, 1) := by decide +kernel
theorem dX12_chance_70 : decode cX12_chance 70 = .ok (.istore 4, 2) := by decide +kernel
theorem dX12_chance_72 : decode cX12_chance 72 = .ok (.iinc 5 1, 3) := by decide +kernel
theorem dX12_chance_75 : decode cX12_chance 75 = .ok (.goto (-35), 3) := by decide +kernel
theorem dX12_chance_78 : decode cX12_chance 78 = .ok (.iload_n 2, 1) := by decide +kernel
theorem dX12_chance_79 : decode cX12_chance 79 = .ok (.istore 5, 2) := by decide +kernel
theorem dX12_chance_81 : decode cX12_chance 81 = .ok (.iload 4, 2) := by decide +kernel
theorem dX12_chance_83 : decode cX12_chance 83 = .ok (.iload 5, 2) := by decide +kernel
theorem dX12_chance_85 : decode cX12_chance 85 = .ok (.irem, 1) := by decide +kernel
theorem dX12_chance_86 : decode cX12_chance 86 = .ok (.ifCond .ne 10, 3) := by decide +kernel
theorem dX12_chance_89 : decode cX12_chance 89 = .ok (.iload_n 2, 1) := by decide +kernel
theorem dX12_chance_90 : decode cX12_chance 90 = .ok (.iload 5, 2) := by decide +kernel
theorem dX12_chance_92 : decode cX12_chance 92 = .ok (.irem, 1) := by decide +kernel
theorem dX12_chance_93 : decode cX12_chance 93 = .ok (.ifCond .eq 9, 3) := by decide +kernel
theorem dX12_chance_96 : decode cX12_chance 96 = .ok (.iinc 5 (-1), 3) := by decide +kernel
theorem dX12_chance_99 : decode cX12_chance 99 = .ok (.goto (-18), 3) := by decide +kernel
theorem dX12_chance_102 : decode cX12_chance 102 = .ok (.iload_n 3, 1) := by decide +kernel
theorem dX12_chance_103 : decode cX12_chance 103 = .ok (.ifCond .ne 11, 3) := by decide +kernel
theorem dX12_chance_106 : decode cX12_chance 106 = .ok (.iload 4, 2) := by decide +kernel
theorem dX12_chance_108 : decode cX12_chance 108 = .ok (.iload 5, 2) := by decide +kernel
theorem dX12_chance_110 : decode cX12_chance 110 = .ok (.idiv, 1) := by decide +kernel
theorem dX12_chance_111 : decode cX12_chance 111 = .ok (.goto 7, 3) := by decide +kernel
theorem dX12_chance_114 : decode cX12_chance 114 = .ok (.iload_n 2, 1) := by decide +kernel
theorem dX12_chance_115 : decode cX12_chance 115 = .ok (.iload 5, 2) := by decide +kernel
theorem dX12_chance_117 : decode cX12_chance 117 = .ok (.idiv, 1) := by decide +kernel
theorem dX12_chance_118 : decode cX12_chance 118 = .ok (.ireturn, 1) := by decide +kernel
theorem dX12_tray_0 : decode cX12_tray 0 = .ok (.iload_n 1, 1) := by decide +kernel
theorem dX12_tray_1 : decode cX12_tray 1 = .ok (.iconst 0, 1) := by decide +kernel
theorem dX12_tray_2 : decode cX12_tray 2 = .ok (.iconst 3, 1) := by decide +kernel
theorem dX12_tray_3 : decode cX12_tray 3 = .ok (.invokestatic 64, 3) := by decide +kernel
theorem dX12_tray_6 : decode cX12_tray 6 = .ok (.ifCond .eq 18, 3) := by decide +kernel
theorem dX12_tray_9 : decode cX12_tray 9 = .ok (.iload_n 2, 1) := by decide +kernel
theorem dX12_tray_10 : decode cX12_tray 10 = .ok (.iconst 0, 1) := by decide +kernel
theorem dX12_tray_11 : decode cX12_tray 11 = .ok (.iconst 5, 1) := by decide +kernel
theorem dX12_tray_12 : decode cX12_tray 12 = .ok (.invokestatic 64, 3) := by decide +kernel
theorem dX12_tray_15 : decode cX12_tray 15 = .ok (.ifCond .eq 9, 3) := by decide +kernel
theorem dX12_tray_18 : decode cX12_tray 18 = .ok (.iload_n 3, 1) := by decide +kernel
theorem dX12_tray_19 : decode cX12_tray 19 = .ok (.bipush 20, 2) := by decide +kernel
theorem dX12_tray_21 : decode cX12_tray 21 = .ok (.if_icmp .le 6, 3) := by decide +kernel
theorem dX12_tray_24 : decode cX12_tray 24 = .ok (.bipush (-2), 2) := by decide +kernel
theorem dX12_tray_26 : decode cX12_tray 26 = .ok (.ireturn, 1) := by decide +kernel
theorem dX12_tray_27 : decode cX12_tray 27 = .ok (.iload_n 3, 1) := by decide +kernel
theorem dX12_tray_28 : decode cX12_tray 28 = .ok (.ifCond .ge 6, 3) := by decide +kernel
theorem dX12_tray_31 : decode cX12_tray 31 = .ok (.bipush (-14), 2) := by decide +kernel
theorem dX12_tray_33 : decode cX12_tray 33 = .ok (.ireturn, 1) := by decide +kernel
theorem dX12_tray_34 : decode cX12_tray 34 = .ok (.aload_n 0, 1) := by decide +kernel
theorem dX12_tray_35 : decode cX12_tray 35 = .ok (.getfield 43, 3) := by decide +kernel
theorem dX12_tray_38 : decode cX12_tray 38 = .ok (.iload_n 1, 1) := by decide +kernel
theorem dX12_tray_39 : decode cX12_tray 39 = .ok (.iload_n 2, 1) := by decide +kernel
theorem dX12_tray_40 : decode cX12_tray 40 = .ok (.iastore, 1) := by decide +kernel
theorem dX12_tray_41 : decode cX12_tray 41 = .ok (.aload_n 0, 1) := by decide +kernel
theorem dX12_tray_42 : decode cX12_tray 42 = .ok (.getfield 46, 3) := by decide +kernel
theorem dX12_tray_45 : decode cX12_tray 45 = .ok (.iload_n 1, 1) := by decide +kernel
theorem dX12_tray_46 : decode cX12_tray 46 = .ok (.iload_n 3, 1) := by decide +kernel
theorem dX12_tray_47 : decode cX12_tray 47 = .ok (.iastore, 1) := by decide +kernel
theorem dX12_tray_48 : decode cX12_tray 48 = .ok (.iconst 0, 1) := by decide +kernel
theorem dX12_tray_49 : decode cX12_tray 49 = .ok (.istore 4, 2) := by decide +kernel
theorem dX12_tray_51 : decode cX12_tray 51 = .ok (.iload 4, 2) := by decide +kernel
theorem dX12_tray_53 : decode cX12_tray 53 = .ok (.iload_n 3, 1) := by decide +kernel
theorem dX12_tray_54 : decode cX12_tray 54 = .ok (.if_icmp .ge 22, 3) := by decide +kernel
theorem dX12_tray_57 : decode cX12_tray 57 = .ok (.aload_n 0, 1) := by decide +kernel
theorem dX12_tray_58 : decode cX12_tray 58 = .ok (.getfield 49, 3) := by decide +kernel
theorem dX12_tray_61 : decode cX12_tray 61 = .ok (.bipush 20, 2) := by decide +kernel
theorem dX12_tray_63 : decode cX12_tray 63 = .ok (.iload_n 1, 1) := by decide +kernel
theorem dX12_tray_64 : decode cX12_tray 64 = .ok (.imul, 1) := by decide +kernel
theorem dX12_tray_65 : decode cX12_tray 65 = .ok (.iload 4, 2) := by decide +kernel
theorem dX12_tray_67 : decode cX12_tray 67 = .ok (.iadd, 1) := by decide +kernel
theorem dX12_tray_68 : decode cX12_tray 68 = .ok (.iconst (-1), 1) := by decide +kernel
theorem dX12_tray_69 : decode cX12_tray 69 = .ok (.iastore, 1) := by decide +kernel
theorem dX12_tray_70 : decode cX12_tray 70 = .ok (.iinc 4 1, 3) := by decide +kernel
theorem dX12_tray_73 : decode cX12_tray 73 = .ok (.goto (-22), 3) := by decide +kernel
theorem dX12_tray_76 : decode cX12_tray 76 = .ok (.iconst 1, 1) := by decide +kernel
theorem dX12_tray_77 : decode cX12_tray 77 = .ok (.ireturn, 1) := by decide +kernel
theorem dX12_wrongPlace_0 : decode cX12_wrongPlace 0 = .ok (.aload_n 0, 1) := by decide +kernel
theorem dX12_wrongPlace_1 : decode cX12_wrongPlace 1 = .ok (.getfield 43, 3) := by decide +kernel
theorem dX12_wrongPlace_4 : decode cX12_wrongPlace 4 = .ok (.iload_n 1, 1) := by decide +kernel
theorem dX12_wrongPlace_5 : decode cX12_wrongPlace 5 = .ok (.iaload, 1) := by decide +kernel
theorem dX12_wrongPlace_6 : decode cX12_wrongPlace 6 = .ok (.ifCond .ge 8, 3) := by decide +kernel
theorem dX12_wrongPlace_9 : decode cX12_wrongPlace 9 = .ok (.bipush (-11), 2) := by decide +kernel
theorem dX12_wrongPlace_11 : decode cX12_wrongPlace 11 = .ok (.goto 25, 3) := by decide +kernel
theorem dX12_wrongPlace_14 : decode cX12_wrongPlace 14 = .ok (.iload_n 2, 1) := by decide +kernel
theorem dX12_wrongPlace_15 : decode cX12_wrongPlace 15 = .ok (.iconst 0, 1) := by decide +kernel
theorem dX12_wrongPlace_16 : decode cX12_wrongPlace 16 = .ok (.aload_n 0, 1) := by decide +kernel
theorem dX12_wrongPlace_17 : decode cX12_wrongPlace 17 = .ok (.getfield 46, 3) := by decide +kernel
theorem dX12_wrongPlace_20 : decode cX12_wrongPlace 20 = .ok (.iload_n 1, 1) := by decide +kernel
theorem dX12_wrongPlace_21 : decode cX12_wrongPlace 21 = .ok (.iaload, 1) := by decide +kernel
theorem dX12_wrongPlace_22 : decode cX12_wrongPlace 22 = .ok (.iconst 1, 1) := by decide +kernel
theorem dX12_wrongPlace_23 : decode cX12_wrongPlace 23 = .ok (.isub, 1) := by decide +kernel
theorem dX12_wrongPlace_24 : decode cX12_wrongPlace 24 = .ok (.invokestatic 64, 3) := by decide +kernel
theorem dX12_wrongPlace_27 : decode cX12_wrongPlace 27 = .ok (.ifCond .eq 7, 3) := by decide +kernel
theorem dX12_wrongPlace_30 : decode cX12_wrongPlace 30 = .ok (.iconst 0, 1) := by decide +kernel
theorem dX12_wrongPlace_31 : decode cX12_wrongPlace 31 = .ok (.goto 5, 3) := by decide +kernel
theorem dX12_wrongPlace_34 : decode cX12_wrongPlace 34 = .ok (.bipush (-12), 2) := by decide +kernel
theorem dX12_wrongPlace_36 : decode cX12_wrongPlace 36 = .ok (.ireturn, 1) := by decide +kernel
theorem dX12_lays_0 : decode cX12_lays 0 = .ok (.iload_n 1, 1) := by decide +kernel
theorem dX12_lays_1 : decode cX12_lays 1 = .ok (.iconst 0, 1) := by decide +kernel
theorem dX12_lays_2 : decode cX12_lays 2 = .ok (.iconst 3, 1) := by decide +kernel
theorem dX12_lays_3 : decode cX12_lays 3 = .ok (.invokestatic 64, 3) := by decide +kernel
theorem dX12_lays_6 : decode cX12_lays 6 = .ok (.ifCond .eq 16, 3) := by decide +kernel
theorem dX12_lays_9 : decode cX12_lays 9 = .ok (.iload_n 3, 1) := by decide +kernel
theorem dX12_lays_10 : decode cX12_lays 10 = .ok (.iconst (-1), 1) := by decide +kernel
theorem dX12_lays_11 : decode cX12_lays 11 = .ok (.if_icmp .eq 14, 3) := by decide +kernel
theorem dX12_lays_14 : decode cX12_lays 14 = .ok (.aload_n 0, 1) := by decide +kernel
theorem dX12_lays_15 : decode cX12_lays 15 = .ok (.iload_n 3, 1) := by decide +kernel
theorem dX12_lays_16 : decode cX12_lays 16 = .ok (.invokevirtual 98, 3) := by decide +kernel
theorem dX12_lays_19 : decode cX12_lays 19 = .ok (.ifCond .ne 6, 3) := by decide +kernel
theorem dX12_lays_22 : decode cX12_lays 22 = .ok (.bipush (-2), 2) := by decide +kernel
theorem dX12_lays_24 : decode cX12_lays 24 = .ok (.ireturn, 1) := by decide +kernel
theorem dX12_lays_25 : decode cX12_lays 25 = .ok (.aload_n 0, 1) := by decide +kernel
theorem dX12_lays_26 : decode cX12_lays 26 = .ok (.iload_n 1, 1) := by decide +kernel
theorem dX12_lays_27 : decode cX12_lays 27 = .ok (.iload_n 2, 1) := by decide +kernel
theorem dX12_lays_28 : decode cX12_lays 28 = .ok (.invokevirtual 254, 3) := by decide +kernel
theorem dX12_lays_31 : decode cX12_lays 31 = .ok (.istore 4, 2) := by decide +kernel
theorem dX12_lays_33 : decode cX12_lays 33 = .ok (.iload 4, 2) := by decide +kernel
theorem dX12_lays_35 : decode cX12_lays 35 = .ok (.ifCond .eq 6, 3) := by decide +kernel
theorem dX12_lays_38 : decode cX12_lays 38 = .ok (.iload 4, 2) := by decide +kernel
theorem dX12_lays_40 : decode cX12_lays 40 = .ok (.ireturn, 1) := by decide +kernel
theorem dX12_lays_41 : decode cX12_lays 41 = .ok (.iload_n 3, 1) := by decide +kernel
theorem dX12_lays_42 : decode cX12_lays 42 = .ok (.iconst (-1), 1) := by decide +kernel
theorem dX12_lays_43 : decode cX12_lays 43 = .ok (.if_icmp .eq 23, 3) := by decide +kernel
theorem dX12_lays_46 : decode cX12_lays 46 = .ok (.aload_n 0, 1) := by decide +kernel
theorem dX12_lays_47 : decode cX12_lays 47 = .ok (.iload_n 3, 1) := by decide +kernel
theorem dX12_lays_48 : decode cX12_lays 48 = .ok (.invokevirtual 101, 3) := by decide +kernel
theorem dX12_lays_51 : decode cX12_lays 51 = .ok (.aload_n 0, 1) := by decide +kernel
theorem dX12_lays_52 : decode cX12_lays 52 = .ok (.getfield 43, 3) := by decide +kernel
theorem dX12_lays_55 : decode cX12_lays 55 = .ok (.iload_n 1, 1) := by decide +kernel
theorem dX12_lays_56 : decode cX12_lays 56 = .ok (.iaload, 1) := by decide +kernel
theorem dX12_lays_57 : decode cX12_lays 57 = .ok (.invokestatic 104, 3) := by decide +kernel
theorem dX12_lays_60 : decode cX12_lays 60 = .ok (.ifCond .ne 6, 3) := by decide +kernel
theorem dX12_lays_63 : decode cX12_lays 63 = .ok (.bipush (-16), 2) := by decide +kernel
theorem dX12_lays_65 : decode cX12_lays 65 = .ok (.ireturn, 1) := by decide +kernel
theorem dX12_lays_66 : decode cX12_lays 66 = .ok (.aload_n 0, 1) := by decide +kernel
theorem dX12_lays_67 : decode cX12_lays 67 = .ok (.getfield 49, 3) := by decide +kernel
theorem dX12_lays_70 : decode cX12_lays 70 = .ok (.bipush 20, 2) := by decide +kernel
theorem dX12_lays_72 : decode cX12_lays 72 = .ok (.iload_n 1, 1) := by decide +kernel
theorem dX12_lays_73 : decode cX12_lays 73 = .ok (.imul, 1) := by decide +kernel
theorem dX12_lays_74 : decode cX12_lays 74 = .ok (.iload_n 2, 1) := by decide +kernel
theorem dX12_lays_75 : decode cX12_lays 75 = .ok (.iadd, 1) := by decide +kernel
theorem dX12_lays_76 : decode cX12_lays 76 = .ok (.iload_n 3, 1) := by decide +kernel
theorem dX12_lays_77 : decode cX12_lays 77 = .ok (.iastore, 1) := by decide +kernel
theorem dX12_lays_78 : decode cX12_lays 78 = .ok (.iconst 1, 1) := by decide +kernel
theorem dX12_lays_79 : decode cX12_lays 79 = .ok (.ireturn, 1) := by decide +kernel
theorem dX12_laid_0 : decode cX12_laid 0 = .ok (.iload_n 1, 1) := by decide +kernel
theorem dX12_laid_1 : decode cX12_laid 1 = .ok (.iconst 0, 1) := by decide +kernel
theorem dX12_laid_2 : decode cX12_laid 2 = .ok (.iconst 3, 1) := by decide +kernel
theorem dX12_laid_3 : decode cX12_laid 3 = .ok (.invokestatic 64, 3) := by decide +kernel
theorem dX12_laid_6 : decode cX12_laid 6 = .ok (.ifCond .ne 6, 3) := by decide +kernel
theorem dX12_laid_9 : decode cX12_laid 9 = .ok (.bipush (-2), 2) := by decide +kernel
theorem dX12_laid_11 : decode cX12_laid 11 = .ok (.ireturn, 1) := by decide +kernel
theorem dX12_laid_12 : decode cX12_laid 12 = .ok (.aload_n 0, 1) := by decide +kernel
theorem dX12_laid_13 : decode cX12_laid 13 = .ok (.iload_n 1, 1) := by decide +kernel
theorem dX12_laid_14 : decode cX12_laid 14 = .ok (.iload_n 2, 1) := by decide +kernel
theorem dX12_laid_15 : decode cX12_laid 15 = .ok (.invokevirtual 254, 3) := by decide +kernel
theorem dX12_laid_18 : decode cX12_laid 18 = .ok (.istore_n 3, 1) := by decide +kernel
theorem dX12_laid_19 : decode cX12_laid 19 = .ok (.iload_n 3, 1) := by decide +kernel
theorem dX12_laid_20 : decode cX12_laid 20 = .ok (.ifCond .eq 7, 3) := by decide +kernel
theorem dX12_laid_23 : decode cX12_laid 23 = .ok (.iload_n 3, 1) := by decide +kernel
theorem dX12_laid_24 : decode cX12_laid 24 = .ok (.goto 14, 3) := by decide +kernel
theorem dX12_laid_27 : decode cX12_laid 27 = .ok (.aload_n 0, 1) := by decide +kernel
theorem dX12_laid_28 : decode cX12_laid 28 = .ok (.getfield 49, 3) := by decide +kernel
theorem dX12_laid_31 : decode cX12_laid 31 = .ok (.bipush 20, 2) := by decide +kernel
theorem dX12_laid_33 : decode cX12_laid 33 = .ok (.iload_n 1, 1) := by decide +kernel
theorem dX12_laid_34 : decode cX12_laid 34 = .ok (.imul, 1) := by decide +kernel
theorem dX12_laid_35 : decode cX12_laid 35 = .ok (.iload_n 2, 1) := by decide +kernel
theorem dX12_laid_36 : decode cX12_laid 36 = .ok (.iadd, 1) := by decide +kernel
theorem dX12_laid_37 : decode cX12_laid 37 = .ok (.iaload, 1) := by decide +kernel
theorem dX12_laid_38 : decode cX12_laid 38 = .ok (.ireturn, 1) := by decide +kernel
theorem dX12_like_0 : decode cX12_like 0 = .ok (.iload_n 1, 1) := by decide +kernel
theorem dX12_like_1 : decode cX12_like 1 = .ok (.iconst 0, 1) := by decide +kernel
theorem dX12_like_2 : decode cX12_like 2 = .ok (.iconst 3, 1) := by decide +kernel
theorem dX12_like_3 : decode cX12_like 3 = .ok (.invokestatic 64, 3) := by decide +kernel
theorem dX12_like_6 : decode cX12_like 6 = .ok (.ifCond .eq 12, 3) := by decide +kernel
theorem dX12_like_9 : decode cX12_like 9 = .ok (.iload_n 2, 1) := by decide +kernel
theorem dX12_like_10 : decode cX12_like 10 = .ok (.iconst 0, 1) := by decide +kernel
theorem dX12_like_11 : decode cX12_like 11 = .ok (.iconst 3, 1) := by decide +kernel
theorem dX12_like_12 : decode cX12_like 12 = .ok (.invokestatic 64, 3) := by decide +kernel
theorem dX12_like_15 : decode cX12_like 15 = .ok (.ifCond .ne 6, 3) := by decide +kernel
theorem dX12_like_18 : decode cX12_like 18 = .ok (.bipush (-2), 2) := by decide +kernel
theorem dX12_like_20 : decode cX12_like 20 = .ok (.ireturn, 1) := by decide +kernel
theorem dX12_like_21 : decode cX12_like 21 = .ok (.aload_n 0, 1) := by decide +kernel
theorem dX12_like_22 : decode cX12_like 22 = .ok (.getfield 43, 3) := by decide +kernel
theorem dX12_like_25 : decode cX12_like 25 = .ok (.iload_n 2, 1) := by decide +kernel
theorem dX12_like_26 : decode cX12_like 26 = .ok (.iaload, 1) := by decide +kernel
theorem dX12_like_27 : decode cX12_like 27 = .ok (.ifCond .ge 6, 3) := by decide +kernel
theorem dX12_like_30 : decode cX12_like 30 = .ok (.bipush (-11), 2) := by decide +kernel
theorem dX12_like_32 : decode cX12_like 32 = .ok (.ireturn, 1) := by decide +kernel
theorem dX12_like_33 : decode cX12_like 33 = .ok (.aload_n 0, 1) := by decide +kernel
theorem dX12_like_34 : decode cX12_like 34 = .ok (.getfield 43, 3) := by decide +kernel
theorem dX12_like_37 : decode cX12_like 37 = .ok (.iload_n 1, 1) := by decide +kernel
theorem dX12_like_38 : decode cX12_like 38 = .ok (.aload_n 0, 1) := by decide +kernel
theorem dX12_like_39 : decode cX12_like 39 = .ok (.getfield 43, 3) := by decide +kernel
theorem dX12_like_42 : decode cX12_like 42 = .ok (.iload_n 2, 1) := by decide +kernel
theorem dX12_like_43 : decode cX12_like 43 = .ok (.iaload, 1) := by decide +kernel
theorem dX12_like_44 : decode cX12_like 44 = .ok (.iastore, 1) := by decide +kernel
theorem dX12_like_45 : decode cX12_like 45 = .ok (.aload_n 0, 1) := by decide +kernel
theorem dX12_like_46 : decode cX12_like 46 = .ok (.getfield 46, 3) := by decide +kernel
theorem dX12_like_49 : decode cX12_like 49 = .ok (.iload_n 1, 1) := by decide +kernel
theorem dX12_like_50 : decode cX12_like 50 = .ok (.aload_n 0, 1) := by decide +kernel
theorem dX12_like_51 : decode cX12_like 51 = .ok (.getfield 46, 3) := by decide +kernel
theorem dX12_like_54 : decode cX12_like 54 = .ok (.iload_n 2, 1) := by decide +kernel
theorem dX12_like_55 : decode cX12_like 55 = .ok (.iaload, 1) := by decide +kernel
theorem dX12_like_56 : decode cX12_like 56 = .ok (.iastore, 1) := by decide +kernel
theorem dX12_like_57 : decode cX12_like 57 = .ok (.iconst 0, 1) := by decide +kernel
theorem dX12_like_58 : decode cX12_like 58 = .ok (.istore_n 3, 1) := by decide +kernel
theorem dX12_like_59 : decode cX12_like 59 = .ok (.iload_n 3, 1) := by decide +kernel
theorem dX12_like_60 : decode cX12_like 60 = .ok (.aload_n 0, 1) := by decide +kernel
theorem dX12_like_61 : decode cX12_like 61 = .ok (.getfield 46, 3) := by decide +kernel
theorem dX12_like_64 : decode cX12_like 64 = .ok (.iload_n 2, 1) := by decide +kernel
theorem dX12_like_65 : decode cX12_like 65 = .ok (.iaload, 1) := by decide +kernel
theorem dX12_like_66 : decode cX12_like 66 = .ok (.if_icmp .ge 31, 3) := by decide +kernel
theorem dX12_like_69 : decode cX12_like 69 = .ok (.aload_n 0, 1) := by decide +kernel
theorem dX12_like_70 : decode cX12_like 70 = .ok (.getfield 49, 3) := by decide +kernel
theorem dX12_like_73 : decode cX12_like 73 = .ok (.bipush 20, 2) := by decide +kernel
theorem dX12_like_75 : decode cX12_like 75 = .ok (.iload_n 1, 1) := by decide +kernel
theorem dX12_like_76 : decode cX12_like 76 = .ok (.imul, 1) := by decide +kernel
theorem dX12_like_77 : decode cX12_like 77 = .ok (.iload_n 3, 1) := by decide +kernel
theorem dX12_like_78 : decode cX12_like 78 = .ok (.iadd, 1) := by decide +kernel
theorem dX12_like_79 : decode cX12_like 79 = .ok (.aload_n 0, 1) := by decide +kernel
theorem dX12_like_80 : decode cX12_like 80 = .ok (.getfield 49, 3) := by decide +kernel
theorem dX12_like_83 : decode cX12_like 83 = .ok (.bipush 20, 2) := by decide +kernel
theorem dX12_like_85 : decode cX12_like 85 = .ok (.iload_n 2, 1) := by decide +kernel
theorem dX12_like_86 : decode cX12_like 86 = .ok (.imul, 1) := by decide +kernel
theorem dX12_like_87 : decode cX12_like 87 = .ok (.iload_n 3, 1) := by decide +kernel
theorem dX12_like_88 : decode cX12_like 88 = .ok (.iadd, 1) := by decide +kernel
theorem dX12_like_89 : decode cX12_like 89 = .ok (.iaload, 1) := by decide +kernel
theorem dX12_like_90 : decode cX12_like 90 = .ok (.iastore, 1) := by decide +kernel
theorem dX12_like_91 : decode cX12_like 91 = .ok (.iinc 3 1, 3) := by decide +kernel
theorem dX12_like_94 : decode cX12_like 94 = .ok (.goto (-35), 3) := by decide +kernel
theorem dX12_like_97 : decode cX12_like 97 = .ok (.aload_n 0, 1) := by decide +kernel
theorem dX12_like_98 : decode cX12_like 98 = .ok (.getfield 46, 3) := by decide +kernel
theorem dX12_like_101 : decode cX12_like 101 = .ok (.iload_n 1, 1) := by decide +kernel
theorem dX12_like_102 : decode cX12_like 102 = .ok (.iaload, 1) := by decide +kernel
theorem dX12_like_103 : decode cX12_like 103 = .ok (.ireturn, 1) := by decide +kernel
theorem dX12_unlike_0 : decode cX12_unlike 0 = .ok (.aload_n 0, 1) := by decide +kernel
theorem dX12_unlike_1 : decode cX12_unlike 1 = .ok (.invokevirtual 231, 3) := by decide +kernel
theorem dX12_unlike_4 : decode cX12_unlike 4 = .ok (.iconst 0, 1) := by decide +kernel
theorem dX12_unlike_5 : decode cX12_unlike 5 = .ok (.istore_n 2, 1) := by decide +kernel
theorem dX12_unlike_6 : decode cX12_unlike 6 = .ok (.iload_n 2, 1) := by decide +kernel
theorem dX12_unlike_7 : decode cX12_unlike 7 = .ok (.aload_n 0, 1) := by decide +kernel
theorem dX12_unlike_8 : decode cX12_unlike 8 = .ok (.getfield 55, 3) := by decide +kernel
theorem dX12_unlike_11 : decode cX12_unlike 11 = .ok (.iload_n 1, 1) := by decide +kernel
theorem dX12_unlike_12 : decode cX12_unlike 12 = .ok (.iaload, 1) := by decide +kernel
theorem dX12_unlike_13 : decode cX12_unlike 13 = .ok (.if_icmp .ge 44, 3) := by decide +kernel
theorem dX12_unlike_16 : decode cX12_unlike 16 = .ok (.iload_n 2, 1) := by decide +kernel
theorem dX12_unlike_17 : decode cX12_unlike 17 = .ok (.aload_n 0, 1) := by decide +kernel
theorem dX12_unlike_18 : decode cX12_unlike 18 = .ok (.getfield 204, 3) := by decide +kernel
theorem dX12_unlike_21 : decode cX12_unlike 21 = .ok (.if_icmp .ge 36, 3) := by decide +kernel
theorem dX12_unlike_24 : decode cX12_unlike 24 = .ok (.aload_n 0, 1) := by decide +kernel
theorem dX12_unlike_25 : decode cX12_unlike 25 = .ok (.getfield 58, 3) := by decide +kernel
theorem dX12_unlike_28 : decode cX12_unlike 28 = .ok (.bipush 40, 2) := by decide +kernel
theorem dX12_unlike_30 : decode cX12_unlike 30 = .ok (.iload_n 1, 1) := by decide +kernel
theorem dX12_unlike_31 : decode cX12_unlike 31 = .ok (.imul, 1) := by decide +kernel
theorem dX12_unlike_32 : decode cX12_unlike 32 = .ok (.iload_n 2, 1) := by decide +kernel
theorem dX12_unlike_33 : decode cX12_unlike 33 = .ok (.iadd, 1) := by decide +kernel
theorem dX12_unlike_34 : decode cX12_unlike 34 = .ok (.iaload, 1) := by decide +kernel
theorem dX12_unlike_35 : decode cX12_unlike 35 = .ok (.aload_n 0, 1) := by decide +kernel
theorem dX12_unlike_36 : decode cX12_unlike 36 = .ok (.getfield 31, 3) := by decide +kernel
theorem dX12_unlike_39 : decode cX12_unlike 39 = .ok (.iload_n 2, 1) := by decide +kernel
theorem dX12_unlike_40 : decode cX12_unlike 40 = .ok (.iaload, 1) := by decide +kernel
theorem dX12_unlike_41 : decode cX12_unlike 41 = .ok (.aload_n 0, 1) := by decide +kernel
theorem dX12_unlike_42 : decode cX12_unlike 42 = .ok (.getfield 28, 3) := by decide +kernel
theorem dX12_unlike_45 : decode cX12_unlike 45 = .ok (.iload_n 2, 1) := by decide +kernel
theorem dX12_unlike_46 : decode cX12_unlike 46 = .ok (.iaload, 1) := by decide +kernel
theorem dX12_unlike_47 : decode cX12_unlike 47 = .ok (.isub, 1) := by decide +kernel
theorem dX12_unlike_48 : decode cX12_unlike 48 = .ok (.if_icmp .ne 9, 3) := by decide +kernel
theorem dX12_unlike_51 : decode cX12_unlike 51 = .ok (.iinc 2 1, 3) := by decide +kernel
theorem dX12_unlike_54 : decode cX12_unlike 54 = .ok (.goto (-48), 3) := by decide +kernel
theorem dX12_unlike_57 : decode cX12_unlike 57 = .ok (.iload_n 2, 1) := by decide +kernel
theorem dX12_unlike_58 : decode cX12_unlike 58 = .ok (.aload_n 0, 1) := by decide +kernel
theorem dX12_unlike_59 : decode cX12_unlike 59 = .ok (.getfield 55, 3) := by decide +kernel
theorem dX12_unlike_62 : decode cX12_unlike 62 = .ok (.iload_n 1, 1) := by decide +kernel
theorem dX12_unlike_63 : decode cX12_unlike 63 = .ok (.iaload, 1) := by decide +kernel
theorem dX12_unlike_64 : decode cX12_unlike 64 = .ok (.if_icmp .ne 15, 3) := by decide +kernel
theorem dX12_unlike_67 : decode cX12_unlike 67 = .ok (.iload_n 2, 1) := by decide +kernel
theorem dX12_unlike_68 : decode cX12_unlike 68 = .ok (.aload_n 0, 1) := by decide +kernel
theorem dX12_unlike_69 : decode cX12_unlike 69 = .ok (.getfield 204, 3) := by decide +kernel
theorem dX12_unlike_72 : decode cX12_unlike 72 = .ok (.if_icmp .ne 7, 3) := by decide +kernel
theorem dX12_unlike_75 : decode cX12_unlike 75 = .ok (.iconst (-1), 1) := by decide +kernel
theorem dX12_unlike_76 : decode cX12_unlike 76 = .ok (.goto 4, 3) := by decide +kernel
theorem dX12_unlike_79 : decode cX12_unlike 79 = .ok (.iload_n 2, 1) := by decide +kernel
theorem dX12_unlike_80 : decode cX12_unlike 80 = .ok (.ireturn, 1) := by decide +kernel
theorem dX12_tells_0 : decode cX12_tells 0 = .ok (.iload_n 1, 1) := by decide +kernel
theorem dX12_tells_1 : decode cX12_tells 1 = .ok (.invokestatic 257, 3) := by decide +kernel
theorem dX12_tells_4 : decode cX12_tells 4 = .ok (.ifCond .eq 12, 3) := by decide +kernel
theorem dX12_tells_7 : decode cX12_tells 7 = .ok (.iload_n 2, 1) := by decide +kernel
theorem dX12_tells_8 : decode cX12_tells 8 = .ok (.iconst 0, 1) := by decide +kernel
theorem dX12_tells_9 : decode cX12_tells 9 = .ok (.iconst 2, 1) := by decide +kernel
theorem dX12_tells_10 : decode cX12_tells 10 = .ok (.invokestatic 64, 3) := by decide +kernel
theorem dX12_tells_13 : decode cX12_tells 13 = .ok (.ifCond .ne 6, 3) := by decide +kernel
theorem dX12_tells_16 : decode cX12_tells 16 = .ok (.bipush (-2), 2) := by decide +kernel
theorem dX12_tells_18 : decode cX12_tells 18 = .ok (.ireturn, 1) := by decide +kernel
theorem dX12_tells_19 : decode cX12_tells 19 = .ok (.aload_n 0, 1) := by decide +kernel
theorem dX12_tells_20 : decode cX12_tells 20 = .ok (.getfield 52, 3) := by decide +kernel
theorem dX12_tells_23 : decode cX12_tells 23 = .ok (.iload_n 1, 1) := by decide +kernel
theorem dX12_tells_24 : decode cX12_tells 24 = .ok (.iaload, 1) := by decide +kernel
theorem dX12_tells_25 : decode cX12_tells 25 = .ok (.ifCond .ge 6, 3) := by decide +kernel
theorem dX12_tells_28 : decode cX12_tells 28 = .ok (.bipush (-11), 2) := by decide +kernel
theorem dX12_tells_30 : decode cX12_tells 30 = .ok (.ireturn, 1) := by decide +kernel
theorem dX12_tells_31 : decode cX12_tells 31 = .ok (.aload_n 0, 1) := by decide +kernel
theorem dX12_tells_32 : decode cX12_tells 32 = .ok (.getfield 55, 3) := by decide +kernel
theorem dX12_tells_35 : decode cX12_tells 35 = .ok (.iload_n 1, 1) := by decide +kernel
theorem dX12_tells_36 : decode cX12_tells 36 = .ok (.iaload, 1) := by decide +kernel
theorem dX12_tells_37 : decode cX12_tells 37 = .ok (.bipush 6, 2) := by decide +kernel
theorem dX12_tells_39 : decode cX12_tells 39 = .ok (.if_icmp .le 6, 3) := by decide +kernel
theorem dX12_tells_42 : decode cX12_tells 42 = .ok (.bipush (-2), 2) := by decide +kernel
theorem dX12_tells_44 : decode cX12_tells 44 = .ok (.ireturn, 1) := by decide +kernel
theorem dX12_tells_45 : decode cX12_tells 45 = .ok (.aload_n 0, 1) := by decide +kernel
theorem dX12_tells_46 : decode cX12_tells 46 = .ok (.getfield 9, 3) := by decide +kernel
theorem dX12_tells_49 : decode cX12_tells 49 = .ok (.iconst 2, 1) := by decide +kernel
theorem dX12_tells_50 : decode cX12_tells 50 = .ok (.iaload, 1) := by decide +kernel
theorem dX12_tells_51 : decode cX12_tells 51 = .ok (.ifCond .lt 22, 3) := by decide +kernel
theorem dX12_tells_54 : decode cX12_tells 54 = .ok (.aload_n 0, 1) := by decide +kernel
theorem dX12_tells_55 : decode cX12_tells 55 = .ok (.aload_n 0, 1) := by decide +kernel
theorem dX12_tells_56 : decode cX12_tells 56 = .ok (.getfield 9, 3) := by decide +kernel
theorem dX12_tells_59 : decode cX12_tells 59 = .ok (.iconst 2, 1) := by decide +kernel
theorem dX12_tells_60 : decode cX12_tells 60 = .ok (.iaload, 1) := by decide +kernel
theorem dX12_tells_61 : decode cX12_tells 61 = .ok (.bipush 7, 2) := by decide +kernel
theorem dX12_tells_63 : decode cX12_tells 63 = .ok (.aload_n 0, 1) := by decide +kernel
theorem dX12_tells_64 : decode cX12_tells 64 = .ok (.getfield 9, 3) := by decide +kernel
theorem dX12_tells_67 : decode cX12_tells 67 = .ok (.invokevirtual 169, 3) := by decide +kernel
theorem dX12_tells_70 : decode cX12_tells 70 = .ok (.ifCond .ne 6, 3) := by decide +kernel
theorem dX12_tells_73 : decode cX12_tells 73 = .ok (.bipush (-3), 2) := by decide +kernel
theorem dX12_tells_75 : decode cX12_tells 75 = .ok (.ireturn, 1) := by decide +kernel
theorem dX12_tells_76 : decode cX12_tells 76 = .ok (.aload_n 0, 1) := by decide +kernel
theorem dX12_tells_77 : decode cX12_tells 77 = .ok (.invokevirtual 192, 3) := by decide +kernel
theorem dX12_tells_80 : decode cX12_tells 80 = .ok (.iload_n 2, 1) := by decide +kernel
theorem dX12_tells_81 : decode cX12_tells 81 = .ok (.ifCond .ne 9, 3) := by decide +kernel
theorem dX12_tells_84 : decode cX12_tells 84 = .ok (.aload_n 0, 1) := by decide +kernel
theorem dX12_tells_85 : decode cX12_tells 85 = .ok (.iload_n 1, 1) := by decide +kernel
theorem dX12_tells_86 : decode cX12_tells 86 = .ok (.invokevirtual 260, 3) := by decide +kernel
theorem dX12_tells_89 : decode cX12_tells 89 = .ok (.ireturn, 1) := by decide +kernel
theorem dX12_tells_90 : decode cX12_tells 90 = .ok (.iconst 0, 1) := by decide +kernel
theorem dX12_tells_91 : decode cX12_tells 91 = .ok (.istore_n 3, 1) := by decide +kernel
theorem dX12_tells_92 : decode cX12_tells 92 = .ok (.iconst 0, 1) := by decide +kernel
theorem dX12_tells_93 : decode cX12_tells 93 = .ok (.istore 4, 2) := by decide +kernel
theorem dX12_tells_95 : decode cX12_tells 95 = .ok (.iload 4, 2) := by decide +kernel
theorem dX12_tells_97 : decode cX12_tells 97 = .ok (.iload_n 2, 1) := by decide +kernel
theorem dX12_tells_98 : decode cX12_tells 98 = .ok (.iconst 1, 1) := by decide +kernel
theorem dX12_tells_99 : decode cX12_tells 99 = .ok (.if_icmp .ne 7, 3) := by decide +kernel
theorem dX12_tells_102 : decode cX12_tells 102 = .ok (.iconst 4, 1) := by decide +kernel
theorem dX12_tells_103 : decode cX12_tells 103 = .ok (.goto 5, 3) := by decide +kernel
theorem dX12_tells_106 : decode cX12_tells 106 = .ok (.bipush 8, 2) := by decide +kernel
theorem dX12_tells_108 : decode cX12_tells 108 = .ok (.if_icmp .ge 62, 3) := by decide +kernel
theorem dX12_tells_111 : decode cX12_tells 111 = .ok (.aload_n 0, 1) := by decide +kernel
theorem dX12_tells_112 : decode cX12_tells 112 = .ok (.iload_n 2, 1) := by decide +kernel
theorem dX12_tells_113 : decode cX12_tells 113 = .ok (.iconst 1, 1) := by decide +kernel
theorem dX12_tells_114 : decode cX12_tells 114 = .ok (.if_icmp .ne 10, 3) := by decide +kernel
theorem dX12_tells_117 : decode cX12_tells 117 = .ok (.aload_n 0, 1) := by decide +kernel
theorem dX12_tells_118 : decode cX12_tells 118 = .ok (.invokevirtual 181, 3) := by decide +kernel
theorem dX12_tells_121 : decode cX12_tells 121 = .ok (.goto 5, 3) := by decide +kernel
theorem dX12_tells_124 : decode cX12_tells 124 = .ok (.iload 4, 2) := by decide +kernel
theorem dX12_tells_126 : decode cX12_tells 126 = .ok (.iload_n 2, 1) := by decide +kernel
theorem dX12_tells_127 : decode cX12_tells 127 = .ok (.iconst 1, 1) := by decide +kernel
theorem dX12_tells_128 : decode cX12_tells 128 = .ok (.if_icmp .ne 8, 3) := by decide +kernel
theorem dX12_tells_131 : decode cX12_tells 131 = .ok (.iload 4, 2) := by decide +kernel
theorem dX12_tells_133 : decode cX12_tells 133 = .ok (.goto 9, 3) := by decide +kernel
theorem dX12_tells_136 : decode cX12_tells 136 = .ok (.aload_n 0, 1) := by decide +kernel
theorem dX12_tells_137 : decode cX12_tells 137 = .ok (.getfield 9, 3) := by decide +kernel
theorem dX12_tells_140 : decode cX12_tells 140 = .ok (.iconst 3, 1) := by decide +kernel
theorem dX12_tells_141 : decode cX12_tells 141 = .ok (.iaload, 1) := by decide +kernel
theorem dX12_tells_142 : decode cX12_tells 142 = .ok (.invokevirtual 185, 3) := by decide +kernel
theorem dX12_tells_145 : decode cX12_tells 145 = .ok (.iload_n 3, 1) := by decide +kernel
theorem dX12_tells_146 : decode cX12_tells 146 = .ok (.aload_n 0, 1) := by decide +kernel
theorem dX12_tells_147 : decode cX12_tells 147 = .ok (.iload_n 1, 1) := by decide +kernel
theorem dX12_tells_148 : decode cX12_tells 148 = .ok (.invokevirtual 260, 3) := by decide +kernel
theorem dX12_tells_151 : decode cX12_tells 151 = .ok (.ifCond .ge 10, 3) := by decide +kernel
theorem dX12_tells_154 : decode cX12_tells 154 = .ok (.iconst 1, 1) := by decide +kernel
theorem dX12_tells_155 : decode cX12_tells 155 = .ok (.iload 4, 2) := by decide +kernel
theorem dX12_tells_157 : decode cX12_tells 157 = .ok (.ishl, 1) := by decide +kernel
theorem dX12_tells_158 : decode cX12_tells 158 = .ok (.goto 4, 3) := by decide +kernel
theorem dX12_tells_161 : decode cX12_tells 161 = .ok (.iconst 0, 1) := by decide +kernel
theorem dX12_tells_162 : decode cX12_tells 162 = .ok (.ior, 1) := by decide +kernel
theorem dX12_tells_163 : decode cX12_tells 163 = .ok (.istore_n 3, 1) := by decide +kernel
theorem dX12_tells_164 : decode cX12_tells 164 = .ok (.iinc 4 1, 3) := by decide +kernel
theorem dX12_tells_167 : decode cX12_tells 167 = .ok (.goto (-72), 3) := by decide +kernel
theorem dX12_tells_170 : decode cX12_tells 170 = .ok (.iload_n 3, 1) := by decide +kernel
theorem dX12_tells_171 : decode cX12_tells 171 = .ok (.ireturn, 1) := by decide +kernel
theorem dX12_image_0 : decode cX12_image 0 = .ok (.iconst 0, 1) := by decide +kernel
theorem dX12_image_1 : decode cX12_image 1 = .ok (.istore_n 1, 1) := by decide +kernel
theorem dX12_image_2 : decode cX12_image 2 = .ok (.iload_n 1, 1) := by decide +kernel
theorem dX12_image_3 : decode cX12_image 3 = .ok (.sipush 517, 3) := by decide +kernel
theorem dX12_image_6 : decode cX12_image 6 = .ok (.if_icmp .ge 21, 3) := by decide +kernel
theorem dX12_image_9 : decode cX12_image 9 = .ok (.aload_n 0, 1) := by decide +kernel
theorem dX12_image_10 : decode cX12_image 10 = .ok (.getfield 13, 3) := by decide +kernel
theorem dX12_image_13 : decode cX12_image 13 = .ok (.iload_n 1, 1) := by decide +kernel
theorem dX12_image_14 : decode cX12_image 14 = .ok (.aload_n 0, 1) := by decide +kernel
theorem dX12_image_15 : decode cX12_image 15 = .ok (.getfield 9, 3) := by decide +kernel
theorem dX12_image_18 : decode cX12_image 18 = .ok (.iload_n 1, 1) := by decide +kernel
theorem dX12_image_19 : decode cX12_image 19 = .ok (.iaload, 1) := by decide +kernel
theorem dX12_image_20 : decode cX12_image 20 = .ok (.iastore, 1) := by decide +kernel
theorem dX12_image_21 : decode cX12_image 21 = .ok (.iinc 1 1, 3) := by decide +kernel
theorem dX12_image_24 : decode cX12_image 24 = .ok (.goto (-22), 3) := by decide +kernel
theorem dX12_image_27 : decode cX12_image 27 = .ok (.aload_n 0, 1) := by decide +kernel
theorem dX12_image_28 : decode cX12_image 28 = .ok (.iconst 1, 1) := by decide +kernel
theorem dX12_image_29 : decode cX12_image 29 = .ok (.putfield 263, 3) := by decide +kernel
theorem dX12_image_32 : decode cX12_image 32 = .ok (.aload_n 0, 1) := by decide +kernel
theorem dX12_image_33 : decode cX12_image 33 = .ok (.getfield 9, 3) := by decide +kernel
theorem dX12_image_36 : decode cX12_image 36 = .ok (.iconst 0, 1) := by decide +kernel
theorem dX12_image_37 : decode cX12_image 37 = .ok (.iaload, 1) := by decide +kernel
theorem dX12_image_38 : decode cX12_image 38 = .ok (.ireturn, 1) := by decide +kernel
theorem dX12_back_0 : decode cX12_back 0 = .ok (.aload_n 0, 1) := by decide +kernel
theorem dX12_back_1 : decode cX12_back 1 = .ok (.getfield 263, 3) := by decide +kernel
theorem dX12_back_4 : decode cX12_back 4 = .ok (.ifCond .ne 6, 3) := by decide +kernel
theorem dX12_back_7 : decode cX12_back 7 = .ok (.bipush (-3), 2) := by decide +kernel
theorem dX12_back_9 : decode cX12_back 9 = .ok (.ireturn, 1) := by decide +kernel
theorem dX12_back_10 : decode cX12_back 10 = .ok (.iconst 0, 1) := by decide +kernel
theorem dX12_back_11 : decode cX12_back 11 = .ok (.istore_n 1, 1) := by decide +kernel
theorem dX12_back_12 : decode cX12_back 12 = .ok (.iload_n 1, 1) := by decide +kernel
theorem dX12_back_13 : decode cX12_back 13 = .ok (.sipush 517, 3) := by decide +kernel
theorem dX12_back_16 : decode cX12_back 16 = .ok (.if_icmp .ge 21, 3) := by decide +kernel
theorem dX12_back_19 : decode cX12_back 19 = .ok (.aload_n 0, 1) := by decide +kernel
theorem dX12_back_20 : decode cX12_back 20 = .ok (.getfield 9, 3) := by decide +kernel
theorem dX12_back_23 : decode cX12_back 23 = .ok (.iload_n 1, 1) := by decide +kernel
theorem dX12_back_24 : decode cX12_back 24 = .ok (.aload_n 0, 1) := by decide +kernel
theorem dX12_back_25 : decode cX12_back 25 = .ok (.getfield 13, 3) := by decide +kernel
theorem dX12_back_28 : decode cX12_back 28 = .ok (.iload_n 1, 1) := by decide +kernel
theorem dX12_back_29 : decode cX12_back 29 = .ok (.iaload, 1) := by decide +kernel
theorem dX12_back_30 : decode cX12_back 30 = .ok (.iastore, 1) := by decide +kernel
theorem dX12_back_31 : decode cX12_back 31 = .ok (.iinc 1 1, 3) := by decide +kernel
theorem dX12_back_34 : decode cX12_back 34 = .ok (.goto (-22), 3) := by decide +kernel
theorem dX12_back_37 : decode cX12_back 37 = .ok (.aload_n 0, 1) := by decide +kernel
theorem dX12_back_38 : decode cX12_back 38 = .ok (.getfield 9, 3) := by decide +kernel
theorem dX12_back_41 : decode cX12_back 41 = .ok (.iconst 0, 1) := by decide +kernel
theorem dX12_back_42 : decode cX12_back 42 = .ok (.iaload, 1) := by decide +kernel
theorem dX12_back_43 : decode cX12_back 43 = .ok (.ireturn, 1) := by decide +kernel
theorem dX12_count_0 : decode cX12_count 0 = .ok (.iload_n 1, 1) := by decide +kernel
theorem dX12_count_1 : decode cX12_count 1 = .ok (.iconst 2, 1) := by decide +kernel
theorem dX12_count_2 : decode cX12_count 2 = .ok (.if_icmp .ne 16, 3) := by decide +kernel
theorem dX12_count_5 : decode cX12_count 5 = .ok (.aload_n 0, 1) := by decide +kernel
theorem dX12_count_6 : decode cX12_count 6 = .ok (.invokevirtual 238, 3) := by decide +kernel
theorem dX12_count_9 : decode cX12_count 9 = .ok (.aload_n 0, 1) := by decide +kernel
theorem dX12_count_10 : decode cX12_count 10 = .ok (.invokevirtual 231, 3) := by decide +kernel
theorem dX12_count_13 : decode cX12_count 13 = .ok (.aload_n 0, 1) := by decide +kernel
theorem dX12_count_14 : decode cX12_count 14 = .ok (.getfield 204, 3) := by decide +kernel
theorem dX12_count_17 : decode cX12_count 17 = .ok (.ireturn, 1) := by decide +kernel
theorem dX12_count_18 : decode cX12_count 18 = .ok (.iload_n 1, 1) := by decide +kernel
theorem dX12_count_19 : decode cX12_count 19 = .ok (.iconst 3, 1) := by decide +kernel
theorem dX12_count_20 : decode cX12_count 20 = .ok (.if_icmp .ne 7, 3) := by decide +kernel
theorem dX12_count_23 : decode cX12_count 23 = .ok (.aload_n 0, 1) := by decide +kernel
theorem dX12_count_24 : decode cX12_count 24 = .ok (.invokevirtual 192, 3) := by decide +kernel
theorem dX12_count_27 : decode cX12_count 27 = .ok (.iload_n 1, 1) := by decide +kernel
theorem dX12_count_28 : decode cX12_count 28 = .ok (.ifCond .ne 12, 3) := by decide +kernel
theorem dX12_count_31 : decode cX12_count 31 = .ok (.aload_n 0, 1) := by decide +kernel
theorem dX12_count_32 : decode cX12_count 32 = .ok (.getfield 9, 3) := by decide +kernel
theorem dX12_count_35 : decode cX12_count 35 = .ok (.iconst 0, 1) := by decide +kernel
theorem dX12_count_36 : decode cX12_count 36 = .ok (.iaload, 1) := by decide +kernel
theorem dX12_count_37 : decode cX12_count 37 = .ok (.goto 43, 3) := by decide +kernel
theorem dX12_count_40 : decode cX12_count 40 = .ok (.iload_n 1, 1) := by decide +kernel
theorem dX12_count_41 : decode cX12_count 41 = .ok (.iconst 1, 1) := by decide +kernel
theorem dX12_count_42 : decode cX12_count 42 = .ok (.if_icmp .ne 12, 3) := by decide +kernel
theorem dX12_count_45 : decode cX12_count 45 = .ok (.aload_n 0, 1) := by decide +kernel
theorem dX12_count_46 : decode cX12_count 46 = .ok (.getfield 9, 3) := by decide +kernel
theorem dX12_count_49 : decode cX12_count 49 = .ok (.iconst 1, 1) := by decide +kernel
theorem dX12_count_50 : decode cX12_count 50 = .ok (.iaload, 1) := by decide +kernel
theorem dX12_count_51 : decode cX12_count 51 = .ok (.goto 29, 3) := by decide +kernel
theorem dX12_count_54 : decode cX12_count 54 = .ok (.iload_n 1, 1) := by decide +kernel
theorem dX12_count_55 : decode cX12_count 55 = .ok (.iconst 3, 1) := by decide +kernel
theorem dX12_count_56 : decode cX12_count 56 = .ok (.if_icmp .ne 10, 3) := by decide +kernel
theorem dX12_count_59 : decode cX12_count 59 = .ok (.aload_n 0, 1) := by decide +kernel
theorem dX12_count_60 : decode cX12_count 60 = .ok (.getfield 166, 3) := by decide +kernel
theorem dX12_count_63 : decode cX12_count 63 = .ok (.goto 17, 3) := by decide +kernel
theorem dX12_count_66 : decode cX12_count 66 = .ok (.iload_n 1, 1) := by decide +kernel
theorem dX12_count_67 : decode cX12_count 67 = .ok (.iconst 4, 1) := by decide +kernel
theorem dX12_count_68 : decode cX12_count 68 = .ok (.if_icmp .ne 10, 3) := by decide +kernel
theorem dX12_count_71 : decode cX12_count 71 = .ok (.aload_n 0, 1) := by decide +kernel
theorem dX12_count_72 : decode cX12_count 72 = .ok (.getfield 72, 3) := by decide +kernel
theorem dX12_count_75 : decode cX12_count 75 = .ok (.goto 5, 3) := by decide +kernel
theorem dX12_count_78 : decode cX12_count 78 = .ok (.bipush (-2), 2) := by decide +kernel
theorem dX12_count_80 : decode cX12_count 80 = .ok (.ireturn, 1) := by decide +kernel
theorem dX12_isSheet_0 : decode cX12_isSheet 0 = .ok (.iload_n 0, 1) := by decide +kernel
theorem dX12_isSheet_1 : decode cX12_isSheet 1 = .ok (.iconst 0, 1) := by decide +kernel
theorem dX12_isSheet_2 : decode cX12_isSheet 2 = .ok (.iconst 3, 1) := by decide +kernel
theorem dX12_isSheet_3 : decode cX12_isSheet 3 = .ok (.invokestatic 64, 3) := by decide +kernel
theorem dX12_isSheet_6 : decode cX12_isSheet 6 = .ok (.ireturn, 1) := by decide +kernel
theorem dX12_sheet_0 : decode cX12_sheet 0 = .ok (.iload_n 1, 1) := by decide +kernel
theorem dX12_sheet_1 : decode cX12_sheet 1 = .ok (.invokestatic 257, 3) := by decide +kernel
theorem dX12_sheet_4 : decode cX12_sheet 4 = .ok (.ifCond .eq 22, 3) := by decide +kernel
theorem dX12_sheet_7 : decode cX12_sheet 7 = .ok (.iload_n 2, 1) := by decide +kernel
theorem dX12_sheet_8 : decode cX12_sheet 8 = .ok (.iconst (-1), 1) := by decide +kernel
theorem dX12_sheet_9 : decode cX12_sheet 9 = .ok (.iconst 1, 1) := by decide +kernel
theorem dX12_sheet_10 : decode cX12_sheet 10 = .ok (.invokestatic 64, 3) := by decide +kernel
theorem dX12_sheet_13 : decode cX12_sheet 13 = .ok (.ifCond .eq 13, 3) := by decide +kernel
theorem dX12_sheet_16 : decode cX12_sheet 16 = .ok (.iload_n 2, 1) := by decide +kernel
theorem dX12_sheet_17 : decode cX12_sheet 17 = .ok (.ifCond .lt 12, 3) := by decide +kernel
theorem dX12_sheet_20 : decode cX12_sheet 20 = .ok (.iload_n 3, 1) := by decide +kernel
theorem dX12_sheet_21 : decode cX12_sheet 21 = .ok (.bipush 40, 2) := by decide +kernel
theorem dX12_sheet_23 : decode cX12_sheet 23 = .ok (.if_icmp .le 6, 3) := by decide +kernel
theorem dX12_sheet_26 : decode cX12_sheet 26 = .ok (.bipush (-2), 2) := by decide +kernel
theorem dX12_sheet_28 : decode cX12_sheet 28 = .ok (.ireturn, 1) := by decide +kernel
theorem dX12_sheet_29 : decode cX12_sheet 29 = .ok (.iload_n 2, 1) := by decide +kernel
theorem dX12_sheet_30 : decode cX12_sheet 30 = .ok (.ifCond .lt 10, 3) := by decide +kernel
theorem dX12_sheet_33 : decode cX12_sheet 33 = .ok (.iload_n 3, 1) := by decide +kernel
theorem dX12_sheet_34 : decode cX12_sheet 34 = .ok (.ifCond .ge 6, 3) := by decide +kernel
theorem dX12_sheet_37 : decode cX12_sheet 37 = .ok (.bipush (-14), 2) := by decide +kernel
theorem dX12_sheet_39 : decode cX12_sheet 39 = .ok (.ireturn, 1) := by decide +kernel
theorem dX12_sheet_40 : decode cX12_sheet 40 = .ok (.aload_n 0, 1) := by decide +kernel
theorem dX12_sheet_41 : decode cX12_sheet 41 = .ok (.getfield 52, 3) := by decide +kernel
theorem dX12_sheet_44 : decode cX12_sheet 44 = .ok (.iload_n 1, 1) := by decide +kernel
theorem dX12_sheet_45 : decode cX12_sheet 45 = .ok (.iload_n 2, 1) := by decide +kernel
theorem dX12_sheet_46 : decode cX12_sheet 46 = .ok (.iastore, 1) := by decide +kernel
theorem dX12_sheet_47 : decode cX12_sheet 47 = .ok (.aload_n 0, 1) := by decide +kernel
theorem dX12_sheet_48 : decode cX12_sheet 48 = .ok (.getfield 55, 3) := by decide +kernel
theorem dX12_sheet_51 : decode cX12_sheet 51 = .ok (.iload_n 1, 1) := by decide +kernel
theorem dX12_sheet_52 : decode cX12_sheet 52 = .ok (.iload_n 2, 1) := by decide +kernel
theorem dX12_sheet_53 : decode cX12_sheet 53 = .ok (.ifCond .ge 7, 3) := by decide +kernel
theorem dX12_sheet_56 : decode cX12_sheet 56 = .ok (.iconst 0, 1) := by decide +kernel
theorem dX12_sheet_57 : decode cX12_sheet 57 = .ok (.goto 4, 3) := by decide +kernel
theorem dX12_sheet_60 : decode cX12_sheet 60 = .ok (.iload_n 3, 1) := by decide +kernel
theorem dX12_sheet_61 : decode cX12_sheet 61 = .ok (.iastore, 1) := by decide +kernel
theorem dX12_sheet_62 : decode cX12_sheet 62 = .ok (.iconst 0, 1) := by decide +kernel
theorem dX12_sheet_63 : decode cX12_sheet 63 = .ok (.istore 4, 2) := by decide +kernel
theorem dX12_sheet_65 : decode cX12_sheet 65 = .ok (.iload 4, 2) := by decide +kernel
theorem dX12_sheet_67 : decode cX12_sheet 67 = .ok (.aload_n 0, 1) := by decide +kernel
theorem dX12_sheet_68 : decode cX12_sheet 68 = .ok (.getfield 55, 3) := by decide +kernel
theorem dX12_sheet_71 : decode cX12_sheet 71 = .ok (.iload_n 1, 1) := by decide +kernel
theorem dX12_sheet_72 : decode cX12_sheet 72 = .ok (.iaload, 1) := by decide +kernel
theorem dX12_sheet_73 : decode cX12_sheet 73 = .ok (.if_icmp .ge 22, 3) := by decide +kernel
theorem dX12_sheet_76 : decode cX12_sheet 76 = .ok (.aload_n 0, 1) := by decide +kernel
theorem dX12_sheet_77 : decode cX12_sheet 77 = .ok (.getfield 58, 3) := by decide +kernel
theorem dX12_sheet_80 : decode cX12_sheet 80 = .ok (.bipush 40, 2) := by decide +kernel
theorem dX12_sheet_82 : decode cX12_sheet 82 = .ok (.iload_n 1, 1) := by decide +kernel
theorem dX12_sheet_83 : decode cX12_sheet 83 = .ok (.imul, 1) := by decide +kernel
theorem dX12_sheet_84 : decode cX12_sheet 84 = .ok (.iload 4, 2) := by decide +kernel
theorem dX12_sheet_86 : decode cX12_sheet 86 = .ok (.iadd, 1) := by decide +kernel
theorem dX12_sheet_87 : decode cX12_sheet 87 = .ok (.iconst 0, 1) := by decide +kernel
theorem dX12_sheet_88 : decode cX12_sheet 88 = .ok (.iastore, 1) := by decide +kernel
theorem dX12_sheet_89 : decode cX12_sheet 89 = .ok (.iinc 4 1, 3) := by decide +kernel
theorem dX12_sheet_92 : decode cX12_sheet 92 = .ok (.goto (-27), 3) := by decide +kernel
theorem dX12_sheet_95 : decode cX12_sheet 95 = .ok (.iconst 1, 1) := by decide +kernel
theorem dX12_sheet_96 : decode cX12_sheet 96 = .ok (.ireturn, 1) := by decide +kernel
theorem dX12_put_0 : decode cX12_put 0 = .ok (.iload_n 1, 1) := by decide +kernel
theorem dX12_put_1 : decode cX12_put 1 = .ok (.invokestatic 257, 3) := by decide +kernel
theorem dX12_put_4 : decode cX12_put 4 = .ok (.ifCond .ne 6, 3) := by decide +kernel
theorem dX12_put_7 : decode cX12_put 7 = .ok (.bipush (-2), 2) := by decide +kernel
theorem dX12_put_9 : decode cX12_put 9 = .ok (.ireturn, 1) := by decide +kernel
theorem dX12_put_10 : decode cX12_put 10 = .ok (.aload_n 0, 1) := by decide +kernel
theorem dX12_put_11 : decode cX12_put 11 = .ok (.getfield 52, 3) := by decide +kernel
theorem dX12_put_14 : decode cX12_put 14 = .ok (.iload_n 1, 1) := by decide +kernel
theorem dX12_put_15 : decode cX12_put 15 = .ok (.iaload, 1) := by decide +kernel
theorem dX12_put_16 : decode cX12_put 16 = .ok (.ifCond .ge 6, 3) := by decide +kernel
theorem dX12_put_19 : decode cX12_put 19 = .ok (.bipush (-11), 2) := by decide +kernel
theorem dX12_put_21 : decode cX12_put 21 = .ok (.ireturn, 1) := by decide +kernel
theorem dX12_put_22 : decode cX12_put 22 = .ok (.iload_n 2, 1) := by decide +kernel
theorem dX12_put_23 : decode cX12_put 23 = .ok (.iconst 0, 1) := by decide +kernel
theorem dX12_put_24 : decode cX12_put 24 = .ok (.aload_n 0, 1) := by decide +kernel
theorem dX12_put_25 : decode cX12_put 25 = .ok (.getfield 55, 3) := by decide +kernel
theorem dX12_put_28 : decode cX12_put 28 = .ok (.iload_n 1, 1) := by decide +kernel
theorem dX12_put_29 : decode cX12_put 29 = .ok (.iaload, 1) := by decide +kernel
theorem dX12_put_30 : decode cX12_put 30 = .ok (.iconst 1, 1) := by decide +kernel
theorem dX12_put_31 : decode cX12_put 31 = .ok (.isub, 1) := by decide +kernel
theorem dX12_put_32 : decode cX12_put 32 = .ok (.invokestatic 64, 3) := by decide +kernel
theorem dX12_put_35 : decode cX12_put 35 = .ok (.ifCond .ne 6, 3) := by decide +kernel
theorem dX12_put_38 : decode cX12_put 38 = .ok (.bipush (-12), 2) := by decide +kernel
theorem dX12_put_40 : decode cX12_put 40 = .ok (.ireturn, 1) := by decide +kernel
theorem dX12_put_41 : decode cX12_put 41 = .ok (.aload_n 0, 1) := by decide +kernel
theorem dX12_put_42 : decode cX12_put 42 = .ok (.getfield 58, 3) := by decide +kernel
theorem dX12_put_45 : decode cX12_put 45 = .ok (.bipush 40, 2) := by decide +kernel
theorem dX12_put_47 : decode cX12_put 47 = .ok (.iload_n 1, 1) := by decide +kernel
theorem dX12_put_48 : decode cX12_put 48 = .ok (.imul, 1) := by decide +kernel
theorem dX12_put_49 : decode cX12_put 49 = .ok (.iload_n 2, 1) := by decide +kernel
theorem dX12_put_50 : decode cX12_put 50 = .ok (.iadd, 1) := by decide +kernel
theorem dX12_put_51 : decode cX12_put 51 = .ok (.aload_n 0, 1) := by decide +kernel
theorem dX12_put_52 : decode cX12_put 52 = .ok (.getfield 52, 3) := by decide +kernel
theorem dX12_put_55 : decode cX12_put 55 = .ok (.iload_n 1, 1) := by decide +kernel
theorem dX12_put_56 : decode cX12_put 56 = .ok (.iaload, 1) := by decide +kernel
theorem dX12_put_57 : decode cX12_put 57 = .ok (.ifCond .ne 8, 3) := by decide +kernel
theorem dX12_put_60 : decode cX12_put 60 = .ok (.iload_n 3, 1) := by decide +kernel
theorem dX12_put_61 : decode cX12_put 61 = .ok (.i2s, 1) := by decide +kernel
theorem dX12_put_62 : decode cX12_put 62 = .ok (.goto 4, 3) := by decide +kernel
theorem dX12_put_65 : decode cX12_put 65 = .ok (.iload_n 3, 1) := by decide +kernel
theorem dX12_put_66 : decode cX12_put 66 = .ok (.iastore, 1) := by decide +kernel
theorem dX12_put_67 : decode cX12_put 67 = .ok (.iconst 1, 1) := by decide +kernel
theorem dX12_put_68 : decode cX12_put 68 = .ok (.ireturn, 1) := by decide +kernel
theorem dX12_copy_0 : decode cX12_copy 0 = .ok (.iload_n 1, 1) := by decide +kernel
theorem dX12_copy_1 : decode cX12_copy 1 = .ok (.invokestatic 257, 3) := by decide +kernel
theorem dX12_copy_4 : decode cX12_copy 4 = .ok (.ifCond .eq 10, 3) := by decide +kernel
theorem dX12_copy_7 : decode cX12_copy 7 = .ok (.iload_n 3, 1) := by decide +kernel
theorem dX12_copy_8 : decode cX12_copy 8 = .ok (.invokestatic 257, 3) := by decide +kernel
theorem dX12_copy_11 : decode cX12_copy 11 = .ok (.ifCond .ne 6, 3) := by decide +kernel
theorem dX12_copy_14 : decode cX12_copy 14 = .ok (.bipush (-2), 2) := by decide +kernel
theorem dX12_copy_16 : decode cX12_copy 16 = .ok (.ireturn, 1) := by decide +kernel
theorem dX12_copy_17 : decode cX12_copy 17 = .ok (.aload_n 0, 1) := by decide +kernel
theorem dX12_copy_18 : decode cX12_copy 18 = .ok (.getfield 52, 3) := by decide +kernel
theorem dX12_copy_21 : decode cX12_copy 21 = .ok (.iload_n 1, 1) := by decide +kernel
theorem dX12_copy_22 : decode cX12_copy 22 = .ok (.iaload, 1) := by decide +kernel
theorem dX12_copy_23 : decode cX12_copy 23 = .ok (.ifCond .lt 12, 3) := by decide +kernel
theorem dX12_copy_26 : decode cX12_copy 26 = .ok (.aload_n 0, 1) := by decide +kernel
theorem dX12_copy_27 : decode cX12_copy 27 = .ok (.getfield 52, 3) := by decide +kernel
theorem dX12_copy_30 : decode cX12_copy 30 = .ok (.iload_n 3, 1) := by decide +kernel
theorem dX12_copy_31 : decode cX12_copy 31 = .ok (.iaload, 1) := by decide +kernel
theorem dX12_copy_32 : decode cX12_copy 32 = .ok (.ifCond .ge 6, 3) := by decide +kernel
theorem dX12_copy_35 : decode cX12_copy 35 = .ok (.bipush (-11), 2) := by decide +kernel
theorem dX12_copy_37 : decode cX12_copy 37 = .ok (.ireturn, 1) := by decide +kernel
theorem dX12_copy_38 : decode cX12_copy 38 = .ok (.aload_n 0, 1) := by decide +kernel
theorem dX12_copy_39 : decode cX12_copy 39 = .ok (.getfield 52, 3) := by decide +kernel
theorem dX12_copy_42 : decode cX12_copy 42 = .ok (.iload_n 1, 1) := by decide +kernel
theorem dX12_copy_43 : decode cX12_copy 43 = .ok (.iaload, 1) := by decide +kernel
theorem dX12_copy_44 : decode cX12_copy 44 = .ok (.aload_n 0, 1) := by decide +kernel
theorem dX12_copy_45 : decode cX12_copy 45 = .ok (.getfield 52, 3) := by decide +kernel
theorem dX12_copy_48 : decode cX12_copy 48 = .ok (.iload_n 3, 1) := by decide +kernel
theorem dX12_copy_49 : decode cX12_copy 49 = .ok (.iaload, 1) := by decide +kernel
theorem dX12_copy_50 : decode cX12_copy 50 = .ok (.if_icmp .eq 6, 3) := by decide +kernel
theorem dX12_copy_53 : decode cX12_copy 53 = .ok (.bipush (-13), 2) := by decide +kernel
theorem dX12_copy_55 : decode cX12_copy 55 = .ok (.ireturn, 1) := by decide +kernel
theorem dX12_copy_56 : decode cX12_copy 56 = .ok (.iload 5, 2) := by decide +kernel
theorem dX12_copy_58 : decode cX12_copy 58 = .ok (.ifCond .lt 39, 3) := by decide +kernel
theorem dX12_copy_61 : decode cX12_copy 61 = .ok (.iload_n 2, 1) := by decide +kernel
theorem dX12_copy_62 : decode cX12_copy 62 = .ok (.ifCond .lt 35, 3) := by decide +kernel
theorem dX12_copy_65 : decode cX12_copy 65 = .ok (.iload 4, 2) := by decide +kernel
theorem dX12_copy_67 : decode cX12_copy 67 = .ok (.ifCond .lt 30, 3) := by decide +kernel
theorem dX12_copy_70 : decode cX12_copy 70 = .ok (.iload_n 2, 1) := by decide +kernel
theorem dX12_copy_71 : decode cX12_copy 71 = .ok (.aload_n 0, 1) := by decide +kernel
theorem dX12_copy_72 : decode cX12_copy 72 = .ok (.getfield 55, 3) := by decide +kernel
theorem dX12_copy_75 : decode cX12_copy 75 = .ok (.iload_n 1, 1) := by decide +kernel
theorem dX12_copy_76 : decode cX12_copy 76 = .ok (.iaload, 1) := by decide +kernel
theorem dX12_copy_77 : decode cX12_copy 77 = .ok (.iload 5, 2) := by decide +kernel
theorem dX12_copy_79 : decode cX12_copy 79 = .ok (.isub, 1) := by decide +kernel
theorem dX12_copy_80 : decode cX12_copy 80 = .ok (.if_icmp .gt 17, 3) := by decide +kernel
theorem dX12_copy_83 : decode cX12_copy 83 = .ok (.iload 4, 2) := by decide +kernel
theorem dX12_copy_85 : decode cX12_copy 85 = .ok (.aload_n 0, 1) := by decide +kernel
theorem dX12_copy_86 : decode cX12_copy 86 = .ok (.getfield 55, 3) := by decide +kernel
theorem dX12_copy_89 : decode cX12_copy 89 = .ok (.iload_n 3, 1) := by decide +kernel
theorem dX12_copy_90 : decode cX12_copy 90 = .ok (.iaload, 1) := by decide +kernel
theorem dX12_copy_91 : decode cX12_copy 91 = .ok (.iload 5, 2) := by decide +kernel
theorem dX12_copy_93 : decode cX12_copy 93 = .ok (.isub, 1) := by decide +kernel
theorem dX12_copy_94 : decode cX12_copy 94 = .ok (.if_icmp .le 6, 3) := by decide +kernel
