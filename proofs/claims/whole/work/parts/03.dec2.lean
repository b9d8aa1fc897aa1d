theorem dX9_init_0 : decode cX9_init 0 = .ok (.aload_n 0, 1) := by decide +kernel
theorem dX9_init_1 : decode cX9_init 1 = .ok (.invokespecial 1, 3) := by decide +kernel
theorem dX9_init_4 : decode cX9_init 4 = .ok (.aload_n 0, 1) := by decide +kernel
theorem dX9_init_5 : decode cX9_init 5 = .ok (.bipush 95, 2) := by decide +kernel
theorem dX9_init_7 : decode cX9_init 7 = .ok (.newarray .int, 2) := by decide +kernel
theorem dX9_init_9 : decode cX9_init 9 = .ok (.putfield 7, 3) := by decide +kernel
theorem dX9_init_12 : decode cX9_init 12 = .ok (.aload_n 0, 1) := by decide +kernel
theorem dX9_init_13 : decode cX9_init 13 = .ok (.sipush 760, 3) := by decide +kernel
theorem dX9_init_16 : decode cX9_init 16 = .ok (.newarray .int, 2) := by decide +kernel
theorem dX9_init_18 : decode cX9_init 18 = .ok (.putfield 13, 3) := by decide +kernel
theorem dX9_init_21 : decode cX9_init 21 = .ok (.aload_n 0, 1) := by decide +kernel
theorem dX9_init_22 : decode cX9_init 22 = .ok (.sipush 190, 3) := by decide +kernel
theorem dX9_init_25 : decode cX9_init 25 = .ok (.newarray .int, 2) := by decide +kernel
theorem dX9_init_27 : decode cX9_init 27 = .ok (.putfield 16, 3) := by decide +kernel
theorem dX9_init_30 : decode cX9_init 30 = .ok (.aload_n 0, 1) := by decide +kernel
theorem dX9_init_31 : decode cX9_init 31 = .ok (.iconst 2, 1) := by decide +kernel
theorem dX9_init_32 : decode cX9_init 32 = .ok (.newarray .boolean, 2) := by decide +kernel
theorem dX9_init_34 : decode cX9_init 34 = .ok (.putfield 19, 3) := by decide +kernel
theorem dX9_init_37 : decode cX9_init 37 = .ok (.aload_n 0, 1) := by decide +kernel
theorem dX9_init_38 : decode cX9_init 38 = .ok (.bipush 6, 2) := by decide +kernel
theorem dX9_init_40 : decode cX9_init 40 = .ok (.newarray .int, 2) := by decide +kernel
theorem dX9_init_42 : decode cX9_init 42 = .ok (.putfield 23, 3) := by decide +kernel
theorem dX9_init_45 : decode cX9_init 45 = .ok (.aload_n 0, 1) := by decide +kernel
theorem dX9_init_46 : decode cX9_init 46 = .ok (.bipush 6, 2) := by decide +kernel
theorem dX9_init_48 : decode cX9_init 48 = .ok (.newarray .int, 2) := by decide +kernel
theorem dX9_init_50 : decode cX9_init 50 = .ok (.putfield 26, 3) := by decide +kernel
theorem dX9_init_53 : decode cX9_init 53 = .ok (.aload_n 0, 1) := by decide +kernel
theorem dX9_init_54 : decode cX9_init 54 = .ok (.getfield 7, 3) := by decide +kernel
theorem dX9_init_57 : decode cX9_init 57 = .ok (.iconst 0, 1) := by decide +kernel
theorem dX9_init_58 : decode cX9_init 58 = .ok (.iconst 1, 1) := by decide +kernel
theorem dX9_init_59 : decode cX9_init 59 = .ok (.iastore, 1) := by decide +kernel
theorem dX9_init_60 : decode cX9_init 60 = .ok (.aload_n 0, 1) := by decide +kernel
theorem dX9_init_61 : decode cX9_init 61 = .ok (.getfield 7, 3) := by decide +kernel
theorem dX9_init_64 : decode cX9_init 64 = .ok (.bipush 21, 2) := by decide +kernel
theorem dX9_init_66 : decode cX9_init 66 = .ok (.bipush 40, 2) := by decide +kernel
theorem dX9_init_68 : decode cX9_init 68 = .ok (.iastore, 1) := by decide +kernel
theorem dX9_init_69 : decode cX9_init 69 = .ok (.aload_n 0, 1) := by decide +kernel
theorem dX9_init_70 : decode cX9_init 70 = .ok (.getfield 7, 3) := by decide +kernel
theorem dX9_init_73 : decode cX9_init 73 = .ok (.bipush 35, 2) := by decide +kernel
theorem dX9_init_75 : decode cX9_init 75 = .ok (.iconst 1, 1) := by decide +kernel
theorem dX9_init_76 : decode cX9_init 76 = .ok (.iastore, 1) := by decide +kernel
theorem dX9_init_77 : decode cX9_init 77 = .ok (.aload_n 0, 1) := by decide +kernel
theorem dX9_init_78 : decode cX9_init 78 = .ok (.getfield 7, 3) := by decide +kernel
theorem dX9_init_81 : decode cX9_init 81 = .ok (.bipush 37, 2) := by decide +kernel
theorem dX9_init_83 : decode cX9_init 83 = .ok (.iconst 5, 1) := by decide +kernel
theorem dX9_init_84 : decode cX9_init 84 = .ok (.iastore, 1) := by decide +kernel
theorem dX9_init_85 : decode cX9_init 85 = .ok (.return_, 1) := by decide +kernel
theorem dX9_in_0 : decode cX9_in 0 = .ok (.iload_n 0, 1) := by decide +kernel
theorem dX9_in_1 : decode cX9_in 1 = .ok (.iload_n 1, 1) := by decide +kernel
theorem dX9_in_2 : decode cX9_in 2 = .ok (.if_icmp .lt 12, 3) := by decide +kernel
theorem dX9_in_5 : decode cX9_in 5 = .ok (.iload_n 0, 1) := by decide +kernel
theorem dX9_in_6 : decode cX9_in 6 = .ok (.iload_n 2, 1) := by decide +kernel
theorem dX9_in_7 : decode cX9_in 7 = .ok (.if_icmp .gt 7, 3) := by decide +kernel
theorem dX9_in_10 : decode cX9_in 10 = .ok (.iconst 1, 1) := by decide +kernel
theorem dX9_in_11 : decode cX9_in 11 = .ok (.goto 4, 3) := by decide +kernel
theorem dX9_in_14 : decode cX9_in 14 = .ok (.iconst 0, 1) := by decide +kernel
theorem dX9_in_15 : decode cX9_in 15 = .ok (.ireturn, 1) := by decide +kernel
theorem dX9_size_0 : decode cX9_size 0 = .ok (.iload_n 0, 1) := by decide +kernel
theorem dX9_size_1 : decode cX9_size 1 = .ok (.ifCond .ge 8, 3) := by decide +kernel
theorem dX9_size_4 : decode cX9_size 4 = .ok (.iload_n 0, 1) := by decide +kernel
theorem dX9_size_5 : decode cX9_size 5 = .ok (.ineg, 1) := by decide +kernel
theorem dX9_size_6 : decode cX9_size 6 = .ok (.goto 4, 3) := by decide +kernel
theorem dX9_size_9 : decode cX9_size 9 = .ok (.iload_n 0, 1) := by decide +kernel
theorem dX9_size_10 : decode cX9_size 10 = .ok (.ireturn, 1) := by decide +kernel
theorem dX9_second_0 : decode cX9_second 0 = .ok (.iload_n 0, 1) := by decide +kernel
theorem dX9_second_1 : decode cX9_second 1 = .ok (.ifCond .ne 8, 3) := by decide +kernel
theorem dX9_second_4 : decode cX9_second 4 = .ok (.bipush 24, 2) := by decide +kernel
theorem dX9_second_6 : decode cX9_second 6 = .ok (.goto 15, 3) := by decide +kernel
theorem dX9_second_9 : decode cX9_second 9 = .ok (.iload_n 0, 1) := by decide +kernel
theorem dX9_second_10 : decode cX9_second 10 = .ok (.iconst 1, 1) := by decide +kernel
theorem dX9_second_11 : decode cX9_second 11 = .ok (.if_icmp .ne 8, 3) := by decide +kernel
theorem dX9_second_14 : decode cX9_second 14 = .ok (.bipush 25, 2) := by decide +kernel
theorem dX9_second_16 : decode cX9_second 16 = .ok (.goto 5, 3) := by decide +kernel
theorem dX9_second_19 : decode cX9_second 19 = .ok (.bipush 30, 2) := by decide +kernel
theorem dX9_second_21 : decode cX9_second 21 = .ok (.ireturn, 1) := by decide +kernel
theorem dX9_dayOf_0 : decode cX9_dayOf 0 = .ok (.iload_n 0, 1) := by decide +kernel
theorem dX9_dayOf_1 : decode cX9_dayOf 1 = .ok (.iconst 3, 1) := by decide +kernel
theorem dX9_dayOf_2 : decode cX9_dayOf 2 = .ok (.if_icmp .ne 8, 3) := by decide +kernel
theorem dX9_dayOf_5 : decode cX9_dayOf 5 = .ok (.ldc 33, 2) := by decide +kernel
theorem dX9_dayOf_7 : decode cX9_dayOf 7 = .ok (.goto 10, 3) := by decide +kernel
theorem dX9_dayOf_10 : decode cX9_dayOf 10 = .ok (.ldc 34, 2) := by decide +kernel
theorem dX9_dayOf_12 : decode cX9_dayOf 12 = .ok (.iload_n 0, 1) := by decide +kernel
theorem dX9_dayOf_13 : decode cX9_dayOf 13 = .ok (.invokestatic 35, 3) := by decide +kernel
theorem dX9_dayOf_16 : decode cX9_dayOf 16 = .ok (.imul, 1) := by decide +kernel
theorem dX9_dayOf_17 : decode cX9_dayOf 17 = .ok (.ireturn, 1) := by decide +kernel
theorem dX9_day_0 : decode cX9_day 0 = .ok (.aload_n 0, 1) := by decide +kernel
theorem dX9_day_1 : decode cX9_day 1 = .ok (.getfield 7, 3) := by decide +kernel
theorem dX9_day_4 : decode cX9_day 4 = .ok (.iconst 0, 1) := by decide +kernel
theorem dX9_day_5 : decode cX9_day 5 = .ok (.iaload, 1) := by decide +kernel
theorem dX9_day_6 : decode cX9_day 6 = .ok (.invokestatic 39, 3) := by decide +kernel
theorem dX9_day_9 : decode cX9_day 9 = .ok (.ireturn, 1) := by decide +kernel
theorem dX9_around_0 : decode cX9_around 0 = .ok (.iload_n 1, 1) := by decide +kernel
theorem dX9_around_1 : decode cX9_around 1 = .ok (.aload_n 0, 1) := by decide +kernel
theorem dX9_around_2 : decode cX9_around 2 = .ok (.invokevirtual 42, 3) := by decide +kernel
theorem dX9_around_5 : decode cX9_around 5 = .ok (.irem, 1) := by decide +kernel
theorem dX9_around_6 : decode cX9_around 6 = .ok (.istore_n 2, 1) := by decide +kernel
theorem dX9_around_7 : decode cX9_around 7 = .ok (.iload_n 2, 1) := by decide +kernel
theorem dX9_around_8 : decode cX9_around 8 = .ok (.ifCond .ge 12, 3) := by decide +kernel
theorem dX9_around_11 : decode cX9_around 11 = .ok (.iload_n 2, 1) := by decide +kernel
theorem dX9_around_12 : decode cX9_around 12 = .ok (.aload_n 0, 1) := by decide +kernel
theorem dX9_around_13 : decode cX9_around 13 = .ok (.invokevirtual 42, 3) := by decide +kernel
theorem dX9_around_16 : decode cX9_around 16 = .ok (.iadd, 1) := by decide +kernel
theorem dX9_around_17 : decode cX9_around 17 = .ok (.goto 4, 3) := by decide +kernel
theorem dX9_around_20 : decode cX9_around 20 = .ok (.iload_n 2, 1) := by decide +kernel
theorem dX9_around_21 : decode cX9_around 21 = .ok (.ireturn, 1) := by decide +kernel
theorem dX9_isFrame_0 : decode cX9_isFrame 0 = .ok (.iload_n 1, 1) := by decide +kernel
theorem dX9_isFrame_1 : decode cX9_isFrame 1 = .ok (.iconst 0, 1) := by decide +kernel
theorem dX9_isFrame_2 : decode cX9_isFrame 2 = .ok (.aload_n 0, 1) := by decide +kernel
theorem dX9_isFrame_3 : decode cX9_isFrame 3 = .ok (.invokevirtual 42, 3) := by decide +kernel
theorem dX9_isFrame_6 : decode cX9_isFrame 6 = .ok (.iconst 1, 1) := by decide +kernel
theorem dX9_isFrame_7 : decode cX9_isFrame 7 = .ok (.isub, 1) := by decide +kernel
theorem dX9_isFrame_8 : decode cX9_isFrame 8 = .ok (.invokestatic 46, 3) := by decide +kernel
theorem dX9_isFrame_11 : decode cX9_isFrame 11 = .ok (.ireturn, 1) := by decide +kernel
theorem dX9_rank_0 : decode cX9_rank 0 = .ok (.iload_n 0, 1) := by decide +kernel
theorem dX9_rank_1 : decode cX9_rank 1 = .ok (.iconst 3, 1) := by decide +kernel
theorem dX9_rank_2 : decode cX9_rank 2 = .ok (.if_icmp .ge 5, 3) := by decide +kernel
theorem dX9_rank_5 : decode cX9_rank 5 = .ok (.iload_n 1, 1) := by decide +kernel
theorem dX9_rank_6 : decode cX9_rank 6 = .ok (.ireturn, 1) := by decide +kernel
theorem dX9_rank_7 : decode cX9_rank 7 = .ok (.iload_n 1, 1) := by decide +kernel
theorem dX9_rank_8 : decode cX9_rank 8 = .ok (.sipush 17982, 3) := by decide +kernel
theorem dX9_rank_11 : decode cX9_rank 11 = .ok (.idiv, 1) := by decide +kernel
theorem dX9_rank_12 : decode cX9_rank 12 = .ok (.istore_n 2, 1) := by decide +kernel
theorem dX9_rank_13 : decode cX9_rank 13 = .ok (.iload_n 1, 1) := by decide +kernel
theorem dX9_rank_14 : decode cX9_rank 14 = .ok (.sipush 17982, 3) := by decide +kernel
theorem dX9_rank_17 : decode cX9_rank 17 = .ok (.irem, 1) := by decide +kernel
theorem dX9_rank_18 : decode cX9_rank 18 = .ok (.istore_n 3, 1) := by decide +kernel
theorem dX9_rank_19 : decode cX9_rank 19 = .ok (.iload_n 1, 1) := by decide +kernel
theorem dX9_rank_20 : decode cX9_rank 20 = .ok (.bipush 18, 2) := by decide +kernel
theorem dX9_rank_22 : decode cX9_rank 22 = .ok (.iload_n 2, 1) := by decide +kernel
theorem dX9_rank_23 : decode cX9_rank 23 = .ok (.imul, 1) := by decide +kernel
theorem dX9_rank_24 : decode cX9_rank 24 = .ok (.iadd, 1) := by decide +kernel
theorem dX9_rank_25 : decode cX9_rank 25 = .ok (.iload_n 3, 1) := by decide +kernel
theorem dX9_rank_26 : decode cX9_rank 26 = .ok (.sipush 1800, 3) := by decide +kernel
theorem dX9_rank_29 : decode cX9_rank 29 = .ok (.if_icmp .ge 7, 3) := by decide +kernel
theorem dX9_rank_32 : decode cX9_rank 32 = .ok (.iconst 0, 1) := by decide +kernel
theorem dX9_rank_33 : decode cX9_rank 33 = .ok (.goto 16, 3) := by decide +kernel
theorem dX9_rank_36 : decode cX9_rank 36 = .ok (.iconst 2, 1) := by decide +kernel
theorem dX9_rank_37 : decode cX9_rank 37 = .ok (.iconst 1, 1) := by decide +kernel
theorem dX9_rank_38 : decode cX9_rank 38 = .ok (.iload_n 3, 1) := by decide +kernel
theorem dX9_rank_39 : decode cX9_rank 39 = .ok (.sipush 1800, 3) := by decide +kernel
theorem dX9_rank_42 : decode cX9_rank 42 = .ok (.isub, 1) := by decide +kernel
theorem dX9_rank_43 : decode cX9_rank 43 = .ok (.sipush 1798, 3) := by decide +kernel
theorem dX9_rank_46 : decode cX9_rank 46 = .ok (.idiv, 1) := by decide +kernel
theorem dX9_rank_47 : decode cX9_rank 47 = .ok (.iadd, 1) := by decide +kernel
theorem dX9_rank_48 : decode cX9_rank 48 = .ok (.imul, 1) := by decide +kernel
theorem dX9_rank_49 : decode cX9_rank 49 = .ok (.iadd, 1) := by decide +kernel
theorem dX9_rank_50 : decode cX9_rank 50 = .ok (.ireturn, 1) := by decide +kernel
theorem dX9_numberOf_0 : decode cX9_numberOf 0 = .ok (.iload_n 0, 1) := by decide +kernel
theorem dX9_numberOf_1 : decode cX9_numberOf 1 = .ok (.iload_n 1, 1) := by decide +kernel
theorem dX9_numberOf_2 : decode cX9_numberOf 2 = .ok (.invokestatic 50, 3) := by decide +kernel
theorem dX9_numberOf_5 : decode cX9_numberOf 5 = .ok (.istore_n 2, 1) := by decide +kernel
theorem dX9_numberOf_6 : decode cX9_numberOf 6 = .ok (.iload_n 0, 1) := by decide +kernel
theorem dX9_numberOf_7 : decode cX9_numberOf 7 = .ok (.invokestatic 35, 3) := by decide +kernel
theorem dX9_numberOf_10 : decode cX9_numberOf 10 = .ok (.istore_n 3, 1) := by decide +kernel
theorem dX9_numberOf_11 : decode cX9_numberOf 11 = .ok (.iload_n 2, 1) := by decide +kernel
theorem dX9_numberOf_12 : decode cX9_numberOf 12 = .ok (.iload_n 3, 1) := by decide +kernel
theorem dX9_numberOf_13 : decode cX9_numberOf 13 = .ok (.idiv, 1) := by decide +kernel
theorem dX9_numberOf_14 : decode cX9_numberOf 14 = .ok (.istore 4, 2) := by decide +kernel
theorem dX9_numberOf_16 : decode cX9_numberOf 16 = .ok (.iload 4, 2) := by decide +kernel
theorem dX9_numberOf_18 : decode cX9_numberOf 18 = .ok (.sipush 3600, 3) := by decide +kernel
theorem dX9_numberOf_21 : decode cX9_numberOf 21 = .ok (.idiv, 1) := by decide +kernel
theorem dX9_numberOf_22 : decode cX9_numberOf 22 = .ok (.ldc 54, 2) := by decide +kernel
theorem dX9_numberOf_24 : decode cX9_numberOf 24 = .ok (.imul, 1) := by decide +kernel
theorem dX9_numberOf_25 : decode cX9_numberOf 25 = .ok (.iload 4, 2) := by decide +kernel
theorem dX9_numberOf_27 : decode cX9_numberOf 27 = .ok (.bipush 60, 2) := by decide +kernel
theorem dX9_numberOf_29 : decode cX9_numberOf 29 = .ok (.idiv, 1) := by decide +kernel
theorem dX9_numberOf_30 : decode cX9_numberOf 30 = .ok (.bipush 60, 2) := by decide +kernel
theorem dX9_numberOf_32 : decode cX9_numberOf 32 = .ok (.irem, 1) := by decide +kernel
theorem dX9_numberOf_33 : decode cX9_numberOf 33 = .ok (.sipush 10000, 3) := by decide +kernel
theorem dX9_numberOf_36 : decode cX9_numberOf 36 = .ok (.imul, 1) := by decide +kernel
theorem dX9_numberOf_37 : decode cX9_numberOf 37 = .ok (.iadd, 1) := by decide +kernel
theorem dX9_numberOf_38 : decode cX9_numberOf 38 = .ok (.iload 4, 2) := by decide +kernel
theorem dX9_numberOf_40 : decode cX9_numberOf 40 = .ok (.bipush 60, 2) := by decide +kernel
theorem dX9_numberOf_42 : decode cX9_numberOf 42 = .ok (.irem, 1) := by decide +kernel
theorem dX9_numberOf_43 : decode cX9_numberOf 43 = .ok (.bipush 100, 2) := by decide +kernel
theorem dX9_numberOf_45 : decode cX9_numberOf 45 = .ok (.imul, 1) := by decide +kernel
theorem dX9_numberOf_46 : decode cX9_numberOf 46 = .ok (.iadd, 1) := by decide +kernel
theorem dX9_numberOf_47 : decode cX9_numberOf 47 = .ok (.iload_n 2, 1) := by decide +kernel
theorem dX9_numberOf_48 : decode cX9_numberOf 48 = .ok (.iload_n 3, 1) := by decide +kernel
theorem dX9_numberOf_49 : decode cX9_numberOf 49 = .ok (.irem, 1) := by decide +kernel
theorem dX9_numberOf_50 : decode cX9_numberOf 50 = .ok (.iadd, 1) := by decide +kernel
theorem dX9_numberOf_51 : decode cX9_numberOf 51 = .ok (.ireturn, 1) := by decide +kernel
theorem dX9_frameOf_0 : decode cX9_frameOf 0 = .ok (.iload_n 1, 1) := by decide +kernel
theorem dX9_frameOf_1 : decode cX9_frameOf 1 = .ok (.bipush 100, 2) := by decide +kernel
theorem dX9_frameOf_3 : decode cX9_frameOf 3 = .ok (.irem, 1) := by decide +kernel
theorem dX9_frameOf_4 : decode cX9_frameOf 4 = .ok (.istore_n 2, 1) := by decide +kernel
theorem dX9_frameOf_5 : decode cX9_frameOf 5 = .ok (.iload_n 1, 1) := by decide +kernel
theorem dX9_frameOf_6 : decode cX9_frameOf 6 = .ok (.bipush 100, 2) := by decide +kernel
theorem dX9_frameOf_8 : decode cX9_frameOf 8 = .ok (.idiv, 1) := by decide +kernel
theorem dX9_frameOf_9 : decode cX9_frameOf 9 = .ok (.bipush 100, 2) := by decide +kernel
theorem dX9_frameOf_11 : decode cX9_frameOf 11 = .ok (.irem, 1) := by decide +kernel
theorem dX9_frameOf_12 : decode cX9_frameOf 12 = .ok (.istore_n 3, 1) := by decide +kernel
theorem dX9_frameOf_13 : decode cX9_frameOf 13 = .ok (.iload_n 1, 1) := by decide +kernel
theorem dX9_frameOf_14 : decode cX9_frameOf 14 = .ok (.sipush 10000, 3) := by decide +kernel
theorem dX9_frameOf_17 : decode cX9_frameOf 17 = .ok (.idiv, 1) := by decide +kernel
theorem dX9_frameOf_18 : decode cX9_frameOf 18 = .ok (.bipush 100, 2) := by decide +kernel
theorem dX9_frameOf_20 : decode cX9_frameOf 20 = .ok (.irem, 1) := by decide +kernel
theorem dX9_frameOf_21 : decode cX9_frameOf 21 = .ok (.istore 4, 2) := by decide +kernel
theorem dX9_frameOf_23 : decode cX9_frameOf 23 = .ok (.iload_n 1, 1) := by decide +kernel
theorem dX9_frameOf_24 : decode cX9_frameOf 24 = .ok (.ldc 54, 2) := by decide +kernel
theorem dX9_frameOf_26 : decode cX9_frameOf 26 = .ok (.idiv, 1) := by decide +kernel
theorem dX9_frameOf_27 : decode cX9_frameOf 27 = .ok (.istore 5, 2) := by decide +kernel
theorem dX9_frameOf_29 : decode cX9_frameOf 29 = .ok (.iload_n 2, 1) := by decide +kernel
theorem dX9_frameOf_30 : decode cX9_frameOf 30 = .ok (.iload_n 0, 1) := by decide +kernel
theorem dX9_frameOf_31 : decode cX9_frameOf 31 = .ok (.invokestatic 35, 3) := by decide +kernel
theorem dX9_frameOf_34 : decode cX9_frameOf 34 = .ok (.if_icmp .ge 23, 3) := by decide +kernel
theorem dX9_frameOf_37 : decode cX9_frameOf 37 = .ok (.iload_n 3, 1) := by decide +kernel
theorem dX9_frameOf_38 : decode cX9_frameOf 38 = .ok (.bipush 59, 2) := by decide +kernel
theorem dX9_frameOf_40 : decode cX9_frameOf 40 = .ok (.if_icmp .gt 17, 3) := by decide +kernel
theorem dX9_frameOf_43 : decode cX9_frameOf 43 = .ok (.iload 4, 2) := by decide +kernel
theorem dX9_frameOf_45 : decode cX9_frameOf 45 = .ok (.bipush 59, 2) := by decide +kernel
theorem dX9_frameOf_47 : decode cX9_frameOf 47 = .ok (.if_icmp .gt 10, 3) := by decide +kernel
theorem dX9_frameOf_50 : decode cX9_frameOf 50 = .ok (.iload 5, 2) := by decide +kernel
theorem dX9_frameOf_52 : decode cX9_frameOf 52 = .ok (.bipush 23, 2) := by decide +kernel
theorem dX9_frameOf_54 : decode cX9_frameOf 54 = .ok (.if_icmp .le 6, 3) := by decide +kernel
theorem dX9_frameOf_57 : decode cX9_frameOf 57 = .ok (.bipush (-9), 2) := by decide +kernel
theorem dX9_frameOf_59 : decode cX9_frameOf 59 = .ok (.ireturn, 1) := by decide +kernel
theorem dX9_frameOf_60 : decode cX9_frameOf 60 = .ok (.bipush 60, 2) := by decide +kernel
theorem dX9_frameOf_62 : decode cX9_frameOf 62 = .ok (.iload 5, 2) := by decide +kernel
theorem dX9_frameOf_64 : decode cX9_frameOf 64 = .ok (.imul, 1) := by decide +kernel
theorem dX9_frameOf_65 : decode cX9_frameOf 65 = .ok (.iload 4, 2) := by decide +kernel
theorem dX9_frameOf_67 : decode cX9_frameOf 67 = .ok (.iadd, 1) := by decide +kernel
theorem dX9_frameOf_68 : decode cX9_frameOf 68 = .ok (.istore 6, 2) := by decide +kernel
theorem dX9_frameOf_70 : decode cX9_frameOf 70 = .ok (.bipush 60, 2) := by decide +kernel
theorem dX9_frameOf_72 : decode cX9_frameOf 72 = .ok (.iload 6, 2) := by decide +kernel
theorem dX9_frameOf_74 : decode cX9_frameOf 74 = .ok (.imul, 1) := by decide +kernel
theorem dX9_frameOf_75 : decode cX9_frameOf 75 = .ok (.iload_n 3, 1) := by decide +kernel
theorem dX9_frameOf_76 : decode cX9_frameOf 76 = .ok (.iadd, 1) := by decide +kernel
theorem dX9_frameOf_77 : decode cX9_frameOf 77 = .ok (.iload_n 0, 1) := by decide +kernel
theorem dX9_frameOf_78 : decode cX9_frameOf 78 = .ok (.invokestatic 35, 3) := by decide +kernel
theorem dX9_frameOf_81 : decode cX9_frameOf 81 = .ok (.imul, 1) := by decide +kernel
theorem dX9_frameOf_82 : decode cX9_frameOf 82 = .ok (.iload_n 2, 1) := by decide +kernel
theorem dX9_frameOf_83 : decode cX9_frameOf 83 = .ok (.iadd, 1) := by decide +kernel
theorem dX9_frameOf_84 : decode cX9_frameOf 84 = .ok (.istore 7, 2) := by decide +kernel
theorem dX9_frameOf_86 : decode cX9_frameOf 86 = .ok (.iload_n 0, 1) := by decide +kernel
theorem dX9_frameOf_87 : decode cX9_frameOf 87 = .ok (.iconst 3, 1) := by decide +kernel
theorem dX9_frameOf_88 : decode cX9_frameOf 88 = .ok (.if_icmp .ge 6, 3) := by decide +kernel
theorem dX9_frameOf_91 : decode cX9_frameOf 91 = .ok (.iload 7, 2) := by decide +kernel
theorem dX9_frameOf_93 : decode cX9_frameOf 93 = .ok (.ireturn, 1) := by decide +kernel
theorem dX9_frameOf_94 : decode cX9_frameOf 94 = .ok (.iload 4, 2) := by decide +kernel
theorem dX9_frameOf_96 : decode cX9_frameOf 96 = .ok (.bipush 10, 2) := by decide +kernel
theorem dX9_frameOf_98 : decode cX9_frameOf 98 = .ok (.irem, 1) := by decide +kernel
theorem dX9_frameOf_99 : decode cX9_frameOf 99 = .ok (.ifCond .le 17, 3) := by decide +kernel
theorem dX9_frameOf_102 : decode cX9_frameOf 102 = .ok (.iload_n 3, 1) := by decide +kernel
theorem dX9_frameOf_103 : decode cX9_frameOf 103 = .ok (.ifCond .ne 13, 3) := by decide +kernel
theorem dX9_frameOf_106 : decode cX9_frameOf 106 = .ok (.iload_n 2, 1) := by decide +kernel
theorem dX9_frameOf_107 : decode cX9_frameOf 107 = .ok (.iconst 2, 1) := by decide +kernel
theorem dX9_frameOf_108 : decode cX9_frameOf 108 = .ok (.if_icmp .ge 8, 3) := by decide +kernel
theorem dX9_frameOf_111 : decode cX9_frameOf 111 = .ok (.bipush (-9), 2) := by decide +kernel
theorem dX9_frameOf_113 : decode cX9_frameOf 113 = .ok (.goto 16, 3) := by decide +kernel
theorem dX9_frameOf_116 : decode cX9_frameOf 116 = .ok (.iload 7, 2) := by decide +kernel
theorem dX9_frameOf_118 : decode cX9_frameOf 118 = .ok (.iconst 2, 1) := by decide +kernel
theorem dX9_frameOf_119 : decode cX9_frameOf 119 = .ok (.iload 6, 2) := by decide +kernel
theorem dX9_frameOf_121 : decode cX9_frameOf 121 = .ok (.iload 6, 2) := by decide +kernel
theorem dX9_frameOf_123 : decode cX9_frameOf 123 = .ok (.bipush 10, 2) := by decide +kernel
theorem dX9_frameOf_125 : decode cX9_frameOf 125 = .ok (.idiv, 1) := by decide +kernel
theorem dX9_frameOf_126 : decode cX9_frameOf 126 = .ok (.isub, 1) := by decide +kernel
theorem dX9_frameOf_127 : decode cX9_frameOf 127 = .ok (.imul, 1) := by decide +kernel
theorem dX9_frameOf_128 : decode cX9_frameOf 128 = .ok (.isub, 1) := by decide +kernel
theorem dX9_frameOf_129 : decode cX9_frameOf 129 = .ok (.ireturn, 1) := by decide +kernel
theorem dX9_number_0 : decode cX9_number 0 = .ok (.aload_n 0, 1) := by decide +kernel
theorem dX9_number_1 : decode cX9_number 1 = .ok (.iconst 0, 1) := by decide +kernel
theorem dX9_number_2 : decode cX9_number 2 = .ok (.putfield 29, 3) := by decide +kernel
theorem dX9_number_5 : decode cX9_number 5 = .ok (.aload_n 0, 1) := by decide +kernel
theorem dX9_number_6 : decode cX9_number 6 = .ok (.iload_n 1, 1) := by decide +kernel
theorem dX9_number_7 : decode cX9_number 7 = .ok (.invokevirtual 55, 3) := by decide +kernel
theorem dX9_number_10 : decode cX9_number 10 = .ok (.ifCond .eq 16, 3) := by decide +kernel
theorem dX9_number_13 : decode cX9_number 13 = .ok (.aload_n 0, 1) := by decide +kernel
theorem dX9_number_14 : decode cX9_number 14 = .ok (.getfield 7, 3) := by decide +kernel
theorem dX9_number_17 : decode cX9_number 17 = .ok (.iconst 0, 1) := by decide +kernel
theorem dX9_number_18 : decode cX9_number 18 = .ok (.iaload, 1) := by decide +kernel
theorem dX9_number_19 : decode cX9_number 19 = .ok (.iload_n 1, 1) := by decide +kernel
theorem dX9_number_20 : decode cX9_number 20 = .ok (.invokestatic 59, 3) := by decide +kernel
theorem dX9_number_23 : decode cX9_number 23 = .ok (.goto 4, 3) := by decide +kernel
theorem dX9_number_26 : decode cX9_number 26 = .ok (.iconst (-1), 1) := by decide +kernel
theorem dX9_number_27 : decode cX9_number 27 = .ok (.ireturn, 1) := by decide +kernel
theorem dX9_frame_0 : decode cX9_frame 0 = .ok (.aload_n 0, 1) := by decide +kernel
theorem dX9_frame_1 : decode cX9_frame 1 = .ok (.iconst 0, 1) := by decide +kernel
theorem dX9_frame_2 : decode cX9_frame 2 = .ok (.putfield 29, 3) := by decide +kernel
theorem dX9_frame_5 : decode cX9_frame 5 = .ok (.iload_n 1, 1) := by decide +kernel
theorem dX9_frame_6 : decode cX9_frame 6 = .ok (.iconst 0, 1) := by decide +kernel
theorem dX9_frame_7 : decode cX9_frame 7 = .ok (.ldc 62, 2) := by decide +kernel
theorem dX9_frame_9 : decode cX9_frame 9 = .ok (.invokestatic 46, 3) := by decide +kernel
theorem dX9_frame_12 : decode cX9_frame 12 = .ok (.ifCond .eq 16, 3) := by decide +kernel
theorem dX9_frame_15 : decode cX9_frame 15 = .ok (.aload_n 0, 1) := by decide +kernel
theorem dX9_frame_16 : decode cX9_frame 16 = .ok (.getfield 7, 3) := by decide +kernel
theorem dX9_frame_19 : decode cX9_frame 19 = .ok (.iconst 0, 1) := by decide +kernel
theorem dX9_frame_20 : decode cX9_frame 20 = .ok (.iaload, 1) := by decide +kernel
theorem dX9_frame_21 : decode cX9_frame 21 = .ok (.iload_n 1, 1) := by decide +kernel
theorem dX9_frame_22 : decode cX9_frame 22 = .ok (.invokestatic 63, 3) := by decide +kernel
theorem dX9_frame_25 : decode cX9_frame 25 = .ok (.goto 4, 3) := by decide +kernel
theorem dX9_frame_28 : decode cX9_frame 28 = .ok (.iconst (-1), 1) := by decide +kernel
theorem dX9_frame_29 : decode cX9_frame 29 = .ok (.ireturn, 1) := by decide +kernel
theorem dX9_dropped_0 : decode cX9_dropped 0 = .ok (.aload_n 0, 1) := by decide +kernel
theorem dX9_dropped_1 : decode cX9_dropped 1 = .ok (.iconst 0, 1) := by decide +kernel
theorem dX9_dropped_2 : decode cX9_dropped 2 = .ok (.putfield 29, 3) := by decide +kernel
theorem dX9_dropped_5 : decode cX9_dropped 5 = .ok (.aload_n 0, 1) := by decide +kernel
theorem dX9_dropped_6 : decode cX9_dropped 6 = .ok (.iload_n 1, 1) := by decide +kernel
theorem dX9_dropped_7 : decode cX9_dropped 7 = .ok (.invokevirtual 55, 3) := by decide +kernel
theorem dX9_dropped_10 : decode cX9_dropped 10 = .ok (.ifCond .eq 11, 3) := by decide +kernel
theorem dX9_dropped_13 : decode cX9_dropped 13 = .ok (.aload_n 0, 1) := by decide +kernel
theorem dX9_dropped_14 : decode cX9_dropped 14 = .ok (.iload_n 2, 1) := by decide +kernel
theorem dX9_dropped_15 : decode cX9_dropped 15 = .ok (.invokevirtual 55, 3) := by decide +kernel
theorem dX9_dropped_18 : decode cX9_dropped 18 = .ok (.ifCond .ne 5, 3) := by decide +kernel
theorem dX9_dropped_21 : decode cX9_dropped 21 = .ok (.iconst (-1), 1) := by decide +kernel
theorem dX9_dropped_22 : decode cX9_dropped 22 = .ok (.ireturn, 1) := by decide +kernel
theorem dX9_dropped_23 : decode cX9_dropped 23 = .ok (.aload_n 0, 1) := by decide +kernel
theorem dX9_dropped_24 : decode cX9_dropped 24 = .ok (.getfield 7, 3) := by decide +kernel
theorem dX9_dropped_27 : decode cX9_dropped 27 = .ok (.iconst 0, 1) := by decide +kernel
theorem dX9_dropped_28 : decode cX9_dropped 28 = .ok (.iaload, 1) := by decide +kernel
theorem dX9_dropped_29 : decode cX9_dropped 29 = .ok (.iload_n 2, 1) := by decide +kernel
theorem dX9_dropped_30 : decode cX9_dropped 30 = .ok (.invokestatic 50, 3) := by decide +kernel
theorem dX9_dropped_33 : decode cX9_dropped 33 = .ok (.iload_n 2, 1) := by decide +kernel
theorem dX9_dropped_34 : decode cX9_dropped 34 = .ok (.isub, 1) := by decide +kernel
theorem dX9_dropped_35 : decode cX9_dropped 35 = .ok (.aload_n 0, 1) := by decide +kernel
theorem dX9_dropped_36 : decode cX9_dropped 36 = .ok (.getfield 7, 3) := by decide +kernel
theorem dX9_dropped_39 : decode cX9_dropped 39 = .ok (.iconst 0, 1) := by decide +kernel
theorem dX9_dropped_40 : decode cX9_dropped 40 = .ok (.iaload, 1) := by decide +kernel
theorem dX9_dropped_41 : decode cX9_dropped 41 = .ok (.iload_n 1, 1) := by decide +kernel
theorem dX9_dropped_42 : decode cX9_dropped 42 = .ok (.invokestatic 50, 3) := by decide +kernel
theorem dX9_dropped_45 : decode cX9_dropped 45 = .ok (.iload_n 1, 1) := by decide +kernel
theorem dX9_dropped_46 : decode cX9_dropped 46 = .ok (.isub, 1) := by decide +kernel
theorem dX9_dropped_47 : decode cX9_dropped 47 = .ok (.isub, 1) := by decide +kernel
theorem dX9_dropped_48 : decode cX9_dropped 48 = .ok (.istore_n 3, 1) := by decide +kernel
theorem dX9_dropped_49 : decode cX9_dropped 49 = .ok (.iload_n 2, 1) := by decide +kernel
theorem dX9_dropped_50 : decode cX9_dropped 50 = .ok (.iload_n 1, 1) := by decide +kernel
theorem dX9_dropped_51 : decode cX9_dropped 51 = .ok (.if_icmp .ge 21, 3) := by decide +kernel
theorem dX9_dropped_54 : decode cX9_dropped 54 = .ok (.aload_n 0, 1) := by decide +kernel
theorem dX9_dropped_55 : decode cX9_dropped 55 = .ok (.getfield 7, 3) := by decide +kernel
theorem dX9_dropped_58 : decode cX9_dropped 58 = .ok (.iconst 0, 1) := by decide +kernel
theorem dX9_dropped_59 : decode cX9_dropped 59 = .ok (.iaload, 1) := by decide +kernel
theorem dX9_dropped_60 : decode cX9_dropped 60 = .ok (.iconst 3, 1) := by decide +kernel
theorem dX9_dropped_61 : decode cX9_dropped 61 = .ok (.if_icmp .ne 11, 3) := by decide +kernel
theorem dX9_dropped_64 : decode cX9_dropped 64 = .ok (.iload_n 3, 1) := by decide +kernel
theorem dX9_dropped_65 : decode cX9_dropped 65 = .ok (.sipush 2592, 3) := by decide +kernel
theorem dX9_dropped_68 : decode cX9_dropped 68 = .ok (.iadd, 1) := by decide +kernel
theorem dX9_dropped_69 : decode cX9_dropped 69 = .ok (.goto 4, 3) := by decide +kernel
theorem dX9_dropped_72 : decode cX9_dropped 72 = .ok (.iload_n 3, 1) := by decide +kernel
theorem dX9_dropped_73 : decode cX9_dropped 73 = .ok (.ireturn, 1) := by decide +kernel
theorem dX9_notes_0 : decode cX9_notes 0 = .ok (.aload_n 0, 1) := by decide +kernel
theorem dX9_notes_1 : decode cX9_notes 1 = .ok (.getfield 66, 3) := by decide +kernel
theorem dX9_notes_4 : decode cX9_notes 4 = .ok (.bipush 8, 2) := by decide +kernel
theorem dX9_notes_6 : decode cX9_notes 6 = .ok (.if_icmp .ne 43, 3) := by decide +kernel
theorem dX9_notes_9 : decode cX9_notes 9 = .ok (.iconst 0, 1) := by decide +kernel
theorem dX9_notes_10 : decode cX9_notes 10 = .ok (.istore_n 1, 1) := by decide +kernel
theorem dX9_notes_11 : decode cX9_notes 11 = .ok (.iload_n 1, 1) := by decide +kernel
theorem dX9_notes_12 : decode cX9_notes 12 = .ok (.sipush 665, 3) := by decide +kernel
theorem dX9_notes_15 : decode cX9_notes 15 = .ok (.if_icmp .ge 24, 3) := by decide +kernel
theorem dX9_notes_18 : decode cX9_notes 18 = .ok (.aload_n 0, 1) := by decide +kernel
theorem dX9_notes_19 : decode cX9_notes 19 = .ok (.getfield 13, 3) := by decide +kernel
theorem dX9_notes_22 : decode cX9_notes 22 = .ok (.iload_n 1, 1) := by decide +kernel
theorem dX9_notes_23 : decode cX9_notes 23 = .ok (.aload_n 0, 1) := by decide +kernel
theorem dX9_notes_24 : decode cX9_notes 24 = .ok (.getfield 13, 3) := by decide +kernel
theorem dX9_notes_27 : decode cX9_notes 27 = .ok (.iload_n 1, 1) := by decide +kernel
theorem dX9_notes_28 : decode cX9_notes 28 = .ok (.bipush 95, 2) := by decide +kernel
theorem dX9_notes_30 : decode cX9_notes 30 = .ok (.iadd, 1) := by decide +kernel
theorem dX9_notes_31 : decode cX9_notes 31 = .ok (.iaload, 1) := by decide +kernel
theorem dX9_notes_32 : decode cX9_notes 32 = .ok (.iastore, 1) := by decide +kernel
theorem dX9_notes_33 : decode cX9_notes 33 = .ok (.iinc 1 1, 3) := by decide +kernel
theorem dX9_notes_36 : decode cX9_notes 36 = .ok (.goto (-25), 3) := by decide +kernel
theorem dX9_notes_39 : decode cX9_notes 39 = .ok (.aload_n 0, 1) := by decide +kernel
theorem dX9_notes_40 : decode cX9_notes 40 = .ok (.dup, 1) := by decide +kernel
theorem dX9_notes_41 : decode cX9_notes 41 = .ok (.getfield 66, 3) := by decide +kernel
theorem dX9_notes_44 : decode cX9_notes 44 = .ok (.iconst 1, 1) := by decide +kernel
theorem dX9_notes_45 : decode cX9_notes 45 = .ok (.isub, 1) := by decide +kernel
theorem dX9_notes_46 : decode cX9_notes 46 = .ok (.putfield 66, 3) := by decide +kernel
theorem dX9_notes_49 : decode cX9_notes 49 = .ok (.iconst 0, 1) := by decide +kernel
theorem dX9_notes_50 : decode cX9_notes 50 = .ok (.istore_n 1, 1) := by decide +kernel
theorem dX9_notes_51 : decode cX9_notes 51 = .ok (.iload_n 1, 1) := by decide +kernel
theorem dX9_notes_52 : decode cX9_notes 52 = .ok (.bipush 95, 2) := by decide +kernel
theorem dX9_notes_54 : decode cX9_notes 54 = .ok (.if_icmp .ge 29, 3) := by decide +kernel
theorem dX9_notes_57 : decode cX9_notes 57 = .ok (.aload_n 0, 1) := by decide +kernel
theorem dX9_notes_58 : decode cX9_notes 58 = .ok (.getfield 13, 3) := by decide +kernel
theorem dX9_notes_61 : decode cX9_notes 61 = .ok (.bipush 95, 2) := by decide +kernel
theorem dX9_notes_63 : decode cX9_notes 63 = .ok (.aload_n 0, 1) := by decide +kernel
theorem dX9_notes_64 : decode cX9_notes 64 = .ok (.getfield 66, 3) := by decide +kernel
theorem dX9_notes_67 : decode cX9_notes 67 = .ok (.imul, 1) := by decide +kernel
theorem dX9_notes_68 : decode cX9_notes 68 = .ok (.iload_n 1, 1) := by decide +kernel
theorem dX9_notes_69 : decode cX9_notes 69 = .ok (.iadd, 1) := by decide +kernel
theorem dX9_notes_70 : decode cX9_notes 70 = .ok (.aload_n 0, 1) := by decide +kernel
theorem dX9_notes_71 : decode cX9_notes 71 = .ok (.getfield 7, 3) := by decide +kernel
theorem dX9_notes_74 : decode cX9_notes 74 = .ok (.iload_n 1, 1) := by decide +kernel
theorem dX9_notes_75 : decode cX9_notes 75 = .ok (.iaload, 1) := by decide +kernel
theorem dX9_notes_76 : decode cX9_notes 76 = .ok (.iastore, 1) := by decide +kernel
theorem dX9_notes_77 : decode cX9_notes 77 = .ok (.iinc 1 1, 3) := by decide +kernel
theorem dX9_notes_80 : decode cX9_notes 80 = .ok (.goto (-29), 3) := by decide +kernel
theorem dX9_notes_83 : decode cX9_notes 83 = .ok (.aload_n 0, 1) := by decide +kernel
theorem dX9_notes_84 : decode cX9_notes 84 = .ok (.dup, 1) := by decide +kernel
theorem dX9_notes_85 : decode cX9_notes 85 = .ok (.getfield 66, 3) := by decide +kernel
theorem dX9_notes_88 : decode cX9_notes 88 = .ok (.iconst 1, 1) := by decide +kernel
theorem dX9_notes_89 : decode cX9_notes 89 = .ok (.iadd, 1) := by decide +kernel
theorem dX9_notes_90 : decode cX9_notes 90 = .ok (.putfield 66, 3) := by decide +kernel
theorem dX9_notes_93 : decode cX9_notes 93 = .ok (.return_, 1) := by decide +kernel
theorem dX9_rates_0 : decode cX9_rates 0 = .ok (.aload_n 0, 1) := by decide +kernel
theorem dX9_rates_1 : decode cX9_rates 1 = .ok (.iconst 0, 1) := by decide +kernel
theorem dX9_rates_2 : decode cX9_rates 2 = .ok (.putfield 29, 3) := by decide +kernel
theorem dX9_rates_5 : decode cX9_rates 5 = .ok (.iload_n 1, 1) := by decide +kernel
theorem dX9_rates_6 : decode cX9_rates 6 = .ok (.iconst 0, 1) := by decide +kernel
theorem dX9_rates_7 : decode cX9_rates 7 = .ok (.iconst 3, 1) := by decide +kernel
theorem dX9_rates_8 : decode cX9_rates 8 = .ok (.invokestatic 46, 3) := by decide +kernel
theorem dX9_rates_11 : decode cX9_rates 11 = .ok (.ifCond .ne 5, 3) := by decide +kernel
theorem dX9_rates_14 : decode cX9_rates 14 = .ok (.iconst (-1), 1) := by decide +kernel
theorem dX9_rates_15 : decode cX9_rates 15 = .ok (.ireturn, 1) := by decide +kernel
theorem dX9_rates_16 : decode cX9_rates 16 = .ok (.aload_n 0, 1) := by decide +kernel
theorem dX9_rates_17 : decode cX9_rates 17 = .ok (.getfield 7, 3) := by decide +kernel
theorem dX9_rates_20 : decode cX9_rates 20 = .ok (.iconst 0, 1) := by decide +kernel
theorem dX9_rates_21 : decode cX9_rates 21 = .ok (.iaload, 1) := by decide +kernel
theorem dX9_rates_22 : decode cX9_rates 22 = .ok (.istore_n 2, 1) := by decide +kernel
theorem dX9_rates_23 : decode cX9_rates 23 = .ok (.iload_n 2, 1) := by decide +kernel
theorem dX9_rates_24 : decode cX9_rates 24 = .ok (.iload_n 1, 1) := by decide +kernel
theorem dX9_rates_25 : decode cX9_rates 25 = .ok (.if_icmp .ne 6, 3) := by decide +kernel
theorem dX9_rates_28 : decode cX9_rates 28 = .ok (.bipush (-2), 2) := by decide +kernel
theorem dX9_rates_30 : decode cX9_rates 30 = .ok (.ireturn, 1) := by decide +kernel
theorem dX9_rates_31 : decode cX9_rates 31 = .ok (.aload_n 0, 1) := by decide +kernel
theorem dX9_rates_32 : decode cX9_rates 32 = .ok (.invokevirtual 69, 3) := by decide +kernel
theorem dX9_rates_35 : decode cX9_rates 35 = .ok (.aload_n 0, 1) := by decide +kernel
theorem dX9_rates_36 : decode cX9_rates 36 = .ok (.getfield 7, 3) := by decide +kernel
theorem dX9_rates_39 : decode cX9_rates 39 = .ok (.iconst 0, 1) := by decide +kernel
theorem dX9_rates_40 : decode cX9_rates 40 = .ok (.iload_n 1, 1) := by decide +kernel
theorem dX9_rates_41 : decode cX9_rates 41 = .ok (.iastore, 1) := by decide +kernel
theorem dX9_rates_42 : decode cX9_rates 42 = .ok (.iconst 0, 1) := by decide +kernel
theorem dX9_rates_43 : decode cX9_rates 43 = .ok (.istore_n 3, 1) := by decide +kernel
theorem dX9_rates_44 : decode cX9_rates 44 = .ok (.iload_n 3, 1) := by decide +kernel
theorem dX9_rates_45 : decode cX9_rates 45 = .ok (.aload_n 0, 1) := by decide +kernel
theorem dX9_rates_46 : decode cX9_rates 46 = .ok (.getfield 7, 3) := by decide +kernel
theorem dX9_rates_49 : decode cX9_rates 49 = .ok (.iconst 1, 1) := by decide +kernel
theorem dX9_rates_50 : decode cX9_rates 50 = .ok (.iaload, 1) := by decide +kernel
theorem dX9_rates_51 : decode cX9_rates 51 = .ok (.if_icmp .ge 33, 3) := by decide +kernel
theorem dX9_rates_54 : decode cX9_rates 54 = .ok (.aload_n 0, 1) := by decide +kernel
theorem dX9_rates_55 : decode cX9_rates 55 = .ok (.getfield 7, 3) := by decide +kernel
theorem dX9_rates_58 : decode cX9_rates 58 = .ok (.iconst 2, 1) := by decide +kernel
theorem dX9_rates_59 : decode cX9_rates 59 = .ok (.iconst 3, 1) := by decide +kernel
theorem dX9_rates_60 : decode cX9_rates 60 = .ok (.iload_n 3, 1) := by decide +kernel
theorem dX9_rates_61 : decode cX9_rates 61 = .ok (.imul, 1) := by decide +kernel
theorem dX9_rates_62 : decode cX9_rates 62 = .ok (.iadd, 1) := by decide +kernel
theorem dX9_rates_63 : decode cX9_rates 63 = .ok (.aload_n 0, 1) := by decide +kernel
theorem dX9_rates_64 : decode cX9_rates 64 = .ok (.aload_n 0, 1) := by decide +kernel
theorem dX9_rates_65 : decode cX9_rates 65 = .ok (.getfield 7, 3) := by decide +kernel
theorem dX9_rates_68 : decode cX9_rates 68 = .ok (.iconst 2, 1) := by decide +kernel
theorem dX9_rates_69 : decode cX9_rates 69 = .ok (.iconst 3, 1) := by decide +kernel
theorem dX9_rates_70 : decode cX9_rates 70 = .ok (.iload_n 3, 1) := by decide +kernel
theorem dX9_rates_71 : decode cX9_rates 71 = .ok (.imul, 1) := by decide +kernel
theorem dX9_rates_72 : decode cX9_rates 72 = .ok (.iadd, 1) := by decide +kernel
theorem dX9_rates_73 : decode cX9_rates 73 = .ok (.iaload, 1) := by decide +kernel
theorem dX9_rates_74 : decode cX9_rates 74 = .ok (.invokevirtual 72, 3) := by decide +kernel
theorem dX9_rates_77 : decode cX9_rates 77 = .ok (.iastore, 1) := by decide +kernel
theorem dX9_rates_78 : decode cX9_rates 78 = .ok (.iinc 3 1, 3) := by decide +kernel
theorem dX9_rates_81 : decode cX9_rates 81 = .ok (.goto (-37), 3) := by decide +kernel
theorem dX9_rates_84 : decode cX9_rates 84 = .ok (.aload_n 0, 1) := by decide +kernel
theorem dX9_rates_85 : decode cX9_rates 85 = .ok (.getfield 7, 3) := by decide +kernel
theorem dX9_rates_88 : decode cX9_rates 88 = .ok (.bipush 34, 2) := by decide +kernel
theorem dX9_rates_90 : decode cX9_rates 90 = .ok (.aload_n 0, 1) := by decide +kernel
theorem dX9_rates_91 : decode cX9_rates 91 = .ok (.aload_n 0, 1) := by decide +kernel
theorem dX9_rates_92 : decode cX9_rates 92 = .ok (.getfield 7, 3) := by decide +kernel
theorem dX9_rates_95 : decode cX9_rates 95 = .ok (.bipush 34, 2) := by decide +kernel
theorem dX9_rates_97 : decode cX9_rates 97 = .ok (.iaload, 1) := by decide +kernel
theorem dX9_rates_98 : decode cX9_rates 98 = .ok (.invokevirtual 72, 3) := by decide +kernel
theorem dX9_rates_101 : decode cX9_rates 101 = .ok (.iastore, 1) := by decide +kernel
theorem dX9_rates_102 : decode cX9_rates 102 = .ok (.iconst 0, 1) := by decide +kernel
theorem dX9_rates_103 : decode cX9_rates 103 = .ok (.istore_n 3, 1) := by decide +kernel
theorem dX9_rates_104 : decode cX9_rates 104 = .ok (.iload_n 3, 1) := by decide +kernel
theorem dX9_rates_105 : decode cX9_rates 105 = .ok (.iconst 3, 1) := by decide +kernel
theorem dX9_rates_106 : decode cX9_rates 106 = .ok (.if_icmp .ge 35, 3) := by decide +kernel
theorem dX9_rates_109 : decode cX9_rates 109 = .ok (.aload_n 0, 1) := by decide +kernel
theorem dX9_rates_110 : decode cX9_rates 110 = .ok (.getfield 7, 3) := by decide +kernel
theorem dX9_rates_113 : decode cX9_rates 113 = .ok (.bipush 38, 2) := by decide +kernel
theorem dX9_rates_115 : decode cX9_rates 115 = .ok (.iconst 3, 1) := by decide +kernel
theorem dX9_rates_116 : decode cX9_rates 116 = .ok (.iload_n 3, 1) := by decide +kernel
theorem dX9_rates_117 : decode cX9_rates 117 = .ok (.imul, 1) := by decide +kernel
theorem dX9_rates_118 : decode cX9_rates 118 = .ok (.iadd, 1) := by decide +kernel
theorem dX9_rates_119 : decode cX9_rates 119 = .ok (.aload_n 0, 1) := by decide +kernel
theorem dX9_rates_120 : decode cX9_rates 120 = .ok (.aload_n 0, 1) := by decide +kernel
theorem dX9_rates_121 : decode cX9_rates 121 = .ok (.getfield 7, 3) := by decide +kernel
theorem dX9_rates_124 : decode cX9_rates 124 = .ok (.bipush 38, 2) := by decide +kernel
theorem dX9_rates_126 : decode cX9_rates 126 = .ok (.iconst 3, 1) := by decide +kernel
theorem dX9_rates_127 : decode cX9_rates 127 = .ok (.iload_n 3, 1) := by decide +kernel
theorem dX9_rates_128 : decode cX9_rates 128 = .ok (.imul, 1) := by decide +kernel
theorem dX9_rates_129 : decode cX9_rates 129 = .ok (.iadd, 1) := by decide +kernel
theorem dX9_rates_130 : decode cX9_rates 130 = .ok (.iaload, 1) := by decide +kernel
theorem dX9_rates_131 : decode cX9_rates 131 = .ok (.invokevirtual 72, 3) := by decide +kernel
theorem dX9_rates_134 : decode cX9_rates 134 = .ok (.iastore, 1) := by decide +kernel
theorem dX9_rates_135 : decode cX9_rates 135 = .ok (.iinc 3 1, 3) := by decide +kernel
theorem dX9_rates_138 : decode cX9_rates 138 = .ok (.goto (-34), 3) := by decide +kernel
theorem dX9_rates_141 : decode cX9_rates 141 = .ok (.iload_n 2, 1) := by decide +kernel
theorem dX9_rates_142 : decode cX9_rates 142 = .ok (.ireturn, 1) := by decide +kernel
theorem dX9_tape_0 : decode cX9_tape 0 = .ok (.iconst 0, 1) := by decide +kernel
theorem dX9_tape_1 : decode cX9_tape 1 = .ok (.istore_n 1, 1) := by decide +kernel
theorem dX9_tape_2 : decode cX9_tape 2 = .ok (.iconst 0, 1) := by decide +kernel
theorem dX9_tape_3 : decode cX9_tape 3 = .ok (.istore_n 2, 1) := by decide +kernel
theorem dX9_tape_4 : decode cX9_tape 4 = .ok (.iload_n 2, 1) := by decide +kernel
theorem dX9_tape_5 : decode cX9_tape 5 = .ok (.aload_n 0, 1) := by decide +kernel
theorem dX9_tape_6 : decode cX9_tape 6 = .ok (.getfield 7, 3) := by decide +kernel
theorem dX9_tape_9 : decode cX9_tape 9 = .ok (.iconst 1, 1) := by decide +kernel
theorem dX9_tape_10 : decode cX9_tape 10 = .ok (.iaload, 1) := by decide +kernel
theorem dX9_tape_11 : decode cX9_tape 11 = .ok (.if_icmp .ge 27, 3) := by decide +kernel
theorem dX9_tape_14 : decode cX9_tape 14 = .ok (.iload_n 1, 1) := by decide +kernel
theorem dX9_tape_15 : decode cX9_tape 15 = .ok (.bipush 48, 2) := by decide +kernel
theorem dX9_tape_17 : decode cX9_tape 17 = .ok (.aload_n 0, 1) := by decide +kernel
theorem dX9_tape_18 : decode cX9_tape 18 = .ok (.getfield 7, 3) := by decide +kernel
theorem dX9_tape_21 : decode cX9_tape 21 = .ok (.iconst 2, 1) := by decide +kernel
theorem dX9_tape_22 : decode cX9_tape 22 = .ok (.iconst 3, 1) := by decide +kernel
theorem dX9_tape_23 : decode cX9_tape 23 = .ok (.iload_n 2, 1) := by decide +kernel
theorem dX9_tape_24 : decode cX9_tape 24 = .ok (.imul, 1) := by decide +kernel
theorem dX9_tape_25 : decode cX9_tape 25 = .ok (.iadd, 1) := by decide +kernel
theorem dX9_tape_26 : decode cX9_tape 26 = .ok (.iconst 1, 1) := by decide +kernel
theorem dX9_tape_27 : decode cX9_tape 27 = .ok (.iadd, 1) := by decide +kernel
theorem dX9_tape_28 : decode cX9_tape 28 = .ok (.iaload, 1) := by decide +kernel
theorem dX9_tape_29 : decode cX9_tape 29 = .ok (.imul, 1) := by decide +kernel
theorem dX9_tape_30 : decode cX9_tape 30 = .ok (.iadd, 1) := by decide +kernel
theorem dX9_tape_31 : decode cX9_tape 31 = .ok (.istore_n 1, 1) := by decide +kernel
theorem dX9_tape_32 : decode cX9_tape 32 = .ok (.iinc 2 1, 3) := by decide +kernel
theorem dX9_tape_35 : decode cX9_tape 35 = .ok (.goto (-31), 3) := by decide +kernel
theorem dX9_tape_38 : decode cX9_tape 38 = .ok (.iload_n 1, 1) := by decide +kernel
theorem dX9_tape_39 : decode cX9_tape 39 = .ok (.ireturn, 1) := by decide +kernel
theorem dX9_lays_0 : decode cX9_lays 0 = .ok (.aload_n 0, 1) := by decide +kernel
theorem dX9_lays_1 : decode cX9_lays 1 = .ok (.iconst 0, 1) := by decide +kernel
theorem dX9_lays_2 : decode cX9_lays 2 = .ok (.putfield 29, 3) := by decide +kernel
theorem dX9_lays_5 : decode cX9_lays 5 = .ok (.aload_n 0, 1) := by decide +kernel
theorem dX9_lays_6 : decode cX9_lays 6 = .ok (.iload_n 1, 1) := by decide +kernel
theorem dX9_lays_7 : decode cX9_lays 7 = .ok (.invokevirtual 55, 3) := by decide +kernel
theorem dX9_lays_10 : decode cX9_lays 10 = .ok (.ifCond .eq 23, 3) := by decide +kernel
theorem dX9_lays_13 : decode cX9_lays 13 = .ok (.iload_n 2, 1) := by decide +kernel
theorem dX9_lays_14 : decode cX9_lays 14 = .ok (.iconst 1, 1) := by decide +kernel
theorem dX9_lays_15 : decode cX9_lays 15 = .ok (.bipush 40, 2) := by decide +kernel
theorem dX9_lays_17 : decode cX9_lays 17 = .ok (.invokestatic 46, 3) := by decide +kernel
theorem dX9_lays_20 : decode cX9_lays 20 = .ok (.ifCond .eq 13, 3) := by decide +kernel
theorem dX9_lays_23 : decode cX9_lays 23 = .ok (.iload_n 3, 1) := by decide +kernel
theorem dX9_lays_24 : decode cX9_lays 24 = .ok (.iconst 0, 1) := by decide +kernel
theorem dX9_lays_25 : decode cX9_lays 25 = .ok (.bipush 15, 2) := by decide +kernel
theorem dX9_lays_27 : decode cX9_lays 27 = .ok (.invokestatic 46, 3) := by decide +kernel
theorem dX9_lays_30 : decode cX9_lays 30 = .ok (.ifCond .ne 5, 3) := by decide +kernel
theorem dX9_lays_33 : decode cX9_lays 33 = .ok (.iconst (-1), 1) := by decide +kernel
theorem dX9_lays_34 : decode cX9_lays 34 = .ok (.ireturn, 1) := by decide +kernel
theorem dX9_lays_35 : decode cX9_lays 35 = .ok (.aload_n 0, 1) := by decide +kernel
theorem dX9_lays_36 : decode cX9_lays 36 = .ok (.getfield 7, 3) := by decide +kernel
theorem dX9_lays_39 : decode cX9_lays 39 = .ok (.iconst 1, 1) := by decide +kernel
theorem dX9_lays_40 : decode cX9_lays 40 = .ok (.iaload, 1) := by decide +kernel
theorem dX9_lays_41 : decode cX9_lays 41 = .ok (.bipush 6, 2) := by decide +kernel
theorem dX9_lays_43 : decode cX9_lays 43 = .ok (.if_icmp .ne 6, 3) := by decide +kernel
theorem dX9_lays_46 : decode cX9_lays 46 = .ok (.bipush (-3), 2) := by decide +kernel
theorem dX9_lays_48 : decode cX9_lays 48 = .ok (.ireturn, 1) := by decide +kernel
theorem dX9_lays_49 : decode cX9_lays 49 = .ok (.aload_n 0, 1) := by decide +kernel
theorem dX9_lays_50 : decode cX9_lays 50 = .ok (.invokevirtual 69, 3) := by decide +kernel
theorem dX9_lays_53 : decode cX9_lays 53 = .ok (.iconst 2, 1) := by decide +kernel
theorem dX9_lays_54 : decode cX9_lays 54 = .ok (.iconst 3, 1) := by decide +kernel
theorem dX9_lays_55 : decode cX9_lays 55 = .ok (.aload_n 0, 1) := by decide +kernel
theorem dX9_lays_56 : decode cX9_lays 56 = .ok (.getfield 7, 3) := by decide +kernel
theorem dX9_lays_59 : decode cX9_lays 59 = .ok (.iconst 1, 1) := by decide +kernel
theorem dX9_lays_60 : decode cX9_lays 60 = .ok (.iaload, 1) := by decide +kernel
theorem dX9_lays_61 : decode cX9_lays 61 = .ok (.imul, 1) := by decide +kernel
theorem dX9_lays_62 : decode cX9_lays 62 = .ok (.iadd, 1) := by decide +kernel
theorem dX9_lays_63 : decode cX9_lays 63 = .ok (.istore 4, 2) := by decide +kernel
theorem dX9_lays_65 : decode cX9_lays 65 = .ok (.aload_n 0, 1) := by decide +kernel
theorem dX9_lays_66 : decode cX9_lays 66 = .ok (.getfield 7, 3) := by decide +kernel
theorem dX9_lays_69 : decode cX9_lays 69 = .ok (.iload 4, 2) := by decide +kernel
theorem dX9_lays_71 : decode cX9_lays 71 = .ok (.iload_n 1, 1) := by decide +kernel
theorem dX9_lays_72 : decode cX9_lays 72 = .ok (.iastore, 1) := by decide +kernel
theorem dX9_lays_73 : decode cX9_lays 73 = .ok (.aload_n 0, 1) := by decide +kernel
theorem dX9_lays_74 : decode cX9_lays 74 = .ok (.getfield 7, 3) := by decide +kernel
theorem dX9_lays_77 : decode cX9_lays 77 = .ok (.iload 4, 2) := by decide +kernel
theorem dX9_lays_79 : decode cX9_lays 79 = .ok (.iconst 1, 1) := by decide +kernel
theorem dX9_lays_80 : decode cX9_lays 80 = .ok (.iadd, 1) := by decide +kernel
theorem dX9_lays_81 : decode cX9_lays 81 = .ok (.iload_n 2, 1) := by decide +kernel
theorem dX9_lays_82 : decode cX9_lays 82 = .ok (.iastore, 1) := by decide +kernel
theorem dX9_lays_83 : decode cX9_lays 83 = .ok (.aload_n 0, 1) := by decide +kernel
theorem dX9_lays_84 : decode cX9_lays 84 = .ok (.getfield 7, 3) := by decide +kernel
theorem dX9_lays_87 : decode cX9_lays 87 = .ok (.iload 4, 2) := by decide +kernel
theorem dX9_lays_89 : decode cX9_lays 89 = .ok (.iconst 2, 1) := by decide +kernel
theorem dX9_lays_90 : decode cX9_lays 90 = .ok (.iadd, 1) := by decide +kernel
theorem dX9_lays_91 : decode cX9_lays 91 = .ok (.iload_n 3, 1) := by decide +kernel
theorem dX9_lays_92 : decode cX9_lays 92 = .ok (.iastore, 1) := by decide +kernel
theorem dX9_lays_93 : decode cX9_lays 93 = .ok (.aload_n 0, 1) := by decide +kernel
theorem dX9_lays_94 : decode cX9_lays 94 = .ok (.getfield 7, 3) := by decide +kernel
theorem dX9_lays_97 : decode cX9_lays 97 = .ok (.iconst 1, 1) := by decide +kernel
theorem dX9_lays_98 : decode cX9_lays 98 = .ok (.dup2, 1) := by decide +kernel
theorem dX9_lays_99 : decode cX9_lays 99 = .ok (.iaload, 1) := by decide +kernel
theorem dX9_lays_100 : decode cX9_lays 100 = .ok (.iconst 1, 1) := by decide +kernel
theorem dX9_lays_101 : decode cX9_lays 101 = .ok (.iadd, 1) := by decide +kernel
theorem dX9_lays_102 : decode cX9_lays 102 = .ok (.iastore, 1) := by decide +kernel
theorem dX9_lays_103 : decode cX9_lays 103 = .ok (.aload_n 0, 1) := by decide +kernel
theorem dX9_lays_104 : decode cX9_lays 104 = .ok (.getfield 7, 3) := by decide +kernel
theorem dX9_lays_107 : decode cX9_lays 107 = .ok (.iconst 1, 1) := by decide +kernel
theorem dX9_lays_108 : decode cX9_lays 108 = .ok (.iaload, 1) := by decide +kernel
theorem dX9_lays_109 : decode cX9_lays 109 = .ok (.ireturn, 1) := by decide +kernel
theorem dX9_winds_0 : decode cX9_winds 0 = .ok (.aload_n 0, 1) := by decide +kernel
theorem dX9_winds_1 : decode cX9_winds 1 = .ok (.iconst 0, 1) := by decide +kernel
theorem dX9_winds_2 : decode cX9_winds 2 = .ok (.putfield 29, 3) := by decide +kernel
theorem dX9_winds_5 : decode cX9_winds 5 = .ok (.iload_n 1, 1) := by decide +kernel
theorem dX9_winds_6 : decode cX9_winds 6 = .ok (.iconst 0, 1) := by decide +kernel
theorem dX9_winds_7 : decode cX9_winds 7 = .ok (.aload_n 0, 1) := by decide +kernel
theorem dX9_winds_8 : decode cX9_winds 8 = .ok (.invokevirtual 75, 3) := by decide +kernel
theorem dX9_winds_11 : decode cX9_winds 11 = .ok (.invokestatic 46, 3) := by decide +kernel
theorem dX9_winds_14 : decode cX9_winds 14 = .ok (.ifCond .ne 5, 3) := by decide +kernel
theorem dX9_winds_17 : decode cX9_winds 17 = .ok (.iconst (-1), 1) := by decide +kernel
theorem dX9_winds_18 : decode cX9_winds 18 = .ok (.ireturn, 1) := by decide +kernel
theorem dX9_winds_19 : decode cX9_winds 19 = .ok (.aload_n 0, 1) := by decide +kernel
theorem dX9_winds_20 : decode cX9_winds 20 = .ok (.getfield 7, 3) := by decide +kernel
theorem dX9_winds_23 : decode cX9_winds 23 = .ok (.bipush 20, 2) := by decide +kernel
theorem dX9_winds_25 : decode cX9_winds 25 = .ok (.iaload, 1) := by decide +kernel
theorem dX9_winds_26 : decode cX9_winds 26 = .ok (.istore_n 2, 1) := by decide +kernel
theorem dX9_winds_27 : decode cX9_winds 27 = .ok (.iload_n 2, 1) := by decide +kernel
theorem dX9_winds_28 : decode cX9_winds 28 = .ok (.iload_n 1, 1) := by decide +kernel
theorem dX9_winds_29 : decode cX9_winds 29 = .ok (.if_icmp .ne 6, 3) := by decide +kernel
theorem dX9_winds_32 : decode cX9_winds 32 = .ok (.bipush (-2), 2) := by decide +kernel
theorem dX9_winds_34 : decode cX9_winds 34 = .ok (.ireturn, 1) := by decide +kernel
theorem dX9_winds_35 : decode cX9_winds 35 = .ok (.aload_n 0, 1) := by decide +kernel
theorem dX9_winds_36 : decode cX9_winds 36 = .ok (.invokevirtual 69, 3) := by decide +kernel
theorem dX9_winds_39 : decode cX9_winds 39 = .ok (.aload_n 0, 1) := by decide +kernel
theorem dX9_winds_40 : decode cX9_winds 40 = .ok (.getfield 7, 3) := by decide +kernel
theorem dX9_winds_43 : decode cX9_winds 43 = .ok (.bipush 20, 2) := by decide +kernel
theorem dX9_winds_45 : decode cX9_winds 45 = .ok (.iload_n 1, 1) := by decide +kernel
theorem dX9_winds_46 : decode cX9_winds 46 = .ok (.iastore, 1) := by decide +kernel
theorem dX9_winds_47 : decode cX9_winds 47 = .ok (.iload_n 2, 1) := by decide +kernel
theorem dX9_winds_48 : decode cX9_winds 48 = .ok (.ireturn, 1) := by decide +kernel
theorem dX9_figures_0 : decode cX9_figures 0 = .ok (.iload_n 0, 1) := by decide +kernel
theorem dX9_figures_1 : decode cX9_figures 1 = .ok (.bipush 10, 2) := by decide +kernel
theorem dX9_figures_3 : decode cX9_figures 3 = .ok (.irem, 1) := by decide +kernel
theorem dX9_figures_4 : decode cX9_figures 4 = .ok (.iload_n 0, 1) := by decide +kernel
theorem dX9_figures_5 : decode cX9_figures 5 = .ok (.bipush 10, 2) := by decide +kernel
theorem dX9_figures_7 : decode cX9_figures 7 = .ok (.idiv, 1) := by decide +kernel
theorem dX9_figures_8 : decode cX9_figures 8 = .ok (.iconst 4, 1) := by decide +kernel
theorem dX9_figures_9 : decode cX9_figures 9 = .ok (.ishl, 1) := by decide +kernel
theorem dX9_figures_10 : decode cX9_figures 10 = .ok (.ior, 1) := by decide +kernel
theorem dX9_figures_11 : decode cX9_figures 11 = .ok (.ireturn, 1) := by decide +kernel
theorem dX9_wordOf_0 : decode cX9_wordOf 0 = .ok (.aload_n 0, 1) := by decide +kernel
theorem dX9_wordOf_1 : decode cX9_wordOf 1 = .ok (.getfield 7, 3) := by decide +kernel
theorem dX9_wordOf_4 : decode cX9_wordOf 4 = .ok (.iconst 0, 1) := by decide +kernel
theorem dX9_wordOf_5 : decode cX9_wordOf 5 = .ok (.iaload, 1) := by decide +kernel
theorem dX9_wordOf_6 : decode cX9_wordOf 6 = .ok (.iload_n 1, 1) := by decide +kernel
theorem dX9_wordOf_7 : decode cX9_wordOf 7 = .ok (.invokestatic 59, 3) := by decide +kernel
theorem dX9_wordOf_10 : decode cX9_wordOf 10 = .ok (.istore_n 3, 1) := by decide +kernel
theorem dX9_wordOf_11 : decode cX9_wordOf 11 = .ok (.iload_n 3, 1) := by decide +kernel
theorem dX9_wordOf_12 : decode cX9_wordOf 12 = .ok (.bipush 100, 2) := by decide +kernel
theorem dX9_wordOf_14 : decode cX9_wordOf 14 = .ok (.irem, 1) := by decide +kernel
theorem dX9_wordOf_15 : decode cX9_wordOf 15 = .ok (.invokestatic 78, 3) := by decide +kernel
theorem dX9_wordOf_18 : decode cX9_wordOf 18 = .ok (.iload_n 3, 1) := by decide +kernel
theorem dX9_wordOf_19 : decode cX9_wordOf 19 = .ok (.bipush 100, 2) := by decide +kernel
theorem dX9_wordOf_21 : decode cX9_wordOf 21 = .ok (.idiv, 1) := by decide +kernel
theorem dX9_wordOf_22 : decode cX9_wordOf 22 = .ok (.bipush 100, 2) := by decide +kernel
theorem dX9_wordOf_24 : decode cX9_wordOf 24 = .ok (.irem, 1) := by decide +kernel
theorem dX9_wordOf_25 : decode cX9_wordOf 25 = .ok (.invokestatic 78, 3) := by decide +kernel
theorem dX9_wordOf_28 : decode cX9_wordOf 28 = .ok (.bipush 6, 2) := by decide +kernel
theorem dX9_wordOf_30 : decode cX9_wordOf 30 = .ok (.ishl, 1) := by decide +kernel
theorem dX9_wordOf_31 : decode cX9_wordOf 31 = .ok (.ior, 1) := by decide +kernel
theorem dX9_wordOf_32 : decode cX9_wordOf 32 = .ok (.iload_n 3, 1) := by decide +kernel
theorem dX9_wordOf_33 : decode cX9_wordOf 33 = .ok (.sipush 10000, 3) := by decide +kernel
theorem dX9_wordOf_36 : decode cX9_wordOf 36 = .ok (.idiv, 1) := by decide +kernel
theorem dX9_wordOf_37 : decode cX9_wordOf 37 = .ok (.bipush 100, 2) := by decide +kernel
theorem dX9_wordOf_39 : decode cX9_wordOf 39 = .ok (.irem, 1) := by decide +kernel
theorem dX9_wordOf_40 : decode cX9_wordOf 40 = .ok (.invokestatic 78, 3) := by decide +kernel
theorem dX9_wordOf_43 : decode cX9_wordOf 43 = .ok (.bipush 13, 2) := by decide +kernel
theorem dX9_wordOf_45 : decode cX9_wordOf 45 = .ok (.ishl, 1) := by decide +kernel
theorem dX9_wordOf_46 : decode cX9_wordOf 46 = .ok (.ior, 1) := by decide +kernel
theorem dX9_wordOf_47 : decode cX9_wordOf 47 = .ok (.iload_n 3, 1) := by decide +kernel
theorem dX9_wordOf_48 : decode cX9_wordOf 48 = .ok (.ldc 54, 2) := by decide +kernel
theorem dX9_wordOf_50 : decode cX9_wordOf 50 = .ok (.idiv, 1) := by decide +kernel
theorem dX9_wordOf_51 : decode cX9_wordOf 51 = .ok (.invokestatic 78, 3) := by decide +kernel
theorem dX9_wordOf_54 : decode cX9_wordOf 54 = .ok (.bipush 20, 2) := by decide +kernel
theorem dX9_wordOf_56 : decode cX9_wordOf 56 = .ok (.ishl, 1) := by decide +kernel
theorem dX9_wordOf_57 : decode cX9_wordOf 57 = .ok (.ior, 1) := by decide +kernel
theorem dX9_wordOf_58 : decode cX9_wordOf 58 = .ok (.istore 4, 2) := by decide +kernel
theorem dX9_wordOf_60 : decode cX9_wordOf 60 = .ok (.iload 4, 2) := by decide +kernel
theorem dX9_wordOf_62 : decode cX9_wordOf 62 = .ok (.aload_n 0, 1) := by decide +kernel
theorem dX9_wordOf_63 : decode cX9_wordOf 63 = .ok (.getfield 7, 3) := by decide +kernel
theorem dX9_wordOf_66 : decode cX9_wordOf 66 = .ok (.iconst 0, 1) := by decide +kernel
theorem dX9_wordOf_67 : decode cX9_wordOf 67 = .ok (.iaload, 1) := by decide +kernel
theorem dX9_wordOf_68 : decode cX9_wordOf 68 = .ok (.iconst 3, 1) := by decide +kernel
theorem dX9_wordOf_69 : decode cX9_wordOf 69 = .ok (.if_icmp .ne 8, 3) := by decide +kernel
theorem dX9_wordOf_72 : decode cX9_wordOf 72 = .ok (.ldc 81, 2) := by decide +kernel
theorem dX9_wordOf_74 : decode cX9_wordOf 74 = .ok (.goto 4, 3) := by decide +kernel
theorem dX9_wordOf_77 : decode cX9_wordOf 77 = .ok (.iconst 0, 1) := by decide +kernel
theorem dX9_wordOf_78 : decode cX9_wordOf 78 = .ok (.ior, 1) := by decide +kernel
theorem dX9_wordOf_79 : decode cX9_wordOf 79 = .ok (.istore 4, 2) := by decide +kernel
theorem dX9_wordOf_81 : decode cX9_wordOf 81 = .ok (.iload 4, 2) := by decide +kernel
theorem dX9_wordOf_83 : decode cX9_wordOf 83 = .ok (.iload_n 2, 1) := by decide +kernel
theorem dX9_wordOf_84 : decode cX9_wordOf 84 = .ok (.bipush 28, 2) := by decide +kernel
theorem dX9_wordOf_86 : decode cX9_wordOf 86 = .ok (.ishl, 1) := by decide +kernel
theorem dX9_wordOf_87 : decode cX9_wordOf 87 = .ok (.ior, 1) := by decide +kernel
theorem dX9_wordOf_88 : decode cX9_wordOf 88 = .ok (.istore 4, 2) := by decide +kernel
theorem dX9_wordOf_90 : decode cX9_wordOf 90 = .ok (.iload 4, 2) := by decide +kernel
theorem dX9_wordOf_92 : decode cX9_wordOf 92 = .ok (.invokestatic 82, 3) := by decide +kernel
theorem dX9_wordOf_95 : decode cX9_wordOf 95 = .ok (.ifCond .eq 8, 3) := by decide +kernel
theorem dX9_wordOf_98 : decode cX9_wordOf 98 = .ok (.iload 4, 2) := by decide +kernel
theorem dX9_wordOf_100 : decode cX9_wordOf 100 = .ok (.goto 8, 3) := by decide +kernel
theorem dX9_wordOf_103 : decode cX9_wordOf 103 = .ok (.iload 4, 2) := by decide +kernel
theorem dX9_wordOf_105 : decode cX9_wordOf 105 = .ok (.ldc 85, 2) := by decide +kernel
theorem dX9_wordOf_107 : decode cX9_wordOf 107 = .ok (.ior, 1) := by decide +kernel
theorem dX9_wordOf_108 : decode cX9_wordOf 108 = .ok (.ireturn, 1) := by decide +kernel
theorem dX9_isEven_0 : decode cX9_isEven 0 = .ok (.iconst 1, 1) := by decide +kernel
theorem dX9_isEven_1 : decode cX9_isEven 1 = .ok (.istore_n 1, 1) := by decide +kernel
theorem dX9_isEven_2 : decode cX9_isEven 2 = .ok (.iconst 0, 1) := by decide +kernel
theorem dX9_isEven_3 : decode cX9_isEven 3 = .ok (.istore_n 2, 1) := by decide +kernel
theorem dX9_isEven_4 : decode cX9_isEven 4 = .ok (.iload_n 2, 1) := by decide +kernel
theorem dX9_isEven_5 : decode cX9_isEven 5 = .ok (.bipush 32, 2) := by decide +kernel
theorem dX9_isEven_7 : decode cX9_isEven 7 = .ok (.if_icmp .ge 33, 3) := by decide +kernel
theorem dX9_isEven_10 : decode cX9_isEven 10 = .ok (.iload_n 1, 1) := by decide +kernel
theorem dX9_isEven_11 : decode cX9_isEven 11 = .ok (.iload_n 0, 1) := by decide +kernel
theorem dX9_isEven_12 : decode cX9_isEven 12 = .ok (.iload_n 2, 1) := by decide +kernel
theorem dX9_isEven_13 : decode cX9_isEven 13 = .ok (.iushr, 1) := by decide +kernel
theorem dX9_isEven_14 : decode cX9_isEven 14 = .ok (.iconst 1, 1) := by decide +kernel
theorem dX9_isEven_15 : decode cX9_isEven 15 = .ok (.iand, 1) := by decide +kernel
theorem dX9_isEven_16 : decode cX9_isEven 16 = .ok (.iconst 1, 1) := by decide +kernel
theorem dX9_isEven_17 : decode cX9_isEven 17 = .ok (.if_icmp .ne 7, 3) := by decide +kernel
theorem dX9_isEven_20 : decode cX9_isEven 20 = .ok (.iconst 1, 1) := by decide +kernel
theorem dX9_isEven_21 : decode cX9_isEven 21 = .ok (.goto 4, 3) := by decide +kernel
theorem dX9_isEven_24 : decode cX9_isEven 24 = .ok (.iconst 0, 1) := by decide +kernel
theorem dX9_isEven_25 : decode cX9_isEven 25 = .ok (.if_icmp .eq 7, 3) := by decide +kernel
theorem dX9_isEven_28 : decode cX9_isEven 28 = .ok (.iconst 1, 1) := by decide +kernel
theorem dX9_isEven_29 : decode cX9_isEven 29 = .ok (.goto 4, 3) := by decide +kernel
theorem dX9_isEven_32 : decode cX9_isEven 32 = .ok (.iconst 0, 1) := by decide +kernel
theorem dX9_isEven_33 : decode cX9_isEven 33 = .ok (.istore_n 1, 1) := by decide +kernel
theorem dX9_isEven_34 : decode cX9_isEven 34 = .ok (.iinc 2 1, 3) := by decide +kernel
theorem dX9_isEven_37 : decode cX9_isEven 37 = .ok (.goto (-33), 3) := by decide +kernel
theorem dX9_isEven_40 : decode cX9_isEven 40 = .ok (.iload_n 1, 1) := by decide +kernel
theorem dX9_isEven_41 : decode cX9_isEven 41 = .ok (.ireturn, 1) := by decide +kernel
theorem dX9_sync_0 : decode cX9_sync 0 = .ok (.iload_n 0, 1) := by decide +kernel
theorem dX9_sync_1 : decode cX9_sync 1 = .ok (.iconst 2, 1) := by decide +kernel
theorem dX9_sync_2 : decode cX9_sync 2 = .ok (.if_icmp .lt 9, 3) := by decide +kernel
theorem dX9_sync_5 : decode cX9_sync 5 = .ok (.iload_n 0, 1) := by decide +kernel
theorem dX9_sync_6 : decode cX9_sync 6 = .ok (.bipush 14, 2) := by decide +kernel
theorem dX9_sync_8 : decode cX9_sync 8 = .ok (.if_icmp .ne 7, 3) := by decide +kernel
theorem dX9_sync_11 : decode cX9_sync 11 = .ok (.iconst 0, 1) := by decide +kernel
theorem dX9_sync_12 : decode cX9_sync 12 = .ok (.goto 4, 3) := by decide +kernel
theorem dX9_sync_15 : decode cX9_sync 15 = .ok (.iconst 1, 1) := by decide +kernel
theorem dX9_sync_16 : decode cX9_sync 16 = .ok (.ireturn, 1) := by decide +kernel
theorem dX9_bitAt_0 : decode cX9_bitAt 0 = .ok (.iload_n 1, 1) := by decide +kernel
theorem dX9_bitAt_1 : decode cX9_bitAt 1 = .ok (.istore_n 2, 1) := by decide +kernel
theorem dX9_bitAt_2 : decode cX9_bitAt 2 = .ok (.iconst 0, 1) := by decide +kernel
theorem dX9_bitAt_3 : decode cX9_bitAt 3 = .ok (.istore_n 3, 1) := by decide +kernel
theorem dX9_bitAt_4 : decode cX9_bitAt 4 = .ok (.iload_n 2, 1) := by decide +kernel
theorem dX9_bitAt_5 : decode cX9_bitAt 5 = .ok (.bipush 48, 2) := by decide +kernel
theorem dX9_bitAt_7 : decode cX9_bitAt 7 = .ok (.aload_n 0, 1) := by decide +kernel
theorem dX9_bitAt_8 : decode cX9_bitAt 8 = .ok (.getfield 7, 3) := by decide +kernel
theorem dX9_bitAt_11 : decode cX9_bitAt 11 = .ok (.iconst 2, 1) := by decide +kernel
theorem dX9_bitAt_12 : decode cX9_bitAt 12 = .ok (.iconst 3, 1) := by decide +kernel
theorem dX9_bitAt_13 : decode cX9_bitAt 13 = .ok (.iload_n 3, 1) := by decide +kernel
theorem dX9_bitAt_14 : decode cX9_bitAt 14 = .ok (.imul, 1) := by decide +kernel
theorem dX9_bitAt_15 : decode cX9_bitAt 15 = .ok (.iadd, 1) := by decide +kernel
theorem dX9_bitAt_16 : decode cX9_bitAt 16 = .ok (.iconst 1, 1) := by decide +kernel
theorem dX9_bitAt_17 : decode cX9_bitAt 17 = .ok (.iadd, 1) := by decide +kernel
theorem dX9_bitAt_18 : decode cX9_bitAt 18 = .ok (.iaload, 1) := by decide +kernel
theorem dX9_bitAt_19 : decode cX9_bitAt 19 = .ok (.imul, 1) := by decide +kernel
theorem dX9_bitAt_20 : decode cX9_bitAt 20 = .ok (.if_icmp .lt 27, 3) := by decide +kernel
theorem dX9_bitAt_23 : decode cX9_bitAt 23 = .ok (.iload_n 2, 1) := by decide +kernel
theorem dX9_bitAt_24 : decode cX9_bitAt 24 = .ok (.bipush 48, 2) := by decide +kernel
theorem dX9_bitAt_26 : decode cX9_bitAt 26 = .ok (.aload_n 0, 1) := by decide +kernel
theorem dX9_bitAt_27 : decode cX9_bitAt 27 = .ok (.getfield 7, 3) := by decide +kernel
theorem dX9_bitAt_30 : decode cX9_bitAt 30 = .ok (.iconst 2, 1) := by decide +kernel
theorem dX9_bitAt_31 : decode cX9_bitAt 31 = .ok (.iconst 3, 1) := by decide +kernel
theorem dX9_bitAt_32 : decode cX9_bitAt 32 = .ok (.iload_n 3, 1) := by decide +kernel
theorem dX9_bitAt_33 : decode cX9_bitAt 33 = .ok (.imul, 1) := by decide +kernel
theorem dX9_bitAt_34 : decode cX9_bitAt 34 = .ok (.iadd, 1) := by decide +kernel
theorem dX9_bitAt_35 : decode cX9_bitAt 35 = .ok (.iconst 1, 1) := by decide +kernel
theorem dX9_bitAt_36 : decode cX9_bitAt 36 = .ok (.iadd, 1) := by decide +kernel
theorem dX9_bitAt_37 : decode cX9_bitAt 37 = .ok (.iaload, 1) := by decide +kernel
theorem dX9_bitAt_38 : decode cX9_bitAt 38 = .ok (.imul, 1) := by decide +kernel
theorem dX9_bitAt_39 : decode cX9_bitAt 39 = .ok (.isub, 1) := by decide +kernel
theorem dX9_bitAt_40 : decode cX9_bitAt 40 = .ok (.istore_n 2, 1) := by decide +kernel
theorem dX9_bitAt_41 : decode cX9_bitAt 41 = .ok (.iinc 3 1, 3) := by decide +kernel
theorem dX9_bitAt_44 : decode cX9_bitAt 44 = .ok (.goto (-40), 3) := by decide +kernel
theorem dX9_bitAt_47 : decode cX9_bitAt 47 = .ok (.aload_n 0, 1) := by decide +kernel
theorem dX9_bitAt_48 : decode cX9_bitAt 48 = .ok (.aload_n 0, 1) := by decide +kernel
theorem dX9_bitAt_49 : decode cX9_bitAt 49 = .ok (.getfield 7, 3) := by decide +kernel
theorem dX9_bitAt_52 : decode cX9_bitAt 52 = .ok (.iconst 2, 1) := by decide +kernel
theorem dX9_bitAt_53 : decode cX9_bitAt 53 = .ok (.iconst 3, 1) := by decide +kernel
theorem dX9_bitAt_54 : decode cX9_bitAt 54 = .ok (.iload_n 3, 1) := by decide +kernel
theorem dX9_bitAt_55 : decode cX9_bitAt 55 = .ok (.imul, 1) := by decide +kernel
theorem dX9_bitAt_56 : decode cX9_bitAt 56 = .ok (.iadd, 1) := by decide +kernel
theorem dX9_bitAt_57 : decode cX9_bitAt 57 = .ok (.iaload, 1) := by decide +kernel
theorem dX9_bitAt_58 : decode cX9_bitAt 58 = .ok (.iload_n 2, 1) := by decide +kernel
theorem dX9_bitAt_59 : decode cX9_bitAt 59 = .ok (.bipush 48, 2) := by decide +kernel
theorem dX9_bitAt_61 : decode cX9_bitAt 61 = .ok (.idiv, 1) := by decide +kernel
theorem dX9_bitAt_62 : decode cX9_bitAt 62 = .ok (.iadd, 1) := by decide +kernel
theorem dX9_bitAt_63 : decode cX9_bitAt 63 = .ok (.invokevirtual 72, 3) := by decide +kernel
theorem dX9_bitAt_66 : decode cX9_bitAt 66 = .ok (.istore 4, 2) := by decide +kernel
theorem dX9_bitAt_68 : decode cX9_bitAt 68 = .ok (.iload_n 2, 1) := by decide +kernel
theorem dX9_bitAt_69 : decode cX9_bitAt 69 = .ok (.bipush 48, 2) := by decide +kernel
theorem dX9_bitAt_71 : decode cX9_bitAt 71 = .ok (.irem, 1) := by decide +kernel
theorem dX9_bitAt_72 : decode cX9_bitAt 72 = .ok (.istore 5, 2) := by decide +kernel
theorem dX9_bitAt_74 : decode cX9_bitAt 74 = .ok (.iload 5, 2) := by decide +kernel
theorem dX9_bitAt_76 : decode cX9_bitAt 76 = .ok (.bipush 32, 2) := by decide +kernel
theorem dX9_bitAt_78 : decode cX9_bitAt 78 = .ok (.if_icmp .ge 29, 3) := by decide +kernel
theorem dX9_bitAt_81 : decode cX9_bitAt 81 = .ok (.aload_n 0, 1) := by decide +kernel
theorem dX9_bitAt_82 : decode cX9_bitAt 82 = .ok (.iload 4, 2) := by decide +kernel
theorem dX9_bitAt_84 : decode cX9_bitAt 84 = .ok (.aload_n 0, 1) := by decide +kernel
theorem dX9_bitAt_85 : decode cX9_bitAt 85 = .ok (.getfield 7, 3) := by decide +kernel
theorem dX9_bitAt_88 : decode cX9_bitAt 88 = .ok (.iconst 2, 1) := by decide +kernel
theorem dX9_bitAt_89 : decode cX9_bitAt 89 = .ok (.iconst 3, 1) := by decide +kernel
theorem dX9_bitAt_90 : decode cX9_bitAt 90 = .ok (.iload_n 3, 1) := by decide +kernel
theorem dX9_bitAt_91 : decode cX9_bitAt 91 = .ok (.imul, 1) := by decide +kernel
theorem dX9_bitAt_92 : decode cX9_bitAt 92 = .ok (.iadd, 1) := by decide +kernel
theorem dX9_bitAt_93 : decode cX9_bitAt 93 = .ok (.iconst 2, 1) := by decide +kernel
theorem dX9_bitAt_94 : decode cX9_bitAt 94 = .ok (.iadd, 1) := by decide +kernel
theorem dX9_bitAt_95 : decode cX9_bitAt 95 = .ok (.iaload, 1) := by decide +kernel
theorem dX9_bitAt_96 : decode cX9_bitAt 96 = .ok (.invokevirtual 86, 3) := by decide +kernel
theorem dX9_bitAt_99 : decode cX9_bitAt 99 = .ok (.iload 5, 2) := by decide +kernel
theorem dX9_bitAt_101 : decode cX9_bitAt 101 = .ok (.iushr, 1) := by decide +kernel
theorem dX9_bitAt_102 : decode cX9_bitAt 102 = .ok (.iconst 1, 1) := by decide +kernel
theorem dX9_bitAt_103 : decode cX9_bitAt 103 = .ok (.iand, 1) := by decide +kernel
theorem dX9_bitAt_104 : decode cX9_bitAt 104 = .ok (.goto 11, 3) := by decide +kernel
theorem dX9_bitAt_107 : decode cX9_bitAt 107 = .ok (.iload 5, 2) := by decide +kernel
theorem dX9_bitAt_109 : decode cX9_bitAt 109 = .ok (.bipush 32, 2) := by decide +kernel
theorem dX9_bitAt_111 : decode cX9_bitAt 111 = .ok (.isub, 1) := by decide +kernel
theorem dX9_bitAt_112 : decode cX9_bitAt 112 = .ok (.invokestatic 89, 3) := by decide +kernel
theorem dX9_bitAt_115 : decode cX9_bitAt 115 = .ok (.ireturn, 1) := by decide +kernel
theorem dX9_bit_0 : decode cX9_bit 0 = .ok (.aload_n 0, 1) := by decide +kernel
theorem dX9_bit_1 : decode cX9_bit 1 = .ok (.iconst 0, 1) := by decide +kernel
theorem dX9_bit_2 : decode cX9_bit 2 = .ok (.putfield 29, 3) := by decide +kernel
theorem dX9_bit_5 : decode cX9_bit 5 = .ok (.iload_n 1, 1) := by decide +kernel
theorem dX9_bit_6 : decode cX9_bit 6 = .ok (.iconst 0, 1) := by decide +kernel
theorem dX9_bit_7 : decode cX9_bit 7 = .ok (.aload_n 0, 1) := by decide +kernel
theorem dX9_bit_8 : decode cX9_bit 8 = .ok (.invokevirtual 75, 3) := by decide +kernel
theorem dX9_bit_11 : decode cX9_bit 11 = .ok (.iconst 1, 1) := by decide +kernel
theorem dX9_bit_12 : decode cX9_bit 12 = .ok (.isub, 1) := by decide +kernel
theorem dX9_bit_13 : decode cX9_bit 13 = .ok (.invokestatic 46, 3) := by decide +kernel
theorem dX9_bit_16 : decode cX9_bit 16 = .ok (.ifCond .eq 11, 3) := by decide +kernel
theorem dX9_bit_19 : decode cX9_bit 19 = .ok (.aload_n 0, 1) := by decide +kernel
theorem dX9_bit_20 : decode cX9_bit 20 = .ok (.iload_n 1, 1) := by decide +kernel
theorem dX9_bit_21 : decode cX9_bit 21 = .ok (.invokevirtual 92, 3) := by decide +kernel
theorem dX9_bit_24 : decode cX9_bit 24 = .ok (.goto 4, 3) := by decide +kernel
theorem dX9_bit_27 : decode cX9_bit 27 = .ok (.iconst (-1), 1) := by decide +kernel
theorem dX9_bit_28 : decode cX9_bit 28 = .ok (.ireturn, 1) := by decide +kernel
theorem dX9_plays_0 : decode cX9_plays 0 = .ok (.aload_n 0, 1) := by decide +kernel
theorem dX9_plays_1 : decode cX9_plays 1 = .ok (.iconst 0, 1) := by decide +kernel
theorem dX9_plays_2 : decode cX9_plays 2 = .ok (.putfield 29, 3) := by decide +kernel
theorem dX9_plays_5 : decode cX9_plays 5 = .ok (.iload_n 1, 1) := by decide +kernel
theorem dX9_plays_6 : decode cX9_plays 6 = .ok (.iconst 1, 1) := by decide +kernel
theorem dX9_plays_7 : decode cX9_plays 7 = .ok (.sipush 4800, 3) := by decide +kernel
theorem dX9_plays_10 : decode cX9_plays 10 = .ok (.invokestatic 46, 3) := by decide +kernel
theorem dX9_plays_13 : decode cX9_plays 13 = .ok (.ifCond .eq 34, 3) := by decide +kernel
theorem dX9_plays_16 : decode cX9_plays 16 = .ok (.iload_n 2, 1) := by decide +kernel
theorem dX9_plays_17 : decode cX9_plays 17 = .ok (.iconst 1, 1) := by decide +kernel
theorem dX9_plays_18 : decode cX9_plays 18 = .ok (.sipush 200, 3) := by decide +kernel
theorem dX9_plays_21 : decode cX9_plays 21 = .ok (.invokestatic 46, 3) := by decide +kernel
theorem dX9_plays_24 : decode cX9_plays 24 = .ok (.ifCond .eq 23, 3) := by decide +kernel
theorem dX9_plays_27 : decode cX9_plays 27 = .ok (.iload_n 3, 1) := by decide +kernel
theorem dX9_plays_28 : decode cX9_plays 28 = .ok (.iconst 0, 1) := by decide +kernel
theorem dX9_plays_29 : decode cX9_plays 29 = .ok (.bipush 9, 2) := by decide +kernel
theorem dX9_plays_31 : decode cX9_plays 31 = .ok (.invokestatic 46, 3) := by decide +kernel
theorem dX9_plays_34 : decode cX9_plays 34 = .ok (.ifCond .eq 13, 3) := by decide +kernel
theorem dX9_plays_37 : decode cX9_plays 37 = .ok (.iload 4, 2) := by decide +kernel
theorem dX9_plays_39 : decode cX9_plays 39 = .ok (.iconst 0, 1) := by decide +kernel
theorem dX9_plays_40 : decode cX9_plays 40 = .ok (.iconst 1, 1) := by decide +kernel
theorem dX9_plays_41 : decode cX9_plays 41 = .ok (.invokestatic 46, 3) := by decide +kernel
theorem dX9_plays_44 : decode cX9_plays 44 = .ok (.ifCond .ne 5, 3) := by decide +kernel
theorem dX9_plays_47 : decode cX9_plays 47 = .ok (.iconst (-1), 1) := by decide +kernel
theorem dX9_plays_48 : decode cX9_plays 48 = .ok (.ireturn, 1) := by decide +kernel
theorem dX9_plays_49 : decode cX9_plays 49 = .ok (.iload 4, 2) := by decide +kernel
theorem dX9_plays_51 : decode cX9_plays 51 = .ok (.ifCond .ne 18, 3) := by decide +kernel
theorem dX9_plays_54 : decode cX9_plays 54 = .ok (.aload_n 0, 1) := by decide +kernel
theorem dX9_plays_55 : decode cX9_plays 55 = .ok (.invokevirtual 75, 3) := by decide +kernel
theorem dX9_plays_58 : decode cX9_plays 58 = .ok (.aload_n 0, 1) := by decide +kernel
theorem dX9_plays_59 : decode cX9_plays 59 = .ok (.getfield 7, 3) := by decide +kernel
theorem dX9_plays_62 : decode cX9_plays 62 = .ok (.bipush 20, 2) := by decide +kernel
theorem dX9_plays_64 : decode cX9_plays 64 = .ok (.iaload, 1) := by decide +kernel
theorem dX9_plays_65 : decode cX9_plays 65 = .ok (.isub, 1) := by decide +kernel
theorem dX9_plays_66 : decode cX9_plays 66 = .ok (.goto 10, 3) := by decide +kernel
theorem dX9_plays_69 : decode cX9_plays 69 = .ok (.aload_n 0, 1) := by decide +kernel
theorem dX9_plays_70 : decode cX9_plays 70 = .ok (.getfield 7, 3) := by decide +kernel
theorem dX9_plays_73 : decode cX9_plays 73 = .ok (.bipush 20, 2) := by decide +kernel
theorem dX9_plays_75 : decode cX9_plays 75 = .ok (.iaload, 1) := by decide +kernel
theorem dX9_plays_76 : decode cX9_plays 76 = .ok (.istore 5, 2) := by decide +kernel
theorem dX9_plays_78 : decode cX9_plays 78 = .ok (.iload 5, 2) := by decide +kernel
theorem dX9_plays_80 : decode cX9_plays 80 = .ok (.ifCond .ne 6, 3) := by decide +kernel
theorem dX9_plays_83 : decode cX9_plays 83 = .ok (.bipush (-2), 2) := by decide +kernel
theorem dX9_plays_85 : decode cX9_plays 85 = .ok (.ireturn, 1) := by decide +kernel
theorem dX9_plays_86 : decode cX9_plays 86 = .ok (.aload_n 0, 1) := by decide +kernel
theorem dX9_plays_87 : decode cX9_plays 87 = .ok (.invokevirtual 69, 3) := by decide +kernel
theorem dX9_plays_90 : decode cX9_plays 90 = .ok (.iload_n 1, 1) := by decide +kernel
theorem dX9_plays_91 : decode cX9_plays 91 = .ok (.iload 5, 2) := by decide +kernel
theorem dX9_plays_93 : decode cX9_plays 93 = .ok (.if_icmp .ge 7, 3) := by decide +kernel
theorem dX9_plays_96 : decode cX9_plays 96 = .ok (.iload_n 1, 1) := by decide +kernel
theorem dX9_plays_97 : decode cX9_plays 97 = .ok (.goto 5, 3) := by decide +kernel
theorem dX9_plays_100 : decode cX9_plays 100 = .ok (.iload 5, 2) := by decide +kernel
theorem dX9_plays_102 : decode cX9_plays 102 = .ok (.istore 6, 2) := by decide +kernel
theorem dX9_plays_104 : decode cX9_plays 104 = .ok (.iconst 0, 1) := by decide +kernel
theorem dX9_plays_105 : decode cX9_plays 105 = .ok (.istore 7, 2) := by decide +kernel
theorem dX9_plays_107 : decode cX9_plays 107 = .ok (.iload 7, 2) := by decide +kernel
theorem dX9_plays_109 : decode cX9_plays 109 = .ok (.iload 6, 2) := by decide +kernel
theorem dX9_plays_111 : decode cX9_plays 111 = .ok (.if_icmp .ge 86, 3) := by decide +kernel
theorem dX9_plays_114 : decode cX9_plays 114 = .ok (.iload_n 2, 1) := by decide +kernel
theorem dX9_plays_115 : decode cX9_plays 115 = .ok (.iload 7, 2) := by decide +kernel
theorem dX9_plays_117 : decode cX9_plays 117 = .ok (.iload_n 3, 1) := by decide +kernel
theorem dX9_plays_118 : decode cX9_plays 118 = .ok (.imul, 1) := by decide +kernel
theorem dX9_plays_119 : decode cX9_plays 119 = .ok (.iconst 5, 1) := by decide +kernel
theorem dX9_plays_120 : decode cX9_plays 120 = .ok (.irem, 1) := by decide +kernel
theorem dX9_plays_121 : decode cX9_plays 121 = .ok (.iadd, 1) := by decide +kernel
theorem dX9_plays_122 : decode cX9_plays 122 = .ok (.istore 8, 2) := by decide +kernel
theorem dX9_plays_124 : decode cX9_plays 124 = .ok (.aload_n 0, 1) := by decide +kernel
theorem dX9_plays_125 : decode cX9_plays 125 = .ok (.getfield 7, 3) := by decide +kernel
theorem dX9_plays_128 : decode cX9_plays 128 = .ok (.bipush 20, 2) := by decide +kernel
theorem dX9_plays_130 : decode cX9_plays 130 = .ok (.dup2, 1) := by decide +kernel
theorem dX9_plays_131 : decode cX9_plays 131 = .ok (.iaload, 1) := by decide +kernel
theorem dX9_plays_132 : decode cX9_plays 132 = .ok (.iload 4, 2) := by decide +kernel
theorem dX9_plays_134 : decode cX9_plays 134 = .ok (.isub, 1) := by decide +kernel
theorem dX9_plays_135 : decode cX9_plays 135 = .ok (.iastore, 1) := by decide +kernel
theorem dX9_plays_136 : decode cX9_plays 136 = .ok (.aload_n 0, 1) := by decide +kernel
theorem dX9_plays_137 : decode cX9_plays 137 = .ok (.aload_n 0, 1) := by decide +kernel
theorem dX9_plays_138 : decode cX9_plays 138 = .ok (.getfield 7, 3) := by decide +kernel
theorem dX9_plays_141 : decode cX9_plays 141 = .ok (.bipush 20, 2) := by decide +kernel
theorem dX9_plays_143 : decode cX9_plays 143 = .ok (.iaload, 1) := by decide +kernel
theorem dX9_plays_144 : decode cX9_plays 144 = .ok (.invokevirtual 92, 3) := by decide +kernel
theorem dX9_plays_147 : decode cX9_plays 147 = .ok (.istore 9, 2) := by decide +kernel
theorem dX9_plays_149 : decode cX9_plays 149 = .ok (.aload_n 0, 1) := by decide +kernel
theorem dX9_plays_150 : decode cX9_plays 150 = .ok (.getfield 7, 3) := by decide +kernel
theorem dX9_plays_153 : decode cX9_plays 153 = .ok (.bipush 20, 2) := by decide +kernel
theorem dX9_plays_155 : decode cX9_plays 155 = .ok (.dup2, 1) := by decide +kernel
theorem dX9_plays_156 : decode cX9_plays 156 = .ok (.iaload, 1) := by decide +kernel
theorem dX9_plays_157 : decode cX9_plays 157 = .ok (.iconst 1, 1) := by decide +kernel
theorem dX9_plays_158 : decode cX9_plays 158 = .ok (.iload 4, 2) := by decide +kernel
theorem dX9_plays_160 : decode cX9_plays 160 = .ok (.isub, 1) := by decide +kernel
theorem dX9_plays_161 : decode cX9_plays 161 = .ok (.iadd, 1) := by decide +kernel
theorem dX9_plays_162 : decode cX9_plays 162 = .ok (.iastore, 1) := by decide +kernel
theorem dX9_plays_163 : decode cX9_plays 163 = .ok (.iload 9, 2) := by decide +kernel
theorem dX9_plays_165 : decode cX9_plays 165 = .ok (.ifCond .ne 14, 3) := by decide +kernel
theorem dX9_plays_168 : decode cX9_plays 168 = .ok (.aload_n 0, 1) := by decide +kernel
theorem dX9_plays_169 : decode cX9_plays 169 = .ok (.iconst 2, 1) := by decide +kernel
theorem dX9_plays_170 : decode cX9_plays 170 = .ok (.iload 8, 2) := by decide +kernel
theorem dX9_plays_172 : decode cX9_plays 172 = .ok (.imul, 1) := by decide +kernel
theorem dX9_plays_173 : decode cX9_plays 173 = .ok (.invokevirtual 95, 3) := by decide +kernel
theorem dX9_plays_176 : decode cX9_plays 176 = .ok (.goto 15, 3) := by decide +kernel
theorem dX9_plays_179 : decode cX9_plays 179 = .ok (.aload_n 0, 1) := by decide +kernel
theorem dX9_plays_180 : decode cX9_plays 180 = .ok (.iload 8, 2) := by decide +kernel
theorem dX9_plays_182 : decode cX9_plays 182 = .ok (.invokevirtual 95, 3) := by decide +kernel
theorem dX9_plays_185 : decode cX9_plays 185 = .ok (.aload_n 0, 1) := by decide +kernel
theorem dX9_plays_186 : decode cX9_plays 186 = .ok (.iload 8, 2) := by decide +kernel
theorem dX9_plays_188 : decode cX9_plays 188 = .ok (.invokevirtual 95, 3) := by decide +kernel
theorem dX9_plays_191 : decode cX9_plays 191 = .ok (.iinc 7 1, 3) := by decide +kernel
theorem dX9_plays_194 : decode cX9_plays 194 = .ok (.goto (-87), 3) := by decide +kernel
theorem dX9_plays_197 : decode cX9_plays 197 = .ok (.iload 6, 2) := by decide +kernel
theorem dX9_plays_199 : decode cX9_plays 199 = .ok (.ireturn, 1) := by decide +kernel
theorem dX9_cell_0 : decode cX9_cell 0 = .ok (.aload_n 0, 1) := by decide +kernel
theorem dX9_cell_1 : decode cX9_cell 1 = .ok (.getfield 7, 3) := by decide +kernel
theorem dX9_cell_4 : decode cX9_cell 4 = .ok (.bipush 21, 2) := by decide +kernel
theorem dX9_cell_6 : decode cX9_cell 6 = .ok (.iconst 3, 1) := by decide +kernel
theorem dX9_cell_7 : decode cX9_cell 7 = .ok (.aload_n 0, 1) := by decide +kernel
theorem dX9_cell_8 : decode cX9_cell 8 = .ok (.getfield 7, 3) := by decide +kernel
theorem dX9_cell_11 : decode cX9_cell 11 = .ok (.bipush 21, 2) := by decide +kernel
theorem dX9_cell_13 : decode cX9_cell 13 = .ok (.iaload, 1) := by decide +kernel
theorem dX9_cell_14 : decode cX9_cell 14 = .ok (.imul, 1) := by decide +kernel
theorem dX9_cell_15 : decode cX9_cell 15 = .ok (.iload_n 1, 1) := by decide +kernel
theorem dX9_cell_16 : decode cX9_cell 16 = .ok (.iadd, 1) := by decide +kernel
theorem dX9_cell_17 : decode cX9_cell 17 = .ok (.iconst 4, 1) := by decide +kernel
theorem dX9_cell_18 : decode cX9_cell 18 = .ok (.idiv, 1) := by decide +kernel
theorem dX9_cell_19 : decode cX9_cell 19 = .ok (.iastore, 1) := by decide +kernel
theorem dX9_cell_20 : decode cX9_cell 20 = .ok (.aload_n 0, 1) := by decide +kernel
theorem dX9_cell_21 : decode cX9_cell 21 = .ok (.getfield 7, 3) := by decide +kernel
theorem dX9_cell_24 : decode cX9_cell 24 = .ok (.bipush 21, 2) := by decide +kernel
theorem dX9_cell_26 : decode cX9_cell 26 = .ok (.aload_n 0, 1) := by decide +kernel
theorem dX9_cell_27 : decode cX9_cell 27 = .ok (.getfield 7, 3) := by decide +kernel
theorem dX9_cell_30 : decode cX9_cell 30 = .ok (.bipush 21, 2) := by decide +kernel
theorem dX9_cell_32 : decode cX9_cell 32 = .ok (.iaload, 1) := by decide +kernel
theorem dX9_cell_33 : decode cX9_cell 33 = .ok (.iconst 1, 1) := by decide +kernel
theorem dX9_cell_34 : decode cX9_cell 34 = .ok (.if_icmp .ge 7, 3) := by decide +kernel
theorem dX9_cell_37 : decode cX9_cell 37 = .ok (.iconst 1, 1) := by decide +kernel
theorem dX9_cell_38 : decode cX9_cell 38 = .ok (.goto 10, 3) := by decide +kernel
theorem dX9_cell_41 : decode cX9_cell 41 = .ok (.aload_n 0, 1) := by decide +kernel
theorem dX9_cell_42 : decode cX9_cell 42 = .ok (.getfield 7, 3) := by decide +kernel
theorem dX9_cell_45 : decode cX9_cell 45 = .ok (.bipush 21, 2) := by decide +kernel
theorem dX9_cell_47 : decode cX9_cell 47 = .ok (.iaload, 1) := by decide +kernel
theorem dX9_cell_48 : decode cX9_cell 48 = .ok (.iastore, 1) := by decide +kernel
theorem dX9_cell_49 : decode cX9_cell 49 = .ok (.return_, 1) := by decide +kernel
theorem dX9_comes_0 : decode cX9_comes 0 = .ok (.iconst 4, 1) := by decide +kernel
theorem dX9_comes_1 : decode cX9_comes 1 = .ok (.iload_n 1, 1) := by decide +kernel
theorem dX9_comes_2 : decode cX9_comes 2 = .ok (.imul, 1) := by decide +kernel
theorem dX9_comes_3 : decode cX9_comes 3 = .ok (.iconst 3, 1) := by decide +kernel
theorem dX9_comes_4 : decode cX9_comes 4 = .ok (.aload_n 0, 1) := by decide +kernel
theorem dX9_comes_5 : decode cX9_comes 5 = .ok (.getfield 7, 3) := by decide +kernel
theorem dX9_comes_8 : decode cX9_comes 8 = .ok (.bipush 21, 2) := by decide +kernel
theorem dX9_comes_10 : decode cX9_comes 10 = .ok (.iaload, 1) := by decide +kernel
theorem dX9_comes_11 : decode cX9_comes 11 = .ok (.imul, 1) := by decide +kernel
theorem dX9_comes_12 : decode cX9_comes 12 = .ok (.if_icmp .le 45, 3) := by decide +kernel
theorem dX9_comes_15 : decode cX9_comes 15 = .ok (.aload_n 0, 1) := by decide +kernel
theorem dX9_comes_16 : decode cX9_comes 16 = .ok (.getfield 7, 3) := by decide +kernel
theorem dX9_comes_19 : decode cX9_comes 19 = .ok (.bipush 22, 2) := by decide +kernel
theorem dX9_comes_21 : decode cX9_comes 21 = .ok (.iaload, 1) := by decide +kernel
theorem dX9_comes_22 : decode cX9_comes 22 = .ok (.ifCond .le 22, 3) := by decide +kernel
theorem dX9_comes_25 : decode cX9_comes 25 = .ok (.aload_n 0, 1) := by decide +kernel
theorem dX9_comes_26 : decode cX9_comes 26 = .ok (.getfield 7, 3) := by decide +kernel
theorem dX9_comes_29 : decode cX9_comes 29 = .ok (.bipush 22, 2) := by decide +kernel
theorem dX9_comes_31 : decode cX9_comes 31 = .ok (.iconst 0, 1) := by decide +kernel
theorem dX9_comes_32 : decode cX9_comes 32 = .ok (.iastore, 1) := by decide +kernel
theorem dX9_comes_33 : decode cX9_comes 33 = .ok (.aload_n 0, 1) := by decide +kernel
theorem dX9_comes_34 : decode cX9_comes 34 = .ok (.getfield 7, 3) := by decide +kernel
theorem dX9_comes_37 : decode cX9_comes 37 = .ok (.bipush 26, 2) := by decide +kernel
theorem dX9_comes_39 : decode cX9_comes 39 = .ok (.dup2, 1) := by decide +kernel
theorem dX9_comes_40 : decode cX9_comes 40 = .ok (.iaload, 1) := by decide +kernel
theorem dX9_comes_41 : decode cX9_comes 41 = .ok (.iconst 1, 1) := by decide +kernel
theorem dX9_comes_42 : decode cX9_comes 42 = .ok (.iadd, 1) := by decide +kernel
theorem dX9_comes_43 : decode cX9_comes 43 = .ok (.iastore, 1) := by decide +kernel
theorem dX9_comes_44 : decode cX9_comes 44 = .ok (.aload_n 0, 1) := by decide +kernel
theorem dX9_comes_45 : decode cX9_comes 45 = .ok (.iload_n 1, 1) := by decide +kernel
theorem dX9_comes_46 : decode cX9_comes 46 = .ok (.invokevirtual 99, 3) := by decide +kernel
theorem dX9_comes_49 : decode cX9_comes 49 = .ok (.aload_n 0, 1) := by decide +kernel
theorem dX9_comes_50 : decode cX9_comes 50 = .ok (.iconst 0, 1) := by decide +kernel
theorem dX9_comes_51 : decode cX9_comes 51 = .ok (.invokevirtual 102, 3) := by decide +kernel
theorem dX9_comes_54 : decode cX9_comes 54 = .ok (.goto 52, 3) := by decide +kernel
theorem dX9_comes_57 : decode cX9_comes 57 = .ok (.aload_n 0, 1) := by decide +kernel
theorem dX9_comes_58 : decode cX9_comes 58 = .ok (.getfield 7, 3) := by decide +kernel
theorem dX9_comes_61 : decode cX9_comes 61 = .ok (.bipush 22, 2) := by decide +kernel
theorem dX9_comes_63 : decode cX9_comes 63 = .ok (.iaload, 1) := by decide +kernel
theorem dX9_comes_64 : decode cX9_comes 64 = .ok (.ifCond .ne 14, 3) := by decide +kernel
theorem dX9_comes_67 : decode cX9_comes 67 = .ok (.aload_n 0, 1) := by decide +kernel
theorem dX9_comes_68 : decode cX9_comes 68 = .ok (.getfield 7, 3) := by decide +kernel
theorem dX9_comes_71 : decode cX9_comes 71 = .ok (.bipush 22, 2) := by decide +kernel
theorem dX9_comes_73 : decode cX9_comes 73 = .ok (.iload_n 1, 1) := by decide +kernel
theorem dX9_comes_74 : decode cX9_comes 74 = .ok (.iastore, 1) := by decide +kernel
theorem dX9_comes_75 : decode cX9_comes 75 = .ok (.goto 31, 3) := by decide +kernel
theorem dX9_comes_78 : decode cX9_comes 78 = .ok (.aload_n 0, 1) := by decide +kernel
theorem dX9_comes_79 : decode cX9_comes 79 = .ok (.getfield 7, 3) := by decide +kernel
theorem dX9_comes_82 : decode cX9_comes 82 = .ok (.bipush 22, 2) := by decide +kernel
theorem dX9_comes_84 : decode cX9_comes 84 = .ok (.iaload, 1) := by decide +kernel
theorem dX9_comes_85 : decode cX9_comes 85 = .ok (.iload_n 1, 1) := by decide +kernel
theorem dX9_comes_86 : decode cX9_comes 86 = .ok (.iadd, 1) := by decide +kernel
theorem dX9_comes_87 : decode cX9_comes 87 = .ok (.istore_n 2, 1) := by decide +kernel
theorem dX9_comes_88 : decode cX9_comes 88 = .ok (.aload_n 0, 1) := by decide +kernel
theorem dX9_comes_89 : decode cX9_comes 89 = .ok (.getfield 7, 3) := by decide +kernel
theorem dX9_comes_92 : decode cX9_comes 92 = .ok (.bipush 22, 2) := by decide +kernel
theorem dX9_comes_94 : decode cX9_comes 94 = .ok (.iconst 0, 1) := by decide +kernel
theorem dX9_comes_95 : decode cX9_comes 95 = .ok (.iastore, 1) := by decide +kernel
theorem dX9_comes_96 : decode cX9_comes 96 = .ok (.aload_n 0, 1) := by decide +kernel
theorem dX9_comes_97 : decode cX9_comes 97 = .ok (.iload_n 2, 1) := by decide +kernel
theorem dX9_comes_98 : decode cX9_comes 98 = .ok (.invokevirtual 99, 3) := by decide +kernel
theorem dX9_comes_101 : decode cX9_comes 101 = .ok (.aload_n 0, 1) := by decide +kernel
theorem dX9_comes_102 : decode cX9_comes 102 = .ok (.iconst 1, 1) := by decide +kernel
theorem dX9_comes_103 : decode cX9_comes 103 = .ok (.invokevirtual 102, 3) := by decide +kernel
theorem dX9_comes_106 : decode cX9_comes 106 = .ok (.return_, 1) := by decide +kernel
theorem dX9_isSync_0 : decode cX9_isSync 0 = .ok (.iconst 1, 1) := by decide +kernel
theorem dX9_isSync_1 : decode cX9_isSync 1 = .ok (.istore_n 3, 1) := by decide +kernel
theorem dX9_isSync_2 : decode cX9_isSync 2 = .ok (.iconst 0, 1) := by decide +kernel
theorem dX9_isSync_3 : decode cX9_isSync 3 = .ok (.istore 4, 2) := by decide +kernel
theorem dX9_isSync_5 : decode cX9_isSync 5 = .ok (.iload 4, 2) := by decide +kernel
theorem dX9_isSync_7 : decode cX9_isSync 7 = .ok (.bipush 16, 2) := by decide +kernel
theorem dX9_isSync_9 : decode cX9_isSync 9 = .ok (.if_icmp .ge 51, 3) := by decide +kernel
theorem dX9_isSync_12 : decode cX9_isSync 12 = .ok (.iload_n 3, 1) := by decide +kernel
theorem dX9_isSync_13 : decode cX9_isSync 13 = .ok (.ifCond .eq 39, 3) := by decide +kernel
theorem dX9_isSync_16 : decode cX9_isSync 16 = .ok (.aload_n 0, 1) := by decide +kernel
theorem dX9_isSync_17 : decode cX9_isSync 17 = .ok (.getfield 7, 3) := by decide +kernel
theorem dX9_isSync_20 : decode cX9_isSync 20 = .ok (.bipush 47, 2) := by decide +kernel
theorem dX9_isSync_22 : decode cX9_isSync 22 = .ok (.iload_n 1, 1) := by decide +kernel
theorem dX9_isSync_23 : decode cX9_isSync 23 = .ok (.iadd, 1) := by decide +kernel
theorem dX9_isSync_24 : decode cX9_isSync 24 = .ok (.iload 4, 2) := by decide +kernel
theorem dX9_isSync_26 : decode cX9_isSync 26 = .ok (.iadd, 1) := by decide +kernel
theorem dX9_isSync_27 : decode cX9_isSync 27 = .ok (.iaload, 1) := by decide +kernel
theorem dX9_isSync_28 : decode cX9_isSync 28 = .ok (.iload_n 2, 1) := by decide +kernel
theorem dX9_isSync_29 : decode cX9_isSync 29 = .ok (.ifCond .eq 8, 3) := by decide +kernel
theorem dX9_isSync_32 : decode cX9_isSync 32 = .ok (.iload 4, 2) := by decide +kernel
theorem dX9_isSync_34 : decode cX9_isSync 34 = .ok (.goto 8, 3) := by decide +kernel
theorem dX9_isSync_37 : decode cX9_isSync 37 = .ok (.bipush 15, 2) := by decide +kernel
theorem dX9_isSync_39 : decode cX9_isSync 39 = .ok (.iload 4, 2) := by decide +kernel
theorem dX9_isSync_41 : decode cX9_isSync 41 = .ok (.isub, 1) := by decide +kernel
theorem dX9_isSync_42 : decode cX9_isSync 42 = .ok (.invokestatic 89, 3) := by decide +kernel
theorem dX9_isSync_45 : decode cX9_isSync 45 = .ok (.if_icmp .ne 7, 3) := by decide +kernel
theorem dX9_isSync_48 : decode cX9_isSync 48 = .ok (.iconst 1, 1) := by decide +kernel
theorem dX9_isSync_49 : decode cX9_isSync 49 = .ok (.goto 4, 3) := by decide +kernel
theorem dX9_isSync_52 : decode cX9_isSync 52 = .ok (.iconst 0, 1) := by decide +kernel
theorem dX9_isSync_53 : decode cX9_isSync 53 = .ok (.istore_n 3, 1) := by decide +kernel
theorem dX9_isSync_54 : decode cX9_isSync 54 = .ok (.iinc 4 1, 3) := by decide +kernel
theorem dX9_isSync_57 : decode cX9_isSync 57 = .ok (.goto (-52), 3) := by decide +kernel
theorem dX9_isSync_60 : decode cX9_isSync 60 = .ok (.iload_n 3, 1) := by decide +kernel
theorem dX9_isSync_61 : decode cX9_isSync 61 = .ok (.ireturn, 1) := by decide +kernel
theorem dX9_tells_0 : decode cX9_tells 0 = .ok (.aload_n 0, 1) := by decide +kernel
theorem dX9_tells_1 : decode cX9_tells 1 = .ok (.getfield 7, 3) := by decide +kernel
theorem dX9_tells_4 : decode cX9_tells 4 = .ok (.bipush 23, 2) := by decide +kernel
theorem dX9_tells_6 : decode cX9_tells 6 = .ok (.iaload, 1) := by decide +kernel
theorem dX9_tells_7 : decode cX9_tells 7 = .ok (.bipush 48, 2) := by decide +kernel
theorem dX9_tells_9 : decode cX9_tells 9 = .ok (.if_icmp .ne 48, 3) := by decide +kernel
theorem dX9_tells_12 : decode cX9_tells 12 = .ok (.iconst 0, 1) := by decide +kernel
theorem dX9_tells_13 : decode cX9_tells 13 = .ok (.istore_n 2, 1) := by decide +kernel
theorem dX9_tells_14 : decode cX9_tells 14 = .ok (.iload_n 2, 1) := by decide +kernel
theorem dX9_tells_15 : decode cX9_tells 15 = .ok (.bipush 47, 2) := by decide +kernel
theorem dX9_tells_17 : decode cX9_tells 17 = .ok (.if_icmp .ge 29, 3) := by decide +kernel
theorem dX9_tells_20 : decode cX9_tells 20 = .ok (.aload_n 0, 1) := by decide +kernel
theorem dX9_tells_21 : decode cX9_tells 21 = .ok (.getfield 7, 3) := by decide +kernel
theorem dX9_tells_24 : decode cX9_tells 24 = .ok (.bipush 47, 2) := by decide +kernel
theorem dX9_tells_26 : decode cX9_tells 26 = .ok (.iload_n 2, 1) := by decide +kernel
theorem dX9_tells_27 : decode cX9_tells 27 = .ok (.iadd, 1) := by decide +kernel
theorem dX9_tells_28 : decode cX9_tells 28 = .ok (.aload_n 0, 1) := by decide +kernel
theorem dX9_tells_29 : decode cX9_tells 29 = .ok (.getfield 7, 3) := by decide +kernel
theorem dX9_tells_32 : decode cX9_tells 32 = .ok (.bipush 47, 2) := by decide +kernel
theorem dX9_tells_34 : decode cX9_tells 34 = .ok (.iload_n 2, 1) := by decide +kernel
theorem dX9_tells_35 : decode cX9_tells 35 = .ok (.iadd, 1) := by decide +kernel
theorem dX9_tells_36 : decode cX9_tells 36 = .ok (.iconst 1, 1) := by decide +kernel
theorem dX9_tells_37 : decode cX9_tells 37 = .ok (.iadd, 1) := by decide +kernel
theorem dX9_tells_38 : decode cX9_tells 38 = .ok (.iaload, 1) := by decide +kernel
theorem dX9_tells_39 : decode cX9_tells 39 = .ok (.iastore, 1) := by decide +kernel
theorem dX9_tells_40 : decode cX9_tells 40 = .ok (.iinc 2 1, 3) := by decide +kernel
theorem dX9_tells_43 : decode cX9_tells 43 = .ok (.goto (-29), 3) := by decide +kernel
theorem dX9_tells_46 : decode cX9_tells 46 = .ok (.aload_n 0, 1) := by decide +kernel
theorem dX9_tells_47 : decode cX9_tells 47 = .ok (.getfield 7, 3) := by decide +kernel
theorem dX9_tells_50 : decode cX9_tells 50 = .ok (.bipush 23, 2) := by decide +kernel
theorem dX9_tells_52 : decode cX9_tells 52 = .ok (.dup2, 1) := by decide +kernel
theorem dX9_tells_53 : decode cX9_tells 53 = .ok (.iaload, 1) := by decide +kernel
theorem dX9_tells_54 : decode cX9_tells 54 = .ok (.iconst 1, 1) := by decide +kernel
theorem dX9_tells_55 : decode cX9_tells 55 = .ok (.isub, 1) := by decide +kernel
theorem dX9_tells_56 : decode cX9_tells 56 = .ok (.iastore, 1) := by decide +kernel
theorem dX9_tells_57 : decode cX9_tells 57 = .ok (.aload_n 0, 1) := by decide +kernel
theorem dX9_tells_58 : decode cX9_tells 58 = .ok (.getfield 7, 3) := by decide +kernel
theorem dX9_tells_61 : decode cX9_tells 61 = .ok (.bipush 47, 2) := by decide +kernel
theorem dX9_tells_63 : decode cX9_tells 63 = .ok (.aload_n 0, 1) := by decide +kernel
theorem dX9_tells_64 : decode cX9_tells 64 = .ok (.getfield 7, 3) := by decide +kernel
theorem dX9_tells_67 : decode cX9_tells 67 = .ok (.bipush 23, 2) := by decide +kernel
theorem dX9_tells_69 : decode cX9_tells 69 = .ok (.iaload, 1) := by decide +kernel
theorem dX9_tells_70 : decode cX9_tells 70 = .ok (.iadd, 1) := by decide +kernel
theorem dX9_tells_71 : decode cX9_tells 71 = .ok (.iload_n 1, 1) := by decide +kernel
theorem dX9_tells_72 : decode cX9_tells 72 = .ok (.iastore, 1) := by decide +kernel
theorem dX9_tells_73 : decode cX9_tells 73 = .ok (.aload_n 0, 1) := by decide +kernel
theorem dX9_tells_74 : decode cX9_tells 74 = .ok (.getfield 7, 3) := by decide +kernel
theorem dX9_tells_77 : decode cX9_tells 77 = .ok (.bipush 23, 2) := by decide +kernel
theorem dX9_tells_79 : decode cX9_tells 79 = .ok (.dup2, 1) := by decide +kernel
theorem dX9_tells_80 : decode cX9_tells 80 = .ok (.iaload, 1) := by decide +kernel
theorem dX9_tells_81 : decode cX9_tells 81 = .ok (.iconst 1, 1) := by decide +kernel
theorem dX9_tells_82 : decode cX9_tells 82 = .ok (.iadd, 1) := by decide +kernel
theorem dX9_tells_83 : decode cX9_tells 83 = .ok (.iastore, 1) := by decide +kernel
theorem dX9_tells_84 : decode cX9_tells 84 = .ok (.aload_n 0, 1) := by decide +kernel
theorem dX9_tells_85 : decode cX9_tells 85 = .ok (.getfield 7, 3) := by decide +kernel
theorem dX9_tells_88 : decode cX9_tells 88 = .ok (.bipush 23, 2) := by decide +kernel
theorem dX9_tells_90 : decode cX9_tells 90 = .ok (.iaload, 1) := by decide +kernel
theorem dX9_tells_91 : decode cX9_tells 91 = .ok (.bipush 48, 2) := by decide +kernel
theorem dX9_tells_93 : decode cX9_tells 93 = .ok (.if_icmp .ge 4, 3) := by decide +kernel
theorem dX9_tells_96 : decode cX9_tells 96 = .ok (.return_, 1) := by decide +kernel
theorem dX9_tells_97 : decode cX9_tells 97 = .ok (.aload_n 0, 1) := by decide +kernel
theorem dX9_tells_98 : decode cX9_tells 98 = .ok (.bipush 32, 2) := by decide +kernel
theorem dX9_tells_100 : decode cX9_tells 100 = .ok (.iconst 1, 1) := by decide +kernel
theorem dX9_tells_101 : decode cX9_tells 101 = .ok (.invokevirtual 105, 3) := by decide +kernel
theorem dX9_tells_104 : decode cX9_tells 104 = .ok (.istore_n 2, 1) := by decide +kernel
theorem dX9_tells_105 : decode cX9_tells 105 = .ok (.iload_n 2, 1) := by decide +kernel
theorem dX9_tells_106 : decode cX9_tells 106 = .ok (.ifCond .ne 12, 3) := by decide +kernel
theorem dX9_tells_109 : decode cX9_tells 109 = .ok (.aload_n 0, 1) := by decide +kernel
theorem dX9_tells_110 : decode cX9_tells 110 = .ok (.iconst 0, 1) := by decide +kernel
theorem dX9_tells_111 : decode cX9_tells 111 = .ok (.iconst 0, 1) := by decide +kernel
theorem dX9_tells_112 : decode cX9_tells 112 = .ok (.invokevirtual 105, 3) := by decide +kernel
theorem dX9_tells_115 : decode cX9_tells 115 = .ok (.ifCond .eq 71, 3) := by decide +kernel
theorem dX9_tells_118 : decode cX9_tells 118 = .ok (.iconst 0, 1) := by decide +kernel
theorem dX9_tells_119 : decode cX9_tells 119 = .ok (.istore_n 3, 1) := by decide +kernel
theorem dX9_tells_120 : decode cX9_tells 120 = .ok (.iconst 0, 1) := by decide +kernel
theorem dX9_tells_121 : decode cX9_tells 121 = .ok (.istore 4, 2) := by decide +kernel
theorem dX9_tells_123 : decode cX9_tells 123 = .ok (.iload 4, 2) := by decide +kernel
theorem dX9_tells_125 : decode cX9_tells 125 = .ok (.bipush 32, 2) := by decide +kernel
theorem dX9_tells_127 : decode cX9_tells 127 = .ok (.if_icmp .ge 37, 3) := by decide +kernel
theorem dX9_tells_130 : decode cX9_tells 130 = .ok (.iload_n 3, 1) := by decide +kernel
theorem dX9_tells_131 : decode cX9_tells 131 = .ok (.aload_n 0, 1) := by decide +kernel
theorem dX9_tells_132 : decode cX9_tells 132 = .ok (.getfield 7, 3) := by decide +kernel
theorem dX9_tells_135 : decode cX9_tells 135 = .ok (.bipush 47, 2) := by decide +kernel
theorem dX9_tells_137 : decode cX9_tells 137 = .ok (.iload_n 2, 1) := by decide +kernel
theorem dX9_tells_138 : decode cX9_tells 138 = .ok (.ifCond .eq 8, 3) := by decide +kernel
theorem dX9_tells_141 : decode cX9_tells 141 = .ok (.iload 4, 2) := by decide +kernel
theorem dX9_tells_143 : decode cX9_tells 143 = .ok (.goto 8, 3) := by decide +kernel
theorem dX9_tells_146 : decode cX9_tells 146 = .ok (.bipush 47, 2) := by decide +kernel
theorem dX9_tells_148 : decode cX9_tells 148 = .ok (.iload 4, 2) := by decide +kernel
theorem dX9_tells_150 : decode cX9_tells 150 = .ok (.isub, 1) := by decide +kernel
theorem dX9_tells_151 : decode cX9_tells 151 = .ok (.iadd, 1) := by decide +kernel
theorem dX9_tells_152 : decode cX9_tells 152 = .ok (.iaload, 1) := by decide +kernel
theorem dX9_tells_153 : decode cX9_tells 153 = .ok (.iload 4, 2) := by decide +kernel
theorem dX9_tells_155 : decode cX9_tells 155 = .ok (.ishl, 1) := by decide +kernel
theorem dX9_tells_156 : decode cX9_tells 156 = .ok (.ior, 1) := by decide +kernel
theorem dX9_tells_157 : decode cX9_tells 157 = .ok (.istore_n 3, 1) := by decide +kernel
theorem dX9_tells_158 : decode cX9_tells 158 = .ok (.iinc 4 1, 3) := by decide +kernel
theorem dX9_tells_161 : decode cX9_tells 161 = .ok (.goto (-38), 3) := by decide +kernel
theorem dX9_tells_164 : decode cX9_tells 164 = .ok (.aload_n 0, 1) := by decide +kernel
theorem dX9_tells_165 : decode cX9_tells 165 = .ok (.getfield 7, 3) := by decide +kernel
theorem dX9_tells_168 : decode cX9_tells 168 = .ok (.bipush 23, 2) := by decide +kernel
theorem dX9_tells_170 : decode cX9_tells 170 = .ok (.iconst 0, 1) := by decide +kernel
theorem dX9_tells_171 : decode cX9_tells 171 = .ok (.iastore, 1) := by decide +kernel
theorem dX9_tells_172 : decode cX9_tells 172 = .ok (.aload_n 0, 1) := by decide +kernel
theorem dX9_tells_173 : decode cX9_tells 173 = .ok (.iload_n 3, 1) := by decide +kernel
theorem dX9_tells_174 : decode cX9_tells 174 = .ok (.iload_n 2, 1) := by decide +kernel
theorem dX9_tells_175 : decode cX9_tells 175 = .ok (.ifCond .eq 7, 3) := by decide +kernel
theorem dX9_tells_178 : decode cX9_tells 178 = .ok (.iconst 1, 1) := by decide +kernel
theorem dX9_tells_179 : decode cX9_tells 179 = .ok (.goto 4, 3) := by decide +kernel
theorem dX9_tells_182 : decode cX9_tells 182 = .ok (.iconst (-1), 1) := by decide +kernel
theorem dX9_tells_183 : decode cX9_tells 183 = .ok (.invokevirtual 109, 3) := by decide +kernel
theorem dX9_tells_186 : decode cX9_tells 186 = .ok (.return_, 1) := by decide +kernel
theorem dX9_areFigures_0 : decode cX9_areFigures 0 = .ok (.iload_n 0, 1) := by decide +kernel
theorem dX9_areFigures_1 : decode cX9_areFigures 1 = .ok (.bipush 15, 2) := by decide +kernel
theorem dX9_areFigures_3 : decode cX9_areFigures 3 = .ok (.iand, 1) := by decide +kernel
theorem dX9_areFigures_4 : decode cX9_areFigures 4 = .ok (.bipush 10, 2) := by decide +kernel
theorem dX9_areFigures_6 : decode cX9_areFigures 6 = .ok (.if_icmp .ge 43, 3) := by decide +kernel
theorem dX9_areFigures_9 : decode cX9_areFigures 9 = .ok (.iload_n 0, 1) := by decide +kernel
theorem dX9_areFigures_10 : decode cX9_areFigures 10 = .ok (.bipush 6, 2) := by decide +kernel
theorem dX9_areFigures_12 : decode cX9_areFigures 12 = .ok (.iushr, 1) := by decide +kernel
theorem dX9_areFigures_13 : decode cX9_areFigures 13 = .ok (.bipush 15, 2) := by decide +kernel
theorem dX9_areFigures_15 : decode cX9_areFigures 15 = .ok (.iand, 1) := by decide +kernel
theorem dX9_areFigures_16 : decode cX9_areFigures 16 = .ok (.bipush 10, 2) := by decide +kernel
theorem dX9_areFigures_18 : decode cX9_areFigures 18 = .ok (.if_icmp .ge 31, 3) := by decide +kernel
theorem dX9_areFigures_21 : decode cX9_areFigures 21 = .ok (.iload_n 0, 1) := by decide +kernel
theorem dX9_areFigures_22 : decode cX9_areFigures 22 = .ok (.bipush 13, 2) := by decide +kernel
theorem dX9_areFigures_24 : decode cX9_areFigures 24 = .ok (.iushr, 1) := by decide +kernel
theorem dX9_areFigures_25 : decode cX9_areFigures 25 = .ok (.bipush 15, 2) := by decide +kernel
theorem dX9_areFigures_27 : decode cX9_areFigures 27 = .ok (.iand, 1) := by decide +kernel
theorem dX9_areFigures_28 : decode cX9_areFigures 28 = .ok (.bipush 10, 2) := by decide +kernel
theorem dX9_areFigures_30 : decode cX9_areFigures 30 = .ok (.if_icmp .ge 19, 3) := by decide +kernel
theorem dX9_areFigures_33 : decode cX9_areFigures 33 = .ok (.iload_n 0, 1) := by decide +kernel
theorem dX9_areFigures_34 : decode cX9_areFigures 34 = .ok (.bipush 20, 2) := by decide +kernel
theorem dX9_areFigures_36 : decode cX9_areFigures 36 = .ok (.iushr, 1) := by decide +kernel
theorem dX9_areFigures_37 : decode cX9_areFigures 37 = .ok (.bipush 15, 2) := by decide +kernel
theorem dX9_areFigures_39 : decode cX9_areFigures 39 = .ok (.iand, 1) := by decide +kernel
theorem dX9_areFigures_40 : decode cX9_areFigures 40 = .ok (.bipush 10, 2) := by decide +kernel
theorem dX9_areFigures_42 : decode cX9_areFigures 42 = .ok (.if_icmp .ge 7, 3) := by decide +kernel
theorem dX9_areFigures_45 : decode cX9_areFigures 45 = .ok (.iconst 1, 1) := by decide +kernel
theorem dX9_areFigures_46 : decode cX9_areFigures 46 = .ok (.goto 4, 3) := by decide +kernel
theorem dX9_areFigures_49 : decode cX9_areFigures 49 = .ok (.iconst 0, 1) := by decide +kernel
theorem dX9_areFigures_50 : decode cX9_areFigures 50 = .ok (.ireturn, 1) := by decide +kernel
theorem dX9_two_0 : decode cX9_two 0 = .ok (.iload_n 0, 1) := by decide +kernel
theorem dX9_two_1 : decode cX9_two 1 = .ok (.iload_n 1, 1) := by decide +kernel
theorem dX9_two_2 : decode cX9_two 2 = .ok (.iushr, 1) := by decide +kernel
theorem dX9_two_3 : decode cX9_two 3 = .ok (.bipush 15, 2) := by decide +kernel
theorem dX9_two_5 : decode cX9_two 5 = .ok (.iand, 1) := by decide +kernel
theorem dX9_two_6 : decode cX9_two 6 = .ok (.bipush 10, 2) := by decide +kernel
theorem dX9_two_8 : decode cX9_two 8 = .ok (.iload_n 0, 1) := by decide +kernel
theorem dX9_two_9 : decode cX9_two 9 = .ok (.iload_n 1, 1) := by decide +kernel
theorem dX9_two_10 : decode cX9_two 10 = .ok (.iconst 4, 1) := by decide +kernel
theorem dX9_two_11 : decode cX9_two 11 = .ok (.iadd, 1) := by decide +kernel
theorem dX9_two_12 : decode cX9_two 12 = .ok (.iushr, 1) := by decide +kernel
theorem dX9_two_13 : decode cX9_two 13 = .ok (.iload_n 2, 1) := by decide +kernel
theorem dX9_two_14 : decode cX9_two 14 = .ok (.iand, 1) := by decide +kernel
theorem dX9_two_15 : decode cX9_two 15 = .ok (.imul, 1) := by decide +kernel
theorem dX9_two_16 : decode cX9_two 16 = .ok (.iadd, 1) := by decide +kernel
theorem dX9_two_17 : decode cX9_two 17 = .ok (.ireturn, 1) := by decide +kernel
theorem dX9_finds_0 : decode cX9_finds 0 = .ok (.ldc 54, 2) := by decide +kernel
theorem dX9_finds_2 : decode cX9_finds 2 = .ok (.iload_n 1, 1) := by decide +kernel
theorem dX9_finds_3 : decode cX9_finds 3 = .ok (.bipush 20, 2) := by decide +kernel
theorem dX9_finds_5 : decode cX9_finds 5 = .ok (.iconst 3, 1) := by decide +kernel
theorem dX9_finds_6 : decode cX9_finds 6 = .ok (.invokestatic 113, 3) := by decide +kernel
theorem dX9_finds_9 : decode cX9_finds 9 = .ok (.imul, 1) := by decide +kernel
theorem dX9_finds_10 : decode cX9_finds 10 = .ok (.sipush 10000, 3) := by decide +kernel
theorem dX9_finds_13 : decode cX9_finds 13 = .ok (.iload_n 1, 1) := by decide +kernel
theorem dX9_finds_14 : decode cX9_finds 14 = .ok (.bipush 13, 2) := by decide +kernel
theorem dX9_finds_16 : decode cX9_finds 16 = .ok (.bipush 7, 2) := by decide +kernel
theorem dX9_finds_18 : decode cX9_finds 18 = .ok (.invokestatic 113, 3) := by decide +kernel
theorem dX9_finds_21 : decode cX9_finds 21 = .ok (.imul, 1) := by decide +kernel
theorem dX9_finds_22 : decode cX9_finds 22 = .ok (.iadd, 1) := by decide +kernel
theorem dX9_finds_23 : decode cX9_finds 23 = .ok (.bipush 100, 2) := by decide +kernel
theorem dX9_finds_25 : decode cX9_finds 25 = .ok (.iload_n 1, 1) := by decide +kernel
theorem dX9_finds_26 : decode cX9_finds 26 = .ok (.bipush 6, 2) := by decide +kernel
theorem dX9_finds_28 : decode cX9_finds 28 = .ok (.bipush 7, 2) := by decide +kernel
theorem dX9_finds_30 : decode cX9_finds 30 = .ok (.invokestatic 113, 3) := by decide +kernel
theorem dX9_finds_33 : decode cX9_finds 33 = .ok (.imul, 1) := by decide +kernel
theorem dX9_finds_34 : decode cX9_finds 34 = .ok (.iadd, 1) := by decide +kernel
theorem dX9_finds_35 : decode cX9_finds 35 = .ok (.iload_n 1, 1) := by decide +kernel
theorem dX9_finds_36 : decode cX9_finds 36 = .ok (.iconst 0, 1) := by decide +kernel
theorem dX9_finds_37 : decode cX9_finds 37 = .ok (.iconst 3, 1) := by decide +kernel
theorem dX9_finds_38 : decode cX9_finds 38 = .ok (.invokestatic 113, 3) := by decide +kernel
theorem dX9_finds_41 : decode cX9_finds 41 = .ok (.iadd, 1) := by decide +kernel
theorem dX9_finds_42 : decode cX9_finds 42 = .ok (.istore_n 3, 1) := by decide +kernel
theorem dX9_finds_43 : decode cX9_finds 43 = .ok (.iload_n 1, 1) := by decide +kernel
theorem dX9_finds_44 : decode cX9_finds 44 = .ok (.invokestatic 82, 3) := by decide +kernel
theorem dX9_finds_47 : decode cX9_finds 47 = .ok (.ifCond .eq 38, 3) := by decide +kernel
theorem dX9_finds_50 : decode cX9_finds 50 = .ok (.iload_n 1, 1) := by decide +kernel
theorem dX9_finds_51 : decode cX9_finds 51 = .ok (.bipush 26, 2) := by decide +kernel
theorem dX9_finds_53 : decode cX9_finds 53 = .ok (.iushr, 1) := by decide +kernel
theorem dX9_finds_54 : decode cX9_finds 54 = .ok (.iconst 1, 1) := by decide +kernel
theorem dX9_finds_55 : decode cX9_finds 55 = .ok (.iand, 1) := by decide +kernel
theorem dX9_finds_56 : decode cX9_finds 56 = .ok (.aload_n 0, 1) := by decide +kernel
theorem dX9_finds_57 : decode cX9_finds 57 = .ok (.getfield 7, 3) := by decide +kernel
theorem dX9_finds_60 : decode cX9_finds 60 = .ok (.iconst 0, 1) := by decide +kernel
theorem dX9_finds_61 : decode cX9_finds 61 = .ok (.iaload, 1) := by decide +kernel
theorem dX9_finds_62 : decode cX9_finds 62 = .ok (.iconst 3, 1) := by decide +kernel
theorem dX9_finds_63 : decode cX9_finds 63 = .ok (.if_icmp .ne 7, 3) := by decide +kernel
theorem dX9_finds_66 : decode cX9_finds 66 = .ok (.iconst 1, 1) := by decide +kernel
theorem dX9_finds_67 : decode cX9_finds 67 = .ok (.goto 4, 3) := by decide +kernel
theorem dX9_finds_70 : decode cX9_finds 70 = .ok (.iconst 0, 1) := by decide +kernel
theorem dX9_finds_71 : decode cX9_finds 71 = .ok (.if_icmp .ne 14, 3) := by decide +kernel
theorem dX9_finds_74 : decode cX9_finds 74 = .ok (.iload_n 1, 1) := by decide +kernel
theorem dX9_finds_75 : decode cX9_finds 75 = .ok (.invokestatic 117, 3) := by decide +kernel
theorem dX9_finds_78 : decode cX9_finds 78 = .ok (.ifCond .eq 7, 3) := by decide +kernel
theorem dX9_finds_81 : decode cX9_finds 81 = .ok (.iconst 1, 1) := by decide +kernel
theorem dX9_finds_82 : decode cX9_finds 82 = .ok (.goto 4, 3) := by decide +kernel
theorem dX9_finds_85 : decode cX9_finds 85 = .ok (.iconst 0, 1) := by decide +kernel
theorem dX9_finds_86 : decode cX9_finds 86 = .ok (.istore 4, 2) := by decide +kernel
theorem dX9_finds_88 : decode cX9_finds 88 = .ok (.iload 4, 2) := by decide +kernel
theorem dX9_finds_90 : decode cX9_finds 90 = .ok (.ifCond .eq 16, 3) := by decide +kernel
theorem dX9_finds_93 : decode cX9_finds 93 = .ok (.aload_n 0, 1) := by decide +kernel
theorem dX9_finds_94 : decode cX9_finds 94 = .ok (.getfield 7, 3) := by decide +kernel
theorem dX9_finds_97 : decode cX9_finds 97 = .ok (.iconst 0, 1) := by decide +kernel
theorem dX9_finds_98 : decode cX9_finds 98 = .ok (.iaload, 1) := by decide +kernel
theorem dX9_finds_99 : decode cX9_finds 99 = .ok (.iload_n 3, 1) := by decide +kernel
theorem dX9_finds_100 : decode cX9_finds 100 = .ok (.invokestatic 63, 3) := by decide +kernel
theorem dX9_finds_103 : decode cX9_finds 103 = .ok (.goto 5, 3) := by decide +kernel
theorem dX9_finds_106 : decode cX9_finds 106 = .ok (.bipush (-9), 2) := by decide +kernel
theorem dX9_finds_108 : decode cX9_finds 108 = .ok (.istore 5, 2) := by decide +kernel
theorem dX9_finds_110 : decode cX9_finds 110 = .ok (.iload 5, 2) := by decide +kernel
theorem dX9_finds_112 : decode cX9_finds 112 = .ok (.bipush (-9), 2) := by decide +kernel
theorem dX9_finds_114 : decode cX9_finds 114 = .ok (.if_icmp .ne 15, 3) := by decide +kernel
theorem dX9_finds_117 : decode cX9_finds 117 = .ok (.aload_n 0, 1) := by decide +kernel
theorem dX9_finds_118 : decode cX9_finds 118 = .ok (.getfield 7, 3) := by decide +kernel
theorem dX9_finds_121 : decode cX9_finds 121 = .ok (.bipush 25, 2) := by decide +kernel
theorem dX9_finds_123 : decode cX9_finds 123 = .ok (.dup2, 1) := by decide +kernel
theorem dX9_finds_124 : decode cX9_finds 124 = .ok (.iaload, 1) := by decide +kernel
theorem dX9_finds_125 : decode cX9_finds 125 = .ok (.iconst 1, 1) := by decide +kernel
theorem dX9_finds_126 : decode cX9_finds 126 = .ok (.iadd, 1) := by decide +kernel
theorem dX9_finds_127 : decode cX9_finds 127 = .ok (.iastore, 1) := by decide +kernel
theorem dX9_finds_128 : decode cX9_finds 128 = .ok (.return_, 1) := by decide +kernel
theorem dX9_finds_129 : decode cX9_finds 129 = .ok (.aload_n 0, 1) := by decide +kernel
theorem dX9_finds_130 : decode cX9_finds 130 = .ok (.getfield 7, 3) := by decide +kernel
theorem dX9_finds_133 : decode cX9_finds 133 = .ok (.bipush 24, 2) := by decide +kernel
theorem dX9_finds_135 : decode cX9_finds 135 = .ok (.dup2, 1) := by decide +kernel
theorem dX9_finds_136 : decode cX9_finds 136 = .ok (.iaload, 1) := by decide +kernel
theorem dX9_finds_137 : decode cX9_finds 137 = .ok (.iconst 1, 1) := by decide +kernel
theorem dX9_finds_138 : decode cX9_finds 138 = .ok (.iadd, 1) := by decide +kernel
theorem dX9_finds_139 : decode cX9_finds 139 = .ok (.iastore, 1) := by decide +kernel
theorem dX9_finds_140 : decode cX9_finds 140 = .ok (.aload_n 0, 1) := by decide +kernel
theorem dX9_finds_141 : decode cX9_finds 141 = .ok (.getfield 7, 3) := by decide +kernel
theorem dX9_finds_144 : decode cX9_finds 144 = .ok (.bipush 29, 2) := by decide +kernel
theorem dX9_finds_146 : decode cX9_finds 146 = .ok (.iaload, 1) := by decide +kernel
theorem dX9_finds_147 : decode cX9_finds 147 = .ok (.iconst 1, 1) := by decide +kernel
theorem dX9_finds_148 : decode cX9_finds 148 = .ok (.if_icmp .ne 25, 3) := by decide +kernel
theorem dX9_finds_151 : decode cX9_finds 151 = .ok (.iload 5, 2) := by decide +kernel
theorem dX9_finds_153 : decode cX9_finds 153 = .ok (.aload_n 0, 1) := by decide +kernel
theorem dX9_finds_154 : decode cX9_finds 154 = .ok (.aload_n 0, 1) := by decide +kernel
theorem dX9_finds_155 : decode cX9_finds 155 = .ok (.getfield 7, 3) := by decide +kernel
theorem dX9_finds_158 : decode cX9_finds 158 = .ok (.bipush 30, 2) := by decide +kernel
theorem dX9_finds_160 : decode cX9_finds 160 = .ok (.iaload, 1) := by decide +kernel
theorem dX9_finds_161 : decode cX9_finds 161 = .ok (.iload_n 2, 1) := by decide +kernel
theorem dX9_finds_162 : decode cX9_finds 162 = .ok (.iadd, 1) := by decide +kernel
theorem dX9_finds_163 : decode cX9_finds 163 = .ok (.invokevirtual 72, 3) := by decide +kernel
theorem dX9_finds_166 : decode cX9_finds 166 = .ok (.if_icmp .ne 7, 3) := by decide +kernel
theorem dX9_finds_169 : decode cX9_finds 169 = .ok (.iconst 1, 1) := by decide +kernel
theorem dX9_finds_170 : decode cX9_finds 170 = .ok (.goto 4, 3) := by decide +kernel
theorem dX9_finds_173 : decode cX9_finds 173 = .ok (.iconst 0, 1) := by decide +kernel
theorem dX9_finds_174 : decode cX9_finds 174 = .ok (.istore 6, 2) := by decide +kernel
theorem dX9_finds_176 : decode cX9_finds 176 = .ok (.aload_n 0, 1) := by decide +kernel
theorem dX9_finds_177 : decode cX9_finds 177 = .ok (.getfield 7, 3) := by decide +kernel
theorem dX9_finds_180 : decode cX9_finds 180 = .ok (.bipush 27, 2) := by decide +kernel
theorem dX9_finds_182 : decode cX9_finds 182 = .ok (.dup2, 1) := by decide +kernel
theorem dX9_finds_183 : decode cX9_finds 183 = .ok (.iaload, 1) := by decide +kernel
theorem dX9_finds_184 : decode cX9_finds 184 = .ok (.aload_n 0, 1) := by decide +kernel
theorem dX9_finds_185 : decode cX9_finds 185 = .ok (.getfield 7, 3) := by decide +kernel
theorem dX9_finds_188 : decode cX9_finds 188 = .ok (.bipush 29, 2) := by decide +kernel
theorem dX9_finds_190 : decode cX9_finds 190 = .ok (.iaload, 1) := by decide +kernel
theorem dX9_finds_191 : decode cX9_finds 191 = .ok (.iconst 1, 1) := by decide +kernel
theorem dX9_finds_192 : decode cX9_finds 192 = .ok (.if_icmp .ne 12, 3) := by decide +kernel
theorem dX9_finds_195 : decode cX9_finds 195 = .ok (.iload 6, 2) := by decide +kernel
theorem dX9_finds_197 : decode cX9_finds 197 = .ok (.ifCond .ne 7, 3) := by decide +kernel
theorem dX9_finds_200 : decode cX9_finds 200 = .ok (.iconst 1, 1) := by decide +kernel
theorem dX9_finds_201 : decode cX9_finds 201 = .ok (.goto 4, 3) := by decide +kernel
theorem dX9_finds_204 : decode cX9_finds 204 = .ok (.iconst 0, 1) := by decide +kernel
theorem dX9_finds_205 : decode cX9_finds 205 = .ok (.iadd, 1) := by decide +kernel
theorem dX9_finds_206 : decode cX9_finds 206 = .ok (.iastore, 1) := by decide +kernel
theorem dX9_finds_207 : decode cX9_finds 207 = .ok (.aload_n 0, 1) := by decide +kernel
theorem dX9_finds_208 : decode cX9_finds 208 = .ok (.getfield 7, 3) := by decide +kernel
theorem dX9_finds_211 : decode cX9_finds 211 = .ok (.bipush 28, 2) := by decide +kernel
theorem dX9_finds_213 : decode cX9_finds 213 = .ok (.iload 6, 2) := by decide +kernel
theorem dX9_finds_215 : decode cX9_finds 215 = .ok (.ifCond .eq 15, 3) := by decide +kernel
theorem dX9_finds_218 : decode cX9_finds 218 = .ok (.aload_n 0, 1) := by decide +kernel
theorem dX9_finds_219 : decode cX9_finds 219 = .ok (.getfield 7, 3) := by decide +kernel
theorem dX9_finds_222 : decode cX9_finds 222 = .ok (.bipush 28, 2) := by decide +kernel
theorem dX9_finds_224 : decode cX9_finds 224 = .ok (.iaload, 1) := by decide +kernel
theorem dX9_finds_225 : decode cX9_finds 225 = .ok (.iconst 1, 1) := by decide +kernel
theorem dX9_finds_226 : decode cX9_finds 226 = .ok (.iadd, 1) := by decide +kernel
theorem dX9_finds_227 : decode cX9_finds 227 = .ok (.goto 4, 3) := by decide +kernel
theorem dX9_finds_230 : decode cX9_finds 230 = .ok (.iconst 1, 1) := by decide +kernel
theorem dX9_finds_231 : decode cX9_finds 231 = .ok (.iastore, 1) := by decide +kernel
theorem dX9_finds_232 : decode cX9_finds 232 = .ok (.aload_n 0, 1) := by decide +kernel
theorem dX9_finds_233 : decode cX9_finds 233 = .ok (.getfield 7, 3) := by decide +kernel
theorem dX9_finds_236 : decode cX9_finds 236 = .ok (.bipush 29, 2) := by decide +kernel
theorem dX9_finds_238 : decode cX9_finds 238 = .ok (.iconst 1, 1) := by decide +kernel
theorem dX9_finds_239 : decode cX9_finds 239 = .ok (.iastore, 1) := by decide +kernel
theorem dX9_finds_240 : decode cX9_finds 240 = .ok (.aload_n 0, 1) := by decide +kernel
theorem dX9_finds_241 : decode cX9_finds 241 = .ok (.getfield 7, 3) := by decide +kernel
theorem dX9_finds_244 : decode cX9_finds 244 = .ok (.bipush 30, 2) := by decide +kernel
theorem dX9_finds_246 : decode cX9_finds 246 = .ok (.iload 5, 2) := by decide +kernel
theorem dX9_finds_248 : decode cX9_finds 248 = .ok (.iastore, 1) := by decide +kernel
theorem dX9_finds_249 : decode cX9_finds 249 = .ok (.aload_n 0, 1) := by decide +kernel
theorem dX9_finds_250 : decode cX9_finds 250 = .ok (.getfield 7, 3) := by decide +kernel
theorem dX9_finds_253 : decode cX9_finds 253 = .ok (.bipush 31, 2) := by decide +kernel
theorem dX9_finds_255 : decode cX9_finds 255 = .ok (.iload_n 3, 1) := by decide +kernel
theorem dX9_finds_256 : decode cX9_finds 256 = .ok (.iastore, 1) := by decide +kernel
theorem dX9_finds_257 : decode cX9_finds 257 = .ok (.aload_n 0, 1) := by decide +kernel
theorem dX9_finds_258 : decode cX9_finds 258 = .ok (.getfield 7, 3) := by decide +kernel
theorem dX9_finds_261 : decode cX9_finds 261 = .ok (.bipush 32, 2) := by decide +kernel
theorem dX9_finds_263 : decode cX9_finds 263 = .ok (.iload_n 1, 1) := by decide +kernel
theorem dX9_finds_264 : decode cX9_finds 264 = .ok (.bipush 28, 2) := by decide +kernel
theorem dX9_finds_266 : decode cX9_finds 266 = .ok (.iushr, 1) := by decide +kernel
theorem dX9_finds_267 : decode cX9_finds 267 = .ok (.bipush 15, 2) := by decide +kernel
theorem dX9_finds_269 : decode cX9_finds 269 = .ok (.iand, 1) := by decide +kernel
theorem dX9_finds_270 : decode cX9_finds 270 = .ok (.iastore, 1) := by decide +kernel
theorem dX9_finds_271 : decode cX9_finds 271 = .ok (.aload_n 0, 1) := by decide +kernel
theorem dX9_finds_272 : decode cX9_finds 272 = .ok (.getfield 7, 3) := by decide +kernel
theorem dX9_finds_275 : decode cX9_finds 275 = .ok (.bipush 33, 2) := by decide +kernel
theorem dX9_finds_277 : decode cX9_finds 277 = .ok (.iload_n 2, 1) := by decide +kernel
theorem dX9_finds_278 : decode cX9_finds 278 = .ok (.iastore, 1) := by decide +kernel
theorem dX9_finds_279 : decode cX9_finds 279 = .ok (.aload_n 0, 1) := by decide +kernel
theorem dX9_finds_280 : decode cX9_finds 280 = .ok (.getfield 7, 3) := by decide +kernel
theorem dX9_finds_283 : decode cX9_finds 283 = .ok (.bipush 28, 2) := by decide +kernel
theorem dX9_finds_285 : decode cX9_finds 285 = .ok (.iaload, 1) := by decide +kernel
theorem dX9_finds_286 : decode cX9_finds 286 = .ok (.iconst 2, 1) := by decide +kernel
theorem dX9_finds_287 : decode cX9_finds 287 = .ok (.if_icmp .le 28, 3) := by decide +kernel
theorem dX9_finds_290 : decode cX9_finds 290 = .ok (.aload_n 0, 1) := by decide +kernel
theorem dX9_finds_291 : decode cX9_finds 291 = .ok (.getfield 7, 3) := by decide +kernel
theorem dX9_finds_294 : decode cX9_finds 294 = .ok (.bipush 34, 2) := by decide +kernel
theorem dX9_finds_296 : decode cX9_finds 296 = .ok (.iload 5, 2) := by decide +kernel
theorem dX9_finds_298 : decode cX9_finds 298 = .ok (.iastore, 1) := by decide +kernel
theorem dX9_finds_299 : decode cX9_finds 299 = .ok (.aload_n 0, 1) := by decide +kernel
theorem dX9_finds_300 : decode cX9_finds 300 = .ok (.getfield 7, 3) := by decide +kernel
theorem dX9_finds_303 : decode cX9_finds 303 = .ok (.bipush 35, 2) := by decide +kernel
theorem dX9_finds_305 : decode cX9_finds 305 = .ok (.iload_n 2, 1) := by decide +kernel
theorem dX9_finds_306 : decode cX9_finds 306 = .ok (.iastore, 1) := by decide +kernel
theorem dX9_finds_307 : decode cX9_finds 307 = .ok (.aload_n 0, 1) := by decide +kernel
theorem dX9_finds_308 : decode cX9_finds 308 = .ok (.getfield 7, 3) := by decide +kernel
theorem dX9_finds_311 : decode cX9_finds 311 = .ok (.bipush 36, 2) := by decide +kernel
theorem dX9_finds_313 : decode cX9_finds 313 = .ok (.iconst 0, 1) := by decide +kernel
theorem dX9_finds_314 : decode cX9_finds 314 = .ok (.iastore, 1) := by decide +kernel
theorem dX9_finds_315 : decode cX9_finds 315 = .ok (.return_, 1) := by decide +kernel
theorem dX9_edge_0 : decode cX9_edge 0 = .ok (.aload_n 0, 1) := by decide +kernel
theorem dX9_edge_1 : decode cX9_edge 1 = .ok (.iconst 0, 1) := by decide +kernel
theorem dX9_edge_2 : decode cX9_edge 2 = .ok (.putfield 29, 3) := by decide +kernel
theorem dX9_edge_5 : decode cX9_edge 5 = .ok (.iload_n 1, 1) := by decide +kernel
theorem dX9_edge_6 : decode cX9_edge 6 = .ok (.iconst 1, 1) := by decide +kernel
theorem dX9_edge_7 : decode cX9_edge 7 = .ok (.sipush 9999, 3) := by decide +kernel
theorem dX9_edge_10 : decode cX9_edge 10 = .ok (.invokestatic 46, 3) := by decide +kernel
theorem dX9_edge_13 : decode cX9_edge 13 = .ok (.ifCond .ne 5, 3) := by decide +kernel
theorem dX9_edge_16 : decode cX9_edge 16 = .ok (.iconst (-1), 1) := by decide +kernel
theorem dX9_edge_17 : decode cX9_edge 17 = .ok (.ireturn, 1) := by decide +kernel
theorem dX9_edge_18 : decode cX9_edge 18 = .ok (.aload_n 0, 1) := by decide +kernel
theorem dX9_edge_19 : decode cX9_edge 19 = .ok (.invokevirtual 69, 3) := by decide +kernel
theorem dX9_edge_22 : decode cX9_edge 22 = .ok (.aload_n 0, 1) := by decide +kernel
theorem dX9_edge_23 : decode cX9_edge 23 = .ok (.iload_n 1, 1) := by decide +kernel
theorem dX9_edge_24 : decode cX9_edge 24 = .ok (.invokevirtual 95, 3) := by decide +kernel
theorem dX9_edge_27 : decode cX9_edge 27 = .ok (.aload_n 0, 1) := by decide +kernel
theorem dX9_edge_28 : decode cX9_edge 28 = .ok (.getfield 7, 3) := by decide +kernel
theorem dX9_edge_31 : decode cX9_edge 31 = .ok (.bipush 23, 2) := by decide +kernel
theorem dX9_edge_33 : decode cX9_edge 33 = .ok (.iaload, 1) := by decide +kernel
theorem dX9_edge_34 : decode cX9_edge 34 = .ok (.ireturn, 1) := by decide +kernel
theorem dX9_begins_0 : decode cX9_begins 0 = .ok (.aload_n 0, 1) := by decide +kernel
theorem dX9_begins_1 : decode cX9_begins 1 = .ok (.iconst 0, 1) := by decide +kernel
theorem dX9_begins_2 : decode cX9_begins 2 = .ok (.putfield 29, 3) := by decide +kernel
theorem dX9_begins_5 : decode cX9_begins 5 = .ok (.aload_n 0, 1) := by decide +kernel
theorem dX9_begins_6 : decode cX9_begins 6 = .ok (.invokevirtual 69, 3) := by decide +kernel
theorem dX9_begins_9 : decode cX9_begins 9 = .ok (.aload_n 0, 1) := by decide +kernel
theorem dX9_begins_10 : decode cX9_begins 10 = .ok (.getfield 7, 3) := by decide +kernel
theorem dX9_begins_13 : decode cX9_begins 13 = .ok (.bipush 24, 2) := by decide +kernel
theorem dX9_begins_15 : decode cX9_begins 15 = .ok (.iaload, 1) := by decide +kernel
theorem dX9_begins_16 : decode cX9_begins 16 = .ok (.istore_n 1, 1) := by decide +kernel
theorem dX9_begins_17 : decode cX9_begins 17 = .ok (.aload_n 0, 1) := by decide +kernel
theorem dX9_begins_18 : decode cX9_begins 18 = .ok (.getfield 7, 3) := by decide +kernel
theorem dX9_begins_21 : decode cX9_begins 21 = .ok (.bipush 21, 2) := by decide +kernel
theorem dX9_begins_23 : decode cX9_begins 23 = .ok (.bipush 40, 2) := by decide +kernel
theorem dX9_begins_25 : decode cX9_begins 25 = .ok (.iastore, 1) := by decide +kernel
theorem dX9_begins_26 : decode cX9_begins 26 = .ok (.bipush 22, 2) := by decide +kernel
theorem dX9_begins_28 : decode cX9_begins 28 = .ok (.istore_n 2, 1) := by decide +kernel
theorem dX9_begins_29 : decode cX9_begins 29 = .ok (.iload_n 2, 1) := by decide +kernel
theorem dX9_begins_30 : decode cX9_begins 30 = .ok (.bipush 29, 2) := by decide +kernel
theorem dX9_begins_32 : decode cX9_begins 32 = .ok (.if_icmp .gt 16, 3) := by decide +kernel
theorem dX9_begins_35 : decode cX9_begins 35 = .ok (.aload_n 0, 1) := by decide +kernel
theorem dX9_begins_36 : decode cX9_begins 36 = .ok (.getfield 7, 3) := by decide +kernel
theorem dX9_begins_39 : decode cX9_begins 39 = .ok (.iload_n 2, 1) := by decide +kernel
theorem dX9_begins_40 : decode cX9_begins 40 = .ok (.iconst 0, 1) := by decide +kernel
theorem dX9_begins_41 : decode cX9_begins 41 = .ok (.iastore, 1) := by decide +kernel
theorem dX9_begins_42 : decode cX9_begins 42 = .ok (.iinc 2 1, 3) := by decide +kernel
theorem dX9_begins_45 : decode cX9_begins 45 = .ok (.goto (-16), 3) := by decide +kernel
theorem dX9_begins_48 : decode cX9_begins 48 = .ok (.iload_n 1, 1) := by decide +kernel
theorem dX9_begins_49 : decode cX9_begins 49 = .ok (.ireturn, 1) := by decide +kernel
theorem dX9_reader_0 : decode cX9_reader 0 = .ok (.aload_n 0, 1) := by decide +kernel
theorem dX9_reader_1 : decode cX9_reader 1 = .ok (.iconst 0, 1) := by decide +kernel
theorem dX9_reader_2 : decode cX9_reader 2 = .ok (.putfield 29, 3) := by decide +kernel
theorem dX9_reader_5 : decode cX9_reader 5 = .ok (.iload_n 1, 1) := by decide +kernel
theorem dX9_reader_6 : decode cX9_reader 6 = .ok (.iconst 0, 1) := by decide +kernel
theorem dX9_reader_7 : decode cX9_reader 7 = .ok (.bipush 7, 2) := by decide +kernel
theorem dX9_reader_9 : decode cX9_reader 9 = .ok (.invokestatic 46, 3) := by decide +kernel
theorem dX9_reader_12 : decode cX9_reader 12 = .ok (.ifCond .eq 15, 3) := by decide +kernel
theorem dX9_reader_15 : decode cX9_reader 15 = .ok (.aload_n 0, 1) := by decide +kernel
theorem dX9_reader_16 : decode cX9_reader 16 = .ok (.getfield 7, 3) := by decide +kernel
theorem dX9_reader_19 : decode cX9_reader 19 = .ok (.bipush 21, 2) := by decide +kernel
theorem dX9_reader_21 : decode cX9_reader 21 = .ok (.iload_n 1, 1) := by decide +kernel
theorem dX9_reader_22 : decode cX9_reader 22 = .ok (.iadd, 1) := by decide +kernel
theorem dX9_reader_23 : decode cX9_reader 23 = .ok (.iaload, 1) := by decide +kernel
theorem dX9_reader_24 : decode cX9_reader 24 = .ok (.goto 4, 3) := by decide +kernel
theorem dX9_reader_27 : decode cX9_reader 27 = .ok (.iconst (-1), 1) := by decide +kernel
theorem dX9_reader_28 : decode cX9_reader 28 = .ok (.ireturn, 1) := by decide +kernel
theorem dX9_reading_0 : decode cX9_reading 0 = .ok (.aload_n 0, 1) := by decide +kernel
theorem dX9_reading_1 : decode cX9_reading 1 = .ok (.iconst 0, 1) := by decide +kernel
theorem dX9_reading_2 : decode cX9_reading 2 = .ok (.putfield 29, 3) := by decide +kernel
theorem dX9_reading_5 : decode cX9_reading 5 = .ok (.iload_n 1, 1) := by decide +kernel
theorem dX9_reading_6 : decode cX9_reading 6 = .ok (.iconst 0, 1) := by decide +kernel
theorem dX9_reading_7 : decode cX9_reading 7 = .ok (.iconst 3, 1) := by decide +kernel
theorem dX9_reading_8 : decode cX9_reading 8 = .ok (.invokestatic 46, 3) := by decide +kernel
theorem dX9_reading_11 : decode cX9_reading 11 = .ok (.ifCond .ne 8, 3) := by decide +kernel
theorem dX9_reading_14 : decode cX9_reading 14 = .ok (.ldc 120, 2) := by decide +kernel
theorem dX9_reading_16 : decode cX9_reading 16 = .ok (.goto 27, 3) := by decide +kernel
theorem dX9_reading_19 : decode cX9_reading 19 = .ok (.aload_n 0, 1) := by decide +kernel
theorem dX9_reading_20 : decode cX9_reading 20 = .ok (.getfield 7, 3) := by decide +kernel
theorem dX9_reading_23 : decode cX9_reading 23 = .ok (.bipush 29, 2) := by decide +kernel
theorem dX9_reading_25 : decode cX9_reading 25 = .ok (.iaload, 1) := by decide +kernel
theorem dX9_reading_26 : decode cX9_reading 26 = .ok (.ifCond .ne 8, 3) := by decide +kernel
theorem dX9_reading_29 : decode cX9_reading 29 = .ok (.bipush (-9), 2) := by decide +kernel
theorem dX9_reading_31 : decode cX9_reading 31 = .ok (.goto 12, 3) := by decide +kernel
theorem dX9_reading_34 : decode cX9_reading 34 = .ok (.aload_n 0, 1) := by decide +kernel
theorem dX9_reading_35 : decode cX9_reading 35 = .ok (.getfield 7, 3) := by decide +kernel
theorem dX9_reading_38 : decode cX9_reading 38 = .ok (.bipush 30, 2) := by decide +kernel
theorem dX9_reading_40 : decode cX9_reading 40 = .ok (.iload_n 1, 1) := by decide +kernel
theorem dX9_reading_41 : decode cX9_reading 41 = .ok (.iadd, 1) := by decide +kernel
theorem dX9_reading_42 : decode cX9_reading 42 = .ok (.iaload, 1) := by decide +kernel
theorem dX9_reading_43 : decode cX9_reading 43 = .ok (.ireturn, 1) := by decide +kernel
theorem dX9_isLocked_0 : decode cX9_isLocked 0 = .ok (.aload_n 0, 1) := by decide +kernel
theorem dX9_isLocked_1 : decode cX9_isLocked 1 = .ok (.getfield 7, 3) := by decide +kernel
theorem dX9_isLocked_4 : decode cX9_isLocked 4 = .ok (.bipush 28, 2) := by decide +kernel
theorem dX9_isLocked_6 : decode cX9_isLocked 6 = .ok (.iaload, 1) := by decide +kernel
theorem dX9_isLocked_7 : decode cX9_isLocked 7 = .ok (.iconst 2, 1) := by decide +kernel
theorem dX9_isLocked_8 : decode cX9_isLocked 8 = .ok (.if_icmp .le 7, 3) := by decide +kernel
theorem dX9_isLocked_11 : decode cX9_isLocked 11 = .ok (.iconst 1, 1) := by decide +kernel
theorem dX9_isLocked_12 : decode cX9_isLocked 12 = .ok (.goto 4, 3) := by decide +kernel
theorem dX9_isLocked_15 : decode cX9_isLocked 15 = .ok (.iconst 0, 1) := by decide +kernel
theorem dX9_isLocked_16 : decode cX9_isLocked 16 = .ok (.ireturn, 1) := by decide +kernel
theorem dX9_misses_0 : decode cX9_misses 0 = .ok (.aload_n 0, 1) := by decide +kernel
theorem dX9_misses_1 : decode cX9_misses 1 = .ok (.iconst 0, 1) := by decide +kernel
theorem dX9_misses_2 : decode cX9_misses 2 = .ok (.putfield 29, 3) := by decide +kernel
theorem dX9_misses_5 : decode cX9_misses 5 = .ok (.aload_n 0, 1) := by decide +kernel
theorem dX9_misses_6 : decode cX9_misses 6 = .ok (.invokevirtual 69, 3) := by decide +kernel
theorem dX9_misses_9 : decode cX9_misses 9 = .ok (.aload_n 0, 1) := by decide +kernel
theorem dX9_misses_10 : decode cX9_misses 10 = .ok (.invokevirtual 121, 3) := by decide +kernel
theorem dX9_misses_13 : decode cX9_misses 13 = .ok (.ifCond .eq 60, 3) := by decide +kernel
theorem dX9_misses_16 : decode cX9_misses 16 = .ok (.aload_n 0, 1) := by decide +kernel
theorem dX9_misses_17 : decode cX9_misses 17 = .ok (.getfield 7, 3) := by decide +kernel
theorem dX9_misses_20 : decode cX9_misses 20 = .ok (.bipush 36, 2) := by decide +kernel
theorem dX9_misses_22 : decode cX9_misses 22 = .ok (.iaload, 1) := by decide +kernel
theorem dX9_misses_23 : decode cX9_misses 23 = .ok (.aload_n 0, 1) := by decide +kernel
theorem dX9_misses_24 : decode cX9_misses 24 = .ok (.getfield 7, 3) := by decide +kernel
theorem dX9_misses_27 : decode cX9_misses 27 = .ok (.bipush 37, 2) := by decide +kernel
theorem dX9_misses_29 : decode cX9_misses 29 = .ok (.iaload, 1) := by decide +kernel
theorem dX9_misses_30 : decode cX9_misses 30 = .ok (.if_icmp .ge 43, 3) := by decide +kernel
theorem dX9_misses_33 : decode cX9_misses 33 = .ok (.aload_n 0, 1) := by decide +kernel
theorem dX9_misses_34 : decode cX9_misses 34 = .ok (.getfield 7, 3) := by decide +kernel
theorem dX9_misses_37 : decode cX9_misses 37 = .ok (.bipush 36, 2) := by decide +kernel
theorem dX9_misses_39 : decode cX9_misses 39 = .ok (.dup2, 1) := by decide +kernel
theorem dX9_misses_40 : decode cX9_misses 40 = .ok (.iaload, 1) := by decide +kernel
theorem dX9_misses_41 : decode cX9_misses 41 = .ok (.iconst 1, 1) := by decide +kernel
theorem dX9_misses_42 : decode cX9_misses 42 = .ok (.iadd, 1) := by decide +kernel
theorem dX9_misses_43 : decode cX9_misses 43 = .ok (.iastore, 1) := by decide +kernel
theorem dX9_misses_44 : decode cX9_misses 44 = .ok (.aload_n 0, 1) := by decide +kernel
theorem dX9_misses_45 : decode cX9_misses 45 = .ok (.getfield 7, 3) := by decide +kernel
theorem dX9_misses_48 : decode cX9_misses 48 = .ok (.bipush 34, 2) := by decide +kernel
theorem dX9_misses_50 : decode cX9_misses 50 = .ok (.aload_n 0, 1) := by decide +kernel
theorem dX9_misses_51 : decode cX9_misses 51 = .ok (.aload_n 0, 1) := by decide +kernel
theorem dX9_misses_52 : decode cX9_misses 52 = .ok (.getfield 7, 3) := by decide +kernel
theorem dX9_misses_55 : decode cX9_misses 55 = .ok (.bipush 34, 2) := by decide +kernel
theorem dX9_misses_57 : decode cX9_misses 57 = .ok (.iaload, 1) := by decide +kernel
theorem dX9_misses_58 : decode cX9_misses 58 = .ok (.aload_n 0, 1) := by decide +kernel
theorem dX9_misses_59 : decode cX9_misses 59 = .ok (.getfield 7, 3) := by decide +kernel
theorem dX9_misses_62 : decode cX9_misses 62 = .ok (.bipush 35, 2) := by decide +kernel
theorem dX9_misses_64 : decode cX9_misses 64 = .ok (.iaload, 1) := by decide +kernel
theorem dX9_misses_65 : decode cX9_misses 65 = .ok (.iadd, 1) := by decide +kernel
theorem dX9_misses_66 : decode cX9_misses 66 = .ok (.invokevirtual 72, 3) := by decide +kernel
theorem dX9_misses_69 : decode cX9_misses 69 = .ok (.iastore, 1) := by decide +kernel
theorem dX9_misses_70 : decode cX9_misses 70 = .ok (.goto 11, 3) := by decide +kernel
theorem dX9_misses_73 : decode cX9_misses 73 = .ok (.aload_n 0, 1) := by decide +kernel
theorem dX9_misses_74 : decode cX9_misses 74 = .ok (.getfield 7, 3) := by decide +kernel
theorem dX9_misses_77 : decode cX9_misses 77 = .ok (.bipush 28, 2) := by decide +kernel
theorem dX9_misses_79 : decode cX9_misses 79 = .ok (.iconst 0, 1) := by decide +kernel
theorem dX9_misses_80 : decode cX9_misses 80 = .ok (.iastore, 1) := by decide +kernel
theorem dX9_misses_81 : decode cX9_misses 81 = .ok (.aload_n 0, 1) := by decide +kernel
theorem dX9_misses_82 : decode cX9_misses 82 = .ok (.getfield 7, 3) := by decide +kernel
theorem dX9_misses_85 : decode cX9_misses 85 = .ok (.bipush 34, 2) := by decide +kernel
theorem dX9_misses_87 : decode cX9_misses 87 = .ok (.iaload, 1) := by decide +kernel
theorem dX9_misses_88 : decode cX9_misses 88 = .ok (.ireturn, 1) := by decide +kernel
theorem dX9_holds_0 : decode cX9_holds 0 = .ok (.aload_n 0, 1) := by decide +kernel
theorem dX9_holds_1 : decode cX9_holds 1 = .ok (.iconst 0, 1) := by decide +kernel
theorem dX9_holds_2 : decode cX9_holds 2 = .ok (.putfield 29, 3) := by decide +kernel
theorem dX9_holds_5 : decode cX9_holds 5 = .ok (.iload_n 1, 1) := by decide +kernel
theorem dX9_holds_6 : decode cX9_holds 6 = .ok (.iconst 0, 1) := by decide +kernel
theorem dX9_holds_7 : decode cX9_holds 7 = .ok (.bipush 99, 2) := by decide +kernel
theorem dX9_holds_9 : decode cX9_holds 9 = .ok (.invokestatic 46, 3) := by decide +kernel
theorem dX9_holds_12 : decode cX9_holds 12 = .ok (.ifCond .ne 5, 3) := by decide +kernel
theorem dX9_holds_15 : decode cX9_holds 15 = .ok (.iconst (-1), 1) := by decide +kernel
theorem dX9_holds_16 : decode cX9_holds 16 = .ok (.ireturn, 1) := by decide +kernel
theorem dX9_holds_17 : decode cX9_holds 17 = .ok (.aload_n 0, 1) := by decide +kernel
theorem dX9_holds_18 : decode cX9_holds 18 = .ok (.getfield 7, 3) := by decide +kernel
theorem dX9_holds_21 : decode cX9_holds 21 = .ok (.bipush 37, 2) := by decide +kernel
theorem dX9_holds_23 : decode cX9_holds 23 = .ok (.iaload, 1) := by decide +kernel
theorem dX9_holds_24 : decode cX9_holds 24 = .ok (.istore_n 2, 1) := by decide +kernel
theorem dX9_holds_25 : decode cX9_holds 25 = .ok (.iload_n 2, 1) := by decide +kernel
theorem dX9_holds_26 : decode cX9_holds 26 = .ok (.iload_n 1, 1) := by decide +kernel
theorem dX9_holds_27 : decode cX9_holds 27 = .ok (.if_icmp .ne 6, 3) := by decide +kernel
theorem dX9_holds_30 : decode cX9_holds 30 = .ok (.bipush (-2), 2) := by decide +kernel
theorem dX9_holds_32 : decode cX9_holds 32 = .ok (.ireturn, 1) := by decide +kernel
theorem dX9_holds_33 : decode cX9_holds 33 = .ok (.aload_n 0, 1) := by decide +kernel
theorem dX9_holds_34 : decode cX9_holds 34 = .ok (.invokevirtual 69, 3) := by decide +kernel
theorem dX9_holds_37 : decode cX9_holds 37 = .ok (.aload_n 0, 1) := by decide +kernel
theorem dX9_holds_38 : decode cX9_holds 38 = .ok (.getfield 7, 3) := by decide +kernel
theorem dX9_holds_41 : decode cX9_holds 41 = .ok (.bipush 37, 2) := by decide +kernel
theorem dX9_holds_43 : decode cX9_holds 43 = .ok (.iload_n 1, 1) := by decide +kernel
theorem dX9_holds_44 : decode cX9_holds 44 = .ok (.iastore, 1) := by decide +kernel
theorem dX9_holds_45 : decode cX9_holds 45 = .ok (.iload_n 2, 1) := by decide +kernel
theorem dX9_holds_46 : decode cX9_holds 46 = .ok (.ireturn, 1) := by decide +kernel
theorem dX9_wheel_0 : decode cX9_wheel 0 = .ok (.aload_n 0, 1) := by decide +kernel
theorem dX9_wheel_1 : decode cX9_wheel 1 = .ok (.iconst 0, 1) := by decide +kernel
theorem dX9_wheel_2 : decode cX9_wheel 2 = .ok (.putfield 29, 3) := by decide +kernel
theorem dX9_wheel_5 : decode cX9_wheel 5 = .ok (.iload_n 1, 1) := by decide +kernel
theorem dX9_wheel_6 : decode cX9_wheel 6 = .ok (.iconst 0, 1) := by decide +kernel
theorem dX9_wheel_7 : decode cX9_wheel 7 = .ok (.iconst 4, 1) := by decide +kernel
theorem dX9_wheel_8 : decode cX9_wheel 8 = .ok (.invokestatic 46, 3) := by decide +kernel
theorem dX9_wheel_11 : decode cX9_wheel 11 = .ok (.ifCond .ne 8, 3) := by decide +kernel
theorem dX9_wheel_14 : decode cX9_wheel 14 = .ok (.ldc 120, 2) := by decide +kernel
theorem dX9_wheel_16 : decode cX9_wheel 16 = .ok (.goto 32, 3) := by decide +kernel
theorem dX9_wheel_19 : decode cX9_wheel 19 = .ok (.iload_n 1, 1) := by decide +kernel
theorem dX9_wheel_20 : decode cX9_wheel 20 = .ok (.iconst 4, 1) := by decide +kernel
theorem dX9_wheel_21 : decode cX9_wheel 21 = .ok (.if_icmp .ne 18, 3) := by decide +kernel
theorem dX9_wheel_24 : decode cX9_wheel 24 = .ok (.aload_n 0, 1) := by decide +kernel
theorem dX9_wheel_25 : decode cX9_wheel 25 = .ok (.invokevirtual 121, 3) := by decide +kernel
theorem dX9_wheel_28 : decode cX9_wheel 28 = .ok (.ifCond .eq 7, 3) := by decide +kernel
theorem dX9_wheel_31 : decode cX9_wheel 31 = .ok (.iconst 1, 1) := by decide +kernel
theorem dX9_wheel_32 : decode cX9_wheel 32 = .ok (.goto 16, 3) := by decide +kernel
theorem dX9_wheel_35 : decode cX9_wheel 35 = .ok (.iconst 0, 1) := by decide +kernel
theorem dX9_wheel_36 : decode cX9_wheel 36 = .ok (.goto 12, 3) := by decide +kernel
theorem dX9_wheel_39 : decode cX9_wheel 39 = .ok (.aload_n 0, 1) := by decide +kernel
theorem dX9_wheel_40 : decode cX9_wheel 40 = .ok (.getfield 7, 3) := by decide +kernel
theorem dX9_wheel_43 : decode cX9_wheel 43 = .ok (.bipush 34, 2) := by decide +kernel
theorem dX9_wheel_45 : decode cX9_wheel 45 = .ok (.iload_n 1, 1) := by decide +kernel
theorem dX9_wheel_46 : decode cX9_wheel 46 = .ok (.iadd, 1) := by decide +kernel
theorem dX9_wheel_47 : decode cX9_wheel 47 = .ok (.iaload, 1) := by decide +kernel
theorem dX9_wheel_48 : decode cX9_wheel 48 = .ok (.ireturn, 1) := by decide +kernel
theorem dX9_isChaser_0 : decode cX9_isChaser 0 = .ok (.iload_n 0, 1) := by decide +kernel
theorem dX9_isChaser_1 : decode cX9_isChaser 1 = .ok (.iconst 0, 1) := by decide +kernel
theorem dX9_isChaser_2 : decode cX9_isChaser 2 = .ok (.iconst 2, 1) := by decide +kernel
theorem dX9_isChaser_3 : decode cX9_isChaser 3 = .ok (.invokestatic 46, 3) := by decide +kernel
theorem dX9_isChaser_6 : decode cX9_isChaser 6 = .ok (.ireturn, 1) := by decide +kernel
theorem dX9_wayOf_0 : decode cX9_wayOf 0 = .ok (.aload_n 0, 1) := by decide +kernel
theorem dX9_wayOf_1 : decode cX9_wayOf 1 = .ok (.aload_n 0, 1) := by decide +kernel
theorem dX9_wayOf_2 : decode cX9_wayOf 2 = .ok (.aload_n 0, 1) := by decide +kernel
theorem dX9_wayOf_3 : decode cX9_wayOf 3 = .ok (.getfield 7, 3) := by decide +kernel
theorem dX9_wayOf_6 : decode cX9_wayOf 6 = .ok (.bipush 34, 2) := by decide +kernel
theorem dX9_wayOf_8 : decode cX9_wayOf 8 = .ok (.iaload, 1) := by decide +kernel
theorem dX9_wayOf_9 : decode cX9_wayOf 9 = .ok (.aload_n 0, 1) := by decide +kernel
theorem dX9_wayOf_10 : decode cX9_wayOf 10 = .ok (.getfield 7, 3) := by decide +kernel
theorem dX9_wayOf_13 : decode cX9_wayOf 13 = .ok (.bipush 38, 2) := by decide +kernel
theorem dX9_wayOf_15 : decode cX9_wayOf 15 = .ok (.iconst 3, 1) := by decide +kernel
theorem dX9_wayOf_16 : decode cX9_wayOf 16 = .ok (.iload_n 1, 1) := by decide +kernel
theorem dX9_wayOf_17 : decode cX9_wayOf 17 = .ok (.imul, 1) := by decide +kernel
theorem dX9_wayOf_18 : decode cX9_wayOf 18 = .ok (.iadd, 1) := by decide +kernel
theorem dX9_wayOf_19 : decode cX9_wayOf 19 = .ok (.iconst 2, 1) := by decide +kernel
theorem dX9_wayOf_20 : decode cX9_wayOf 20 = .ok (.iadd, 1) := by decide +kernel
theorem dX9_wayOf_21 : decode cX9_wayOf 21 = .ok (.iaload, 1) := by decide +kernel
theorem dX9_wayOf_22 : decode cX9_wayOf 22 = .ok (.iadd, 1) := by decide +kernel
theorem dX9_wayOf_23 : decode cX9_wayOf 23 = .ok (.invokevirtual 72, 3) := by decide +kernel
theorem dX9_wayOf_26 : decode cX9_wayOf 26 = .ok (.aload_n 0, 1) := by decide +kernel
theorem dX9_wayOf_27 : decode cX9_wayOf 27 = .ok (.getfield 7, 3) := by decide +kernel
theorem dX9_wayOf_30 : decode cX9_wayOf 30 = .ok (.bipush 38, 2) := by decide +kernel
theorem dX9_wayOf_32 : decode cX9_wayOf 32 = .ok (.iconst 3, 1) := by decide +kernel
theorem dX9_wayOf_33 : decode cX9_wayOf 33 = .ok (.iload_n 1, 1) := by decide +kernel
theorem dX9_wayOf_34 : decode cX9_wayOf 34 = .ok (.imul, 1) := by decide +kernel
theorem dX9_wayOf_35 : decode cX9_wayOf 35 = .ok (.iadd, 1) := by decide +kernel
theorem dX9_wayOf_36 : decode cX9_wayOf 36 = .ok (.iaload, 1) := by decide +kernel
theorem dX9_wayOf_37 : decode cX9_wayOf 37 = .ok (.isub, 1) := by decide +kernel
theorem dX9_wayOf_38 : decode cX9_wayOf 38 = .ok (.invokevirtual 72, 3) := by decide +kernel
theorem dX9_wayOf_41 : decode cX9_wayOf 41 = .ok (.istore_n 2, 1) := by decide +kernel
theorem dX9_wayOf_42 : decode cX9_wayOf 42 = .ok (.iconst 2, 1) := by decide +kernel
theorem dX9_wayOf_43 : decode cX9_wayOf 43 = .ok (.iload_n 2, 1) := by decide +kernel
theorem dX9_wayOf_44 : decode cX9_wayOf 44 = .ok (.imul, 1) := by decide +kernel
theorem dX9_wayOf_45 : decode cX9_wayOf 45 = .ok (.aload_n 0, 1) := by decide +kernel
theorem dX9_wayOf_46 : decode cX9_wayOf 46 = .ok (.invokevirtual 42, 3) := by decide +kernel
theorem dX9_wayOf_49 : decode cX9_wayOf 49 = .ok (.if_icmp .le 12, 3) := by decide +kernel
theorem dX9_wayOf_52 : decode cX9_wayOf 52 = .ok (.iload_n 2, 1) := by decide +kernel
theorem dX9_wayOf_53 : decode cX9_wayOf 53 = .ok (.aload_n 0, 1) := by decide +kernel
theorem dX9_wayOf_54 : decode cX9_wayOf 54 = .ok (.invokevirtual 42, 3) := by decide +kernel
theorem dX9_wayOf_57 : decode cX9_wayOf 57 = .ok (.isub, 1) := by decide +kernel
theorem dX9_wayOf_58 : decode cX9_wayOf 58 = .ok (.goto 4, 3) := by decide +kernel
theorem dX9_wayOf_61 : decode cX9_wayOf 61 = .ok (.iload_n 2, 1) := by decide +kernel
theorem dX9_wayOf_62 : decode cX9_wayOf 62 = .ok (.ireturn, 1) := by decide +kernel
theorem dX9_isThere_0 : decode cX9_isThere 0 = .ok (.aload_n 0, 1) := by decide +kernel
theorem dX9_isThere_1 : decode cX9_isThere 1 = .ok (.iload_n 1, 1) := by decide +kernel
theorem dX9_isThere_2 : decode cX9_isThere 2 = .ok (.invokevirtual 125, 3) := by decide +kernel
theorem dX9_isThere_5 : decode cX9_isThere 5 = .ok (.ifCond .ne 23, 3) := by decide +kernel
theorem dX9_isThere_8 : decode cX9_isThere 8 = .ok (.aload_n 0, 1) := by decide +kernel
theorem dX9_isThere_9 : decode cX9_isThere 9 = .ok (.getfield 7, 3) := by decide +kernel
theorem dX9_isThere_12 : decode cX9_isThere 12 = .ok (.bipush 38, 2) := by decide +kernel
theorem dX9_isThere_14 : decode cX9_isThere 14 = .ok (.iconst 3, 1) := by decide +kernel
theorem dX9_isThere_15 : decode cX9_isThere 15 = .ok (.iload_n 1, 1) := by decide +kernel
theorem dX9_isThere_16 : decode cX9_isThere 16 = .ok (.imul, 1) := by decide +kernel
theorem dX9_isThere_17 : decode cX9_isThere 17 = .ok (.iadd, 1) := by decide +kernel
theorem dX9_isThere_18 : decode cX9_isThere 18 = .ok (.iconst 1, 1) := by decide +kernel
theorem dX9_isThere_19 : decode cX9_isThere 19 = .ok (.iadd, 1) := by decide +kernel
theorem dX9_isThere_20 : decode cX9_isThere 20 = .ok (.iaload, 1) := by decide +kernel
theorem dX9_isThere_21 : decode cX9_isThere 21 = .ok (.ifCond .ne 7, 3) := by decide +kernel
theorem dX9_isThere_24 : decode cX9_isThere 24 = .ok (.iconst 1, 1) := by decide +kernel
theorem dX9_isThere_25 : decode cX9_isThere 25 = .ok (.goto 4, 3) := by decide +kernel
theorem dX9_isThere_28 : decode cX9_isThere 28 = .ok (.iconst 0, 1) := by decide +kernel
theorem dX9_isThere_29 : decode cX9_isThere 29 = .ok (.ireturn, 1) := by decide +kernel
theorem dX9_steps_0 : decode cX9_steps 0 = .ok (.aload_n 0, 1) := by decide +kernel
theorem dX9_steps_1 : decode cX9_steps 1 = .ok (.iload_n 1, 1) := by decide +kernel
theorem dX9_steps_2 : decode cX9_steps 2 = .ok (.invokevirtual 125, 3) := by decide +kernel
theorem dX9_steps_5 : decode cX9_steps 5 = .ok (.istore_n 2, 1) := by decide +kernel
theorem dX9_steps_6 : decode cX9_steps 6 = .ok (.iconst 0, 1) := by decide +kernel
theorem dX9_steps_7 : decode cX9_steps 7 = .ok (.istore_n 3, 1) := by decide +kernel
theorem dX9_steps_8 : decode cX9_steps 8 = .ok (.iload_n 3, 1) := by decide +kernel
theorem dX9_steps_9 : decode cX9_steps 9 = .ok (.bipush 99, 2) := by decide +kernel
theorem dX9_steps_11 : decode cX9_steps 11 = .ok (.if_icmp .ge 25, 3) := by decide +kernel
theorem dX9_steps_14 : decode cX9_steps 14 = .ok (.iload_n 3, 1) := by decide +kernel
theorem dX9_steps_15 : decode cX9_steps 15 = .ok (.iconst 1, 1) := by decide +kernel
theorem dX9_steps_16 : decode cX9_steps 16 = .ok (.iadd, 1) := by decide +kernel
theorem dX9_steps_17 : decode cX9_steps 17 = .ok (.iload_n 3, 1) := by decide +kernel
theorem dX9_steps_18 : decode cX9_steps 18 = .ok (.iconst 2, 1) := by decide +kernel
theorem dX9_steps_19 : decode cX9_steps 19 = .ok (.iadd, 1) := by decide +kernel
theorem dX9_steps_20 : decode cX9_steps 20 = .ok (.imul, 1) := by decide +kernel
theorem dX9_steps_21 : decode cX9_steps 21 = .ok (.iconst 2, 1) := by decide +kernel
theorem dX9_steps_22 : decode cX9_steps 22 = .ok (.idiv, 1) := by decide +kernel
theorem dX9_steps_23 : decode cX9_steps 23 = .ok (.iload_n 2, 1) := by decide +kernel
theorem dX9_steps_24 : decode cX9_steps 24 = .ok (.invokestatic 128, 3) := by decide +kernel
theorem dX9_steps_27 : decode cX9_steps 27 = .ok (.if_icmp .gt 9, 3) := by decide +kernel
theorem dX9_steps_30 : decode cX9_steps 30 = .ok (.iinc 3 1, 3) := by decide +kernel
theorem dX9_steps_33 : decode cX9_steps 33 = .ok (.goto (-25), 3) := by decide +kernel
theorem dX9_steps_36 : decode cX9_steps 36 = .ok (.iload_n 2, 1) := by decide +kernel
theorem dX9_steps_37 : decode cX9_steps 37 = .ok (.ifCond .ge 8, 3) := by decide +kernel
theorem dX9_steps_40 : decode cX9_steps 40 = .ok (.iload_n 3, 1) := by decide +kernel
theorem dX9_steps_41 : decode cX9_steps 41 = .ok (.ineg, 1) := by decide +kernel
theorem dX9_steps_42 : decode cX9_steps 42 = .ok (.goto 4, 3) := by decide +kernel
theorem dX9_steps_45 : decode cX9_steps 45 = .ok (.iload_n 3, 1) := by decide +kernel
theorem dX9_steps_46 : decode cX9_steps 46 = .ok (.istore 4, 2) := by decide +kernel
theorem dX9_steps_48 : decode cX9_steps 48 = .ok (.bipush 38, 2) := by decide +kernel
theorem dX9_steps_50 : decode cX9_steps 50 = .ok (.iconst 3, 1) := by decide +kernel
theorem dX9_steps_51 : decode cX9_steps 51 = .ok (.iload_n 1, 1) := by decide +kernel
theorem dX9_steps_52 : decode cX9_steps 52 = .ok (.imul, 1) := by decide +kernel
theorem dX9_steps_53 : decode cX9_steps 53 = .ok (.iadd, 1) := by decide +kernel
theorem dX9_steps_54 : decode cX9_steps 54 = .ok (.istore 5, 2) := by decide +kernel
theorem dX9_steps_56 : decode cX9_steps 56 = .ok (.aload_n 0, 1) := by decide +kernel
theorem dX9_steps_57 : decode cX9_steps 57 = .ok (.getfield 7, 3) := by decide +kernel
theorem dX9_steps_60 : decode cX9_steps 60 = .ok (.iload 5, 2) := by decide +kernel
theorem dX9_steps_62 : decode cX9_steps 62 = .ok (.iconst 1, 1) := by decide +kernel
theorem dX9_steps_63 : decode cX9_steps 63 = .ok (.iadd, 1) := by decide +kernel
theorem dX9_steps_64 : decode cX9_steps 64 = .ok (.dup2, 1) := by decide +kernel
theorem dX9_steps_65 : decode cX9_steps 65 = .ok (.iaload, 1) := by decide +kernel
theorem dX9_steps_66 : decode cX9_steps 66 = .ok (.iload 4, 2) := by decide +kernel
theorem dX9_steps_68 : decode cX9_steps 68 = .ok (.aload_n 0, 1) := by decide +kernel
theorem dX9_steps_69 : decode cX9_steps 69 = .ok (.getfield 7, 3) := by decide +kernel
theorem dX9_steps_72 : decode cX9_steps 72 = .ok (.iload 5, 2) := by decide +kernel
theorem dX9_steps_74 : decode cX9_steps 74 = .ok (.iconst 1, 1) := by decide +kernel
theorem dX9_steps_75 : decode cX9_steps 75 = .ok (.iadd, 1) := by decide +kernel
theorem dX9_steps_76 : decode cX9_steps 76 = .ok (.iaload, 1) := by decide +kernel
theorem dX9_steps_77 : decode cX9_steps 77 = .ok (.if_icmp .le 7, 3) := by decide +kernel
theorem dX9_steps_80 : decode cX9_steps 80 = .ok (.iconst 1, 1) := by decide +kernel
theorem dX9_steps_81 : decode cX9_steps 81 = .ok (.goto 22, 3) := by decide +kernel
theorem dX9_steps_84 : decode cX9_steps 84 = .ok (.iload 4, 2) := by decide +kernel
theorem dX9_steps_86 : decode cX9_steps 86 = .ok (.aload_n 0, 1) := by decide +kernel
theorem dX9_steps_87 : decode cX9_steps 87 = .ok (.getfield 7, 3) := by decide +kernel
theorem dX9_steps_90 : decode cX9_steps 90 = .ok (.iload 5, 2) := by decide +kernel
theorem dX9_steps_92 : decode cX9_steps 92 = .ok (.iconst 1, 1) := by decide +kernel
theorem dX9_steps_93 : decode cX9_steps 93 = .ok (.iadd, 1) := by decide +kernel
theorem dX9_steps_94 : decode cX9_steps 94 = .ok (.iaload, 1) := by decide +kernel
theorem dX9_steps_95 : decode cX9_steps 95 = .ok (.if_icmp .ge 7, 3) := by decide +kernel
theorem dX9_steps_98 : decode cX9_steps 98 = .ok (.iconst (-1), 1) := by decide +kernel
theorem dX9_steps_99 : decode cX9_steps 99 = .ok (.goto 4, 3) := by decide +kernel
theorem dX9_steps_102 : decode cX9_steps 102 = .ok (.iconst 0, 1) := by decide +kernel
theorem dX9_steps_103 : decode cX9_steps 103 = .ok (.iadd, 1) := by decide +kernel
theorem dX9_steps_104 : decode cX9_steps 104 = .ok (.iastore, 1) := by decide +kernel
theorem dX9_steps_105 : decode cX9_steps 105 = .ok (.aload_n 0, 1) := by decide +kernel
theorem dX9_steps_106 : decode cX9_steps 106 = .ok (.getfield 7, 3) := by decide +kernel
theorem dX9_steps_109 : decode cX9_steps 109 = .ok (.iload 5, 2) := by decide +kernel
theorem dX9_steps_111 : decode cX9_steps 111 = .ok (.aload_n 0, 1) := by decide +kernel
theorem dX9_steps_112 : decode cX9_steps 112 = .ok (.aload_n 0, 1) := by decide +kernel
theorem dX9_steps_113 : decode cX9_steps 113 = .ok (.getfield 7, 3) := by decide +kernel
theorem dX9_steps_116 : decode cX9_steps 116 = .ok (.iload 5, 2) := by decide +kernel
theorem dX9_steps_118 : decode cX9_steps 118 = .ok (.iaload, 1) := by decide +kernel
theorem dX9_steps_119 : decode cX9_steps 119 = .ok (.aload_n 0, 1) := by decide +kernel
theorem dX9_steps_120 : decode cX9_steps 120 = .ok (.getfield 7, 3) := by decide +kernel
theorem dX9_steps_123 : decode cX9_steps 123 = .ok (.iload 5, 2) := by decide +kernel
theorem dX9_steps_125 : decode cX9_steps 125 = .ok (.iconst 1, 1) := by decide +kernel
theorem dX9_steps_126 : decode cX9_steps 126 = .ok (.iadd, 1) := by decide +kernel
theorem dX9_steps_127 : decode cX9_steps 127 = .ok (.iaload, 1) := by decide +kernel
theorem dX9_steps_128 : decode cX9_steps 128 = .ok (.iadd, 1) := by decide +kernel
theorem dX9_steps_129 : decode cX9_steps 129 = .ok (.invokevirtual 72, 3) := by decide +kernel
theorem dX9_steps_132 : decode cX9_steps 132 = .ok (.iastore, 1) := by decide +kernel
theorem dX9_steps_133 : decode cX9_steps 133 = .ok (.return_, 1) := by decide +kernel
theorem dX9_offsets_0 : decode cX9_offsets 0 = .ok (.aload_n 0, 1) := by decide +kernel
theorem dX9_offsets_1 : decode cX9_offsets 1 = .ok (.iconst 0, 1) := by decide +kernel
theorem dX9_offsets_2 : decode cX9_offsets 2 = .ok (.putfield 29, 3) := by decide +kernel
theorem dX9_offsets_5 : decode cX9_offsets 5 = .ok (.iload_n 1, 1) := by decide +kernel
theorem dX9_offsets_6 : decode cX9_offsets 6 = .ok (.invokestatic 131, 3) := by decide +kernel
theorem dX9_offsets_9 : decode cX9_offsets 9 = .ok (.ifCond .eq 14, 3) := by decide +kernel
theorem dX9_offsets_12 : decode cX9_offsets 12 = .ok (.iload_n 2, 1) := by decide +kernel
theorem dX9_offsets_13 : decode cX9_offsets 13 = .ok (.ldc 134, 2) := by decide +kernel
theorem dX9_offsets_15 : decode cX9_offsets 15 = .ok (.ldc 135, 2) := by decide +kernel
theorem dX9_offsets_17 : decode cX9_offsets 17 = .ok (.invokestatic 46, 3) := by decide +kernel
theorem dX9_offsets_20 : decode cX9_offsets 20 = .ok (.ifCond .ne 5, 3) := by decide +kernel
theorem dX9_offsets_23 : decode cX9_offsets 23 = .ok (.iconst (-1), 1) := by decide +kernel
theorem dX9_offsets_24 : decode cX9_offsets 24 = .ok (.ireturn, 1) := by decide +kernel
theorem dX9_offsets_25 : decode cX9_offsets 25 = .ok (.aload_n 0, 1) := by decide +kernel
theorem dX9_offsets_26 : decode cX9_offsets 26 = .ok (.getfield 7, 3) := by decide +kernel
theorem dX9_offsets_29 : decode cX9_offsets 29 = .ok (.bipush 38, 2) := by decide +kernel
theorem dX9_offsets_31 : decode cX9_offsets 31 = .ok (.iconst 3, 1) := by decide +kernel
theorem dX9_offsets_32 : decode cX9_offsets 32 = .ok (.iload_n 1, 1) := by decide +kernel
theorem dX9_offsets_33 : decode cX9_offsets 33 = .ok (.imul, 1) := by decide +kernel
theorem dX9_offsets_34 : decode cX9_offsets 34 = .ok (.iadd, 1) := by decide +kernel
theorem dX9_offsets_35 : decode cX9_offsets 35 = .ok (.iconst 2, 1) := by decide +kernel
theorem dX9_offsets_36 : decode cX9_offsets 36 = .ok (.iadd, 1) := by decide +kernel
theorem dX9_offsets_37 : decode cX9_offsets 37 = .ok (.iaload, 1) := by decide +kernel
theorem dX9_offsets_38 : decode cX9_offsets 38 = .ok (.iload_n 2, 1) := by decide +kernel
theorem dX9_offsets_39 : decode cX9_offsets 39 = .ok (.if_icmp .ne 6, 3) := by decide +kernel
theorem dX9_offsets_42 : decode cX9_offsets 42 = .ok (.bipush (-2), 2) := by decide +kernel
theorem dX9_offsets_44 : decode cX9_offsets 44 = .ok (.ireturn, 1) := by decide +kernel
theorem dX9_offsets_45 : decode cX9_offsets 45 = .ok (.aload_n 0, 1) := by decide +kernel
theorem dX9_offsets_46 : decode cX9_offsets 46 = .ok (.invokevirtual 69, 3) := by decide +kernel
theorem dX9_offsets_49 : decode cX9_offsets 49 = .ok (.aload_n 0, 1) := by decide +kernel
theorem dX9_offsets_50 : decode cX9_offsets 50 = .ok (.getfield 7, 3) := by decide +kernel
theorem dX9_offsets_53 : decode cX9_offsets 53 = .ok (.bipush 38, 2) := by decide +kernel
theorem dX9_offsets_55 : decode cX9_offsets 55 = .ok (.iconst 3, 1) := by decide +kernel
theorem dX9_offsets_56 : decode cX9_offsets 56 = .ok (.iload_n 1, 1) := by decide +kernel
theorem dX9_offsets_57 : decode cX9_offsets 57 = .ok (.imul, 1) := by decide +kernel
theorem dX9_offsets_58 : decode cX9_offsets 58 = .ok (.iadd, 1) := by decide +kernel
theorem dX9_offsets_59 : decode cX9_offsets 59 = .ok (.iconst 2, 1) := by decide +kernel
theorem dX9_offsets_60 : decode cX9_offsets 60 = .ok (.iadd, 1) := by decide +kernel
theorem dX9_offsets_61 : decode cX9_offsets 61 = .ok (.iload_n 2, 1) := by decide +kernel
theorem dX9_offsets_62 : decode cX9_offsets 62 = .ok (.iastore, 1) := by decide +kernel
theorem dX9_offsets_63 : decode cX9_offsets 63 = .ok (.iconst 1, 1) := by decide +kernel
theorem dX9_offsets_64 : decode cX9_offsets 64 = .ok (.ireturn, 1) := by decide +kernel
theorem dX9_chases_0 : decode cX9_chases 0 = .ok (.aload_n 0, 1) := by decide +kernel
theorem dX9_chases_1 : decode cX9_chases 1 = .ok (.iconst 0, 1) := by decide +kernel
theorem dX9_chases_2 : decode cX9_chases 2 = .ok (.putfield 29, 3) := by decide +kernel
theorem dX9_chases_5 : decode cX9_chases 5 = .ok (.iload_n 1, 1) := by decide +kernel
theorem dX9_chases_6 : decode cX9_chases 6 = .ok (.invokestatic 131, 3) := by decide +kernel
theorem dX9_chases_9 : decode cX9_chases 9 = .ok (.ifCond .eq 14, 3) := by decide +kernel
theorem dX9_chases_12 : decode cX9_chases 12 = .ok (.iload_n 2, 1) := by decide +kernel
theorem dX9_chases_13 : decode cX9_chases 13 = .ok (.iconst 1, 1) := by decide +kernel
theorem dX9_chases_14 : decode cX9_chases 14 = .ok (.sipush 1000, 3) := by decide +kernel
theorem dX9_chases_17 : decode cX9_chases 17 = .ok (.invokestatic 46, 3) := by decide +kernel
theorem dX9_chases_20 : decode cX9_chases 20 = .ok (.ifCond .ne 5, 3) := by decide +kernel
theorem dX9_chases_23 : decode cX9_chases 23 = .ok (.iconst (-1), 1) := by decide +kernel
theorem dX9_chases_24 : decode cX9_chases 24 = .ok (.ireturn, 1) := by decide +kernel
theorem dX9_chases_25 : decode cX9_chases 25 = .ok (.aload_n 0, 1) := by decide +kernel
theorem dX9_chases_26 : decode cX9_chases 26 = .ok (.invokevirtual 69, 3) := by decide +kernel
theorem dX9_chases_29 : decode cX9_chases 29 = .ok (.iconst 0, 1) := by decide +kernel
theorem dX9_chases_30 : decode cX9_chases 30 = .ok (.istore_n 3, 1) := by decide +kernel
theorem dX9_chases_31 : decode cX9_chases 31 = .ok (.iload_n 3, 1) := by decide +kernel
theorem dX9_chases_32 : decode cX9_chases 32 = .ok (.iload_n 2, 1) := by decide +kernel
theorem dX9_chases_33 : decode cX9_chases 33 = .ok (.if_icmp .ge 14, 3) := by decide +kernel
theorem dX9_chases_36 : decode cX9_chases 36 = .ok (.aload_n 0, 1) := by decide +kernel
theorem dX9_chases_37 : decode cX9_chases 37 = .ok (.iload_n 1, 1) := by decide +kernel
theorem dX9_chases_38 : decode cX9_chases 38 = .ok (.invokevirtual 136, 3) := by decide +kernel
theorem dX9_chases_41 : decode cX9_chases 41 = .ok (.iinc 3 1, 3) := by decide +kernel
theorem dX9_chases_44 : decode cX9_chases 44 = .ok (.goto (-13), 3) := by decide +kernel
theorem dX9_chases_47 : decode cX9_chases 47 = .ok (.aload_n 0, 1) := by decide +kernel
theorem dX9_chases_48 : decode cX9_chases 48 = .ok (.getfield 7, 3) := by decide +kernel
theorem dX9_chases_51 : decode cX9_chases 51 = .ok (.bipush 38, 2) := by decide +kernel
theorem dX9_chases_53 : decode cX9_chases 53 = .ok (.iconst 3, 1) := by decide +kernel
theorem dX9_chases_54 : decode cX9_chases 54 = .ok (.iload_n 1, 1) := by decide +kernel
theorem dX9_chases_55 : decode cX9_chases 55 = .ok (.imul, 1) := by decide +kernel
theorem dX9_chases_56 : decode cX9_chases 56 = .ok (.iadd, 1) := by decide +kernel
theorem dX9_chases_57 : decode cX9_chases 57 = .ok (.iaload, 1) := by decide +kernel
theorem dX9_chases_58 : decode cX9_chases 58 = .ok (.ireturn, 1) := by decide +kernel
theorem dX9_chaser_0 : decode cX9_chaser 0 = .ok (.aload_n 0, 1) := by decide +kernel
theorem dX9_chaser_1 : decode cX9_chaser 1 = .ok (.iconst 0, 1) := by decide +kernel
theorem dX9_chaser_2 : decode cX9_chaser 2 = .ok (.putfield 29, 3) := by decide +kernel
theorem dX9_chaser_5 : decode cX9_chaser 5 = .ok (.iload_n 1, 1) := by decide +kernel
theorem dX9_chaser_6 : decode cX9_chaser 6 = .ok (.invokestatic 131, 3) := by decide +kernel
theorem dX9_chaser_9 : decode cX9_chaser 9 = .ok (.ifCond .eq 12, 3) := by decide +kernel
theorem dX9_chaser_12 : decode cX9_chaser 12 = .ok (.iload_n 2, 1) := by decide +kernel
theorem dX9_chaser_13 : decode cX9_chaser 13 = .ok (.iconst 0, 1) := by decide +kernel
theorem dX9_chaser_14 : decode cX9_chaser 14 = .ok (.iconst 3, 1) := by decide +kernel
theorem dX9_chaser_15 : decode cX9_chaser 15 = .ok (.invokestatic 46, 3) := by decide +kernel
theorem dX9_chaser_18 : decode cX9_chaser 18 = .ok (.ifCond .ne 8, 3) := by decide +kernel
theorem dX9_chaser_21 : decode cX9_chaser 21 = .ok (.ldc 120, 2) := by decide +kernel
theorem dX9_chaser_23 : decode cX9_chaser 23 = .ok (.goto 29, 3) := by decide +kernel
theorem dX9_chaser_26 : decode cX9_chaser 26 = .ok (.iload_n 2, 1) := by decide +kernel
theorem dX9_chaser_27 : decode cX9_chaser 27 = .ok (.iconst 3, 1) := by decide +kernel
theorem dX9_chaser_28 : decode cX9_chaser 28 = .ok (.if_icmp .ne 11, 3) := by decide +kernel
theorem dX9_chaser_31 : decode cX9_chaser 31 = .ok (.aload_n 0, 1) := by decide +kernel
theorem dX9_chaser_32 : decode cX9_chaser 32 = .ok (.iload_n 1, 1) := by decide +kernel
theorem dX9_chaser_33 : decode cX9_chaser 33 = .ok (.invokevirtual 125, 3) := by decide +kernel
theorem dX9_chaser_36 : decode cX9_chaser 36 = .ok (.goto 16, 3) := by decide +kernel
theorem dX9_chaser_39 : decode cX9_chaser 39 = .ok (.aload_n 0, 1) := by decide +kernel
theorem dX9_chaser_40 : decode cX9_chaser 40 = .ok (.getfield 7, 3) := by decide +kernel
theorem dX9_chaser_43 : decode cX9_chaser 43 = .ok (.bipush 38, 2) := by decide +kernel
theorem dX9_chaser_45 : decode cX9_chaser 45 = .ok (.iconst 3, 1) := by decide +kernel
theorem dX9_chaser_46 : decode cX9_chaser 46 = .ok (.iload_n 1, 1) := by decide +kernel
theorem dX9_chaser_47 : decode cX9_chaser 47 = .ok (.imul, 1) := by decide +kernel
theorem dX9_chaser_48 : decode cX9_chaser 48 = .ok (.iadd, 1) := by decide +kernel
theorem dX9_chaser_49 : decode cX9_chaser 49 = .ok (.iload_n 2, 1) := by decide +kernel
theorem dX9_chaser_50 : decode cX9_chaser 50 = .ok (.iadd, 1) := by decide +kernel
theorem dX9_chaser_51 : decode cX9_chaser 51 = .ok (.iaload, 1) := by decide +kernel
theorem dX9_chaser_52 : decode cX9_chaser 52 = .ok (.ireturn, 1) := by decide +kernel
theorem dX9_there_0 : decode cX9_there 0 = .ok (.aload_n 0, 1) := by decide +kernel
theorem dX9_there_1 : decode cX9_there 1 = .ok (.iconst 0, 1) := by decide +kernel
theorem dX9_there_2 : decode cX9_there 2 = .ok (.putfield 29, 3) := by decide +kernel
theorem dX9_there_5 : decode cX9_there 5 = .ok (.iload_n 1, 1) := by decide +kernel
theorem dX9_there_6 : decode cX9_there 6 = .ok (.invokestatic 131, 3) := by decide +kernel
theorem dX9_there_9 : decode cX9_there 9 = .ok (.ifCond .ne 5, 3) := by decide +kernel
theorem dX9_there_12 : decode cX9_there 12 = .ok (.iconst (-1), 1) := by decide +kernel
theorem dX9_there_13 : decode cX9_there 13 = .ok (.ireturn, 1) := by decide +kernel
theorem dX9_there_14 : decode cX9_there 14 = .ok (.aload_n 0, 1) := by decide +kernel
theorem dX9_there_15 : decode cX9_there 15 = .ok (.getfield 7, 3) := by decide +kernel
theorem dX9_there_18 : decode cX9_there 18 = .ok (.bipush 38, 2) := by decide +kernel
theorem dX9_there_20 : decode cX9_there 20 = .ok (.iconst 3, 1) := by decide +kernel
theorem dX9_there_21 : decode cX9_there 21 = .ok (.iload_n 1, 1) := by decide +kernel
theorem dX9_there_22 : decode cX9_there 22 = .ok (.imul, 1) := by decide +kernel
theorem dX9_there_23 : decode cX9_there 23 = .ok (.iadd, 1) := by decide +kernel
theorem dX9_there_24 : decode cX9_there 24 = .ok (.iaload, 1) := by decide +kernel
theorem dX9_there_25 : decode cX9_there 25 = .ok (.istore_n 2, 1) := by decide +kernel
theorem dX9_there_26 : decode cX9_there 26 = .ok (.aload_n 0, 1) := by decide +kernel
theorem dX9_there_27 : decode cX9_there 27 = .ok (.getfield 7, 3) := by decide +kernel
theorem dX9_there_30 : decode cX9_there 30 = .ok (.bipush 38, 2) := by decide +kernel
theorem dX9_there_32 : decode cX9_there 32 = .ok (.iconst 3, 1) := by decide +kernel
theorem dX9_there_33 : decode cX9_there 33 = .ok (.iload_n 1, 1) := by decide +kernel
theorem dX9_there_34 : decode cX9_there 34 = .ok (.imul, 1) := by decide +kernel
theorem dX9_there_35 : decode cX9_there 35 = .ok (.iadd, 1) := by decide +kernel
theorem dX9_there_36 : decode cX9_there 36 = .ok (.iconst 1, 1) := by decide +kernel
theorem dX9_there_37 : decode cX9_there 37 = .ok (.iadd, 1) := by decide +kernel
theorem dX9_there_38 : decode cX9_there 38 = .ok (.iaload, 1) := by decide +kernel
theorem dX9_there_39 : decode cX9_there 39 = .ok (.istore_n 3, 1) := by decide +kernel
theorem dX9_there_40 : decode cX9_there 40 = .ok (.iconst 0, 1) := by decide +kernel
theorem dX9_there_41 : decode cX9_there 41 = .ok (.istore 4, 2) := by decide +kernel
theorem dX9_there_43 : decode cX9_there 43 = .ok (.iload 4, 2) := by decide +kernel
theorem dX9_there_45 : decode cX9_there 45 = .ok (.sipush 3000, 3) := by decide +kernel
theorem dX9_there_48 : decode cX9_there 48 = .ok (.if_icmp .ge 22, 3) := by decide +kernel
theorem dX9_there_51 : decode cX9_there 51 = .ok (.aload_n 0, 1) := by decide +kernel
theorem dX9_there_52 : decode cX9_there 52 = .ok (.iload_n 1, 1) := by decide +kernel
theorem dX9_there_53 : decode cX9_there 53 = .ok (.invokevirtual 139, 3) := by decide +kernel
theorem dX9_there_56 : decode cX9_there 56 = .ok (.ifCond .ne 14, 3) := by decide +kernel
theorem dX9_there_59 : decode cX9_there 59 = .ok (.aload_n 0, 1) := by decide +kernel
theorem dX9_there_60 : decode cX9_there 60 = .ok (.iload_n 1, 1) := by decide +kernel
theorem dX9_there_61 : decode cX9_there 61 = .ok (.invokevirtual 136, 3) := by decide +kernel
theorem dX9_there_64 : decode cX9_there 64 = .ok (.iinc 4 1, 3) := by decide +kernel
theorem dX9_there_67 : decode cX9_there 67 = .ok (.goto (-24), 3) := by decide +kernel
theorem dX9_there_70 : decode cX9_there 70 = .ok (.aload_n 0, 1) := by decide +kernel
theorem dX9_there_71 : decode cX9_there 71 = .ok (.iload_n 1, 1) := by decide +kernel
theorem dX9_there_72 : decode cX9_there 72 = .ok (.invokevirtual 139, 3) := by decide +kernel
theorem dX9_there_75 : decode cX9_there 75 = .ok (.ifCond .eq 8, 3) := by decide +kernel
theorem dX9_there_78 : decode cX9_there 78 = .ok (.iload 4, 2) := by decide +kernel
theorem dX9_there_80 : decode cX9_there 80 = .ok (.goto 5, 3) := by decide +kernel
theorem dX9_there_83 : decode cX9_there 83 = .ok (.bipush (-9), 2) := by decide +kernel
theorem dX9_there_85 : decode cX9_there 85 = .ok (.istore 5, 2) := by decide +kernel
theorem dX9_there_87 : decode cX9_there 87 = .ok (.aload_n 0, 1) := by decide +kernel
theorem dX9_there_88 : decode cX9_there 88 = .ok (.getfield 7, 3) := by decide +kernel
theorem dX9_there_91 : decode cX9_there 91 = .ok (.bipush 38, 2) := by decide +kernel
theorem dX9_there_93 : decode cX9_there 93 = .ok (.iconst 3, 1) := by decide +kernel
theorem dX9_there_94 : decode cX9_there 94 = .ok (.iload_n 1, 1) := by decide +kernel
theorem dX9_there_95 : decode cX9_there 95 = .ok (.imul, 1) := by decide +kernel
theorem dX9_there_96 : decode cX9_there 96 = .ok (.iadd, 1) := by decide +kernel
theorem dX9_there_97 : decode cX9_there 97 = .ok (.iload_n 2, 1) := by decide +kernel
theorem dX9_there_98 : decode cX9_there 98 = .ok (.iastore, 1) := by decide +kernel
theorem dX9_there_99 : decode cX9_there 99 = .ok (.aload_n 0, 1) := by decide +kernel
theorem dX9_there_100 : decode cX9_there 100 = .ok (.getfield 7, 3) := by decide +kernel
theorem dX9_there_103 : decode cX9_there 103 = .ok (.bipush 38, 2) := by decide +kernel
theorem dX9_there_105 : decode cX9_there 105 = .ok (.iconst 3, 1) := by decide +kernel
theorem dX9_there_106 : decode cX9_there 106 = .ok (.iload_n 1, 1) := by decide +kernel
theorem dX9_there_107 : decode cX9_there 107 = .ok (.imul, 1) := by decide +kernel
theorem dX9_there_108 : decode cX9_there 108 = .ok (.iadd, 1) := by decide +kernel
theorem dX9_there_109 : decode cX9_there 109 = .ok (.iconst 1, 1) := by decide +kernel
theorem dX9_there_110 : decode cX9_there 110 = .ok (.iadd, 1) := by decide +kernel
theorem dX9_there_111 : decode cX9_there 111 = .ok (.iload_n 3, 1) := by decide +kernel
theorem dX9_there_112 : decode cX9_there 112 = .ok (.iastore, 1) := by decide +kernel
theorem dX9_there_113 : decode cX9_there 113 = .ok (.iload 5, 2) := by decide +kernel
theorem dX9_there_115 : decode cX9_there 115 = .ok (.ireturn, 1) := by decide +kernel
theorem dX9_undo_0 : decode cX9_undo 0 = .ok (.aload_n 0, 1) := by decide +kernel
theorem dX9_undo_1 : decode cX9_undo 1 = .ok (.iconst 0, 1) := by decide +kernel
theorem dX9_undo_2 : decode cX9_undo 2 = .ok (.putfield 29, 3) := by decide +kernel
theorem dX9_undo_5 : decode cX9_undo 5 = .ok (.aload_n 0, 1) := by decide +kernel
theorem dX9_undo_6 : decode cX9_undo 6 = .ok (.getfield 66, 3) := by decide +kernel
theorem dX9_undo_9 : decode cX9_undo 9 = .ok (.ifCond .ne 6, 3) := by decide +kernel
theorem dX9_undo_12 : decode cX9_undo 12 = .ok (.bipush (-2), 2) := by decide +kernel
theorem dX9_undo_14 : decode cX9_undo 14 = .ok (.ireturn, 1) := by decide +kernel
theorem dX9_undo_15 : decode cX9_undo 15 = .ok (.aload_n 0, 1) := by decide +kernel
theorem dX9_undo_16 : decode cX9_undo 16 = .ok (.dup, 1) := by decide +kernel
theorem dX9_undo_17 : decode cX9_undo 17 = .ok (.getfield 66, 3) := by decide +kernel
theorem dX9_undo_20 : decode cX9_undo 20 = .ok (.iconst 1, 1) := by decide +kernel
theorem dX9_undo_21 : decode cX9_undo 21 = .ok (.isub, 1) := by decide +kernel
theorem dX9_undo_22 : decode cX9_undo 22 = .ok (.putfield 66, 3) := by decide +kernel
theorem dX9_undo_25 : decode cX9_undo 25 = .ok (.iconst 0, 1) := by decide +kernel
theorem dX9_undo_26 : decode cX9_undo 26 = .ok (.istore_n 1, 1) := by decide +kernel
theorem dX9_undo_27 : decode cX9_undo 27 = .ok (.iload_n 1, 1) := by decide +kernel
theorem dX9_undo_28 : decode cX9_undo 28 = .ok (.bipush 95, 2) := by decide +kernel
theorem dX9_undo_30 : decode cX9_undo 30 = .ok (.if_icmp .ge 29, 3) := by decide +kernel
theorem dX9_undo_33 : decode cX9_undo 33 = .ok (.aload_n 0, 1) := by decide +kernel
theorem dX9_undo_34 : decode cX9_undo 34 = .ok (.getfield 7, 3) := by decide +kernel
theorem dX9_undo_37 : decode cX9_undo 37 = .ok (.iload_n 1, 1) := by decide +kernel
theorem dX9_undo_38 : decode cX9_undo 38 = .ok (.aload_n 0, 1) := by decide +kernel
theorem dX9_undo_39 : decode cX9_undo 39 = .ok (.getfield 13, 3) := by decide +kernel
theorem dX9_undo_42 : decode cX9_undo 42 = .ok (.bipush 95, 2) := by decide +kernel
theorem dX9_undo_44 : decode cX9_undo 44 = .ok (.aload_n 0, 1) := by decide +kernel
theorem dX9_undo_45 : decode cX9_undo 45 = .ok (.getfield 66, 3) := by decide +kernel
theorem dX9_undo_48 : decode cX9_undo 48 = .ok (.imul, 1) := by decide +kernel
theorem dX9_undo_49 : decode cX9_undo 49 = .ok (.iload_n 1, 1) := by decide +kernel
theorem dX9_undo_50 : decode cX9_undo 50 = .ok (.iadd, 1) := by decide +kernel
theorem dX9_undo_51 : decode cX9_undo 51 = .ok (.iaload, 1) := by decide +kernel
theorem dX9_undo_52 : decode cX9_undo 52 = .ok (.iastore, 1) := by decide +kernel
theorem dX9_undo_53 : decode cX9_undo 53 = .ok (.iinc 1 1, 3) := by decide +kernel
theorem dX9_undo_56 : decode cX9_undo 56 = .ok (.goto (-29), 3) := by decide +kernel
theorem dX9_undo_59 : decode cX9_undo 59 = .ok (.aload_n 0, 1) := by decide +kernel
theorem dX9_undo_60 : decode cX9_undo 60 = .ok (.getfield 66, 3) := by decide +kernel
theorem dX9_undo_63 : decode cX9_undo 63 = .ok (.ireturn, 1) := by decide +kernel
theorem dX9_sees_0 : decode cX9_sees 0 = .ok (.aload_n 0, 1) := by decide +kernel
theorem dX9_sees_1 : decode cX9_sees 1 = .ok (.iconst 0, 1) := by decide +kernel
theorem dX9_sees_2 : decode cX9_sees 2 = .ok (.putfield 29, 3) := by decide +kernel
theorem dX9_sees_5 : decode cX9_sees 5 = .ok (.iload_n 1, 1) := by decide +kernel
theorem dX9_sees_6 : decode cX9_sees 6 = .ok (.iconst 0, 1) := by decide +kernel
theorem dX9_sees_7 : decode cX9_sees 7 = .ok (.ldc 62, 2) := by decide +kernel
theorem dX9_sees_9 : decode cX9_sees 9 = .ok (.invokestatic 46, 3) := by decide +kernel
theorem dX9_sees_12 : decode cX9_sees 12 = .ok (.ifCond .eq 13, 3) := by decide +kernel
theorem dX9_sees_15 : decode cX9_sees 15 = .ok (.iload_n 2, 1) := by decide +kernel
theorem dX9_sees_16 : decode cX9_sees 16 = .ok (.ifCond .ge 11, 3) := by decide +kernel
theorem dX9_sees_19 : decode cX9_sees 19 = .ok (.iload_n 2, 1) := by decide +kernel
theorem dX9_sees_20 : decode cX9_sees 20 = .ok (.bipush (-9), 2) := by decide +kernel
theorem dX9_sees_22 : decode cX9_sees 22 = .ok (.if_icmp .eq 5, 3) := by decide +kernel
theorem dX9_sees_25 : decode cX9_sees 25 = .ok (.iconst (-1), 1) := by decide +kernel
theorem dX9_sees_26 : decode cX9_sees 26 = .ok (.ireturn, 1) := by decide +kernel
theorem dX9_sees_27 : decode cX9_sees 27 = .ok (.aload_n 0, 1) := by decide +kernel
theorem dX9_sees_28 : decode cX9_sees 28 = .ok (.getfield 142, 3) := by decide +kernel
theorem dX9_sees_31 : decode cX9_sees 31 = .ok (.bipush 6, 2) := by decide +kernel
theorem dX9_sees_33 : decode cX9_sees 33 = .ok (.if_icmp .ne 6, 3) := by decide +kernel
theorem dX9_sees_36 : decode cX9_sees 36 = .ok (.bipush (-3), 2) := by decide +kernel
theorem dX9_sees_38 : decode cX9_sees 38 = .ok (.ireturn, 1) := by decide +kernel
theorem dX9_sees_39 : decode cX9_sees 39 = .ok (.aload_n 0, 1) := by decide +kernel
theorem dX9_sees_40 : decode cX9_sees 40 = .ok (.getfield 23, 3) := by decide +kernel
theorem dX9_sees_43 : decode cX9_sees 43 = .ok (.aload_n 0, 1) := by decide +kernel
theorem dX9_sees_44 : decode cX9_sees 44 = .ok (.getfield 142, 3) := by decide +kernel
theorem dX9_sees_47 : decode cX9_sees 47 = .ok (.iload_n 1, 1) := by decide +kernel
theorem dX9_sees_48 : decode cX9_sees 48 = .ok (.iastore, 1) := by decide +kernel
theorem dX9_sees_49 : decode cX9_sees 49 = .ok (.aload_n 0, 1) := by decide +kernel
theorem dX9_sees_50 : decode cX9_sees 50 = .ok (.getfield 26, 3) := by decide +kernel
theorem dX9_sees_53 : decode cX9_sees 53 = .ok (.aload_n 0, 1) := by decide +kernel
theorem dX9_sees_54 : decode cX9_sees 54 = .ok (.getfield 142, 3) := by decide +kernel
theorem dX9_sees_57 : decode cX9_sees 57 = .ok (.iload_n 2, 1) := by decide +kernel
theorem dX9_sees_58 : decode cX9_sees 58 = .ok (.iastore, 1) := by decide +kernel
theorem dX9_sees_59 : decode cX9_sees 59 = .ok (.aload_n 0, 1) := by decide +kernel
theorem dX9_sees_60 : decode cX9_sees 60 = .ok (.dup, 1) := by decide +kernel
theorem dX9_sees_61 : decode cX9_sees 61 = .ok (.getfield 142, 3) := by decide +kernel
theorem dX9_sees_64 : decode cX9_sees 64 = .ok (.iconst 1, 1) := by decide +kernel
theorem dX9_sees_65 : decode cX9_sees 65 = .ok (.iadd, 1) := by decide +kernel
theorem dX9_sees_66 : decode cX9_sees 66 = .ok (.putfield 142, 3) := by decide +kernel
theorem dX9_sees_69 : decode cX9_sees 69 = .ok (.aload_n 0, 1) := by decide +kernel
theorem dX9_sees_70 : decode cX9_sees 70 = .ok (.getfield 142, 3) := by decide +kernel
theorem dX9_sees_73 : decode cX9_sees 73 = .ok (.ireturn, 1) := by decide +kernel
theorem dX9_forget_0 : decode cX9_forget 0 = .ok (.aload_n 0, 1) := by decide +kernel
theorem dX9_forget_1 : decode cX9_forget 1 = .ok (.iconst 0, 1) := by decide +kernel
theorem dX9_forget_2 : decode cX9_forget 2 = .ok (.putfield 29, 3) := by decide +kernel
theorem dX9_forget_5 : decode cX9_forget 5 = .ok (.aload_n 0, 1) := by decide +kernel
theorem dX9_forget_6 : decode cX9_forget 6 = .ok (.getfield 142, 3) := by decide +kernel
theorem dX9_forget_9 : decode cX9_forget 9 = .ok (.istore_n 1, 1) := by decide +kernel
theorem dX9_forget_10 : decode cX9_forget 10 = .ok (.aload_n 0, 1) := by decide +kernel
theorem dX9_forget_11 : decode cX9_forget 11 = .ok (.iconst 0, 1) := by decide +kernel
theorem dX9_forget_12 : decode cX9_forget 12 = .ok (.putfield 142, 3) := by decide +kernel
theorem dX9_forget_15 : decode cX9_forget 15 = .ok (.iload_n 1, 1) := by decide +kernel
theorem dX9_forget_16 : decode cX9_forget 16 = .ok (.ireturn, 1) := by decide +kernel
theorem dX9_unseen_0 : decode cX9_unseen 0 = .ok (.aload_n 0, 1) := by decide +kernel
theorem dX9_unseen_1 : decode cX9_unseen 1 = .ok (.iconst 0, 1) := by decide +kernel
theorem dX9_unseen_2 : decode cX9_unseen 2 = .ok (.putfield 29, 3) := by decide +kernel
theorem dX9_unseen_5 : decode cX9_unseen 5 = .ok (.iconst 0, 1) := by decide +kernel
theorem dX9_unseen_6 : decode cX9_unseen 6 = .ok (.istore_n 1, 1) := by decide +kernel
theorem dX9_unseen_7 : decode cX9_unseen 7 = .ok (.iconst 0, 1) := by decide +kernel
theorem dX9_unseen_8 : decode cX9_unseen 8 = .ok (.istore_n 2, 1) := by decide +kernel
theorem dX9_unseen_9 : decode cX9_unseen 9 = .ok (.iload_n 2, 1) := by decide +kernel
theorem dX9_unseen_10 : decode cX9_unseen 10 = .ok (.iconst 4, 1) := by decide +kernel
theorem dX9_unseen_11 : decode cX9_unseen 11 = .ok (.if_icmp .ge 74, 3) := by decide +kernel
theorem dX9_unseen_14 : decode cX9_unseen 14 = .ok (.iconst 1, 1) := by decide +kernel
theorem dX9_unseen_15 : decode cX9_unseen 15 = .ok (.istore_n 3, 1) := by decide +kernel
theorem dX9_unseen_16 : decode cX9_unseen 16 = .ok (.iconst 0, 1) := by decide +kernel
theorem dX9_unseen_17 : decode cX9_unseen 17 = .ok (.istore 4, 2) := by decide +kernel
theorem dX9_unseen_19 : decode cX9_unseen 19 = .ok (.iload 4, 2) := by decide +kernel
theorem dX9_unseen_21 : decode cX9_unseen 21 = .ok (.aload_n 0, 1) := by decide +kernel
theorem dX9_unseen_22 : decode cX9_unseen 22 = .ok (.getfield 142, 3) := by decide +kernel
theorem dX9_unseen_25 : decode cX9_unseen 25 = .ok (.if_icmp .ge 40, 3) := by decide +kernel
theorem dX9_unseen_28 : decode cX9_unseen 28 = .ok (.iload_n 3, 1) := by decide +kernel
theorem dX9_unseen_29 : decode cX9_unseen 29 = .ok (.ifCond .eq 28, 3) := by decide +kernel
theorem dX9_unseen_32 : decode cX9_unseen 32 = .ok (.iload_n 2, 1) := by decide +kernel
theorem dX9_unseen_33 : decode cX9_unseen 33 = .ok (.aload_n 0, 1) := by decide +kernel
theorem dX9_unseen_34 : decode cX9_unseen 34 = .ok (.getfield 23, 3) := by decide +kernel
theorem dX9_unseen_37 : decode cX9_unseen 37 = .ok (.iload 4, 2) := by decide +kernel
theorem dX9_unseen_39 : decode cX9_unseen 39 = .ok (.iaload, 1) := by decide +kernel
theorem dX9_unseen_40 : decode cX9_unseen 40 = .ok (.invokestatic 63, 3) := by decide +kernel
theorem dX9_unseen_43 : decode cX9_unseen 43 = .ok (.aload_n 0, 1) := by decide +kernel
theorem dX9_unseen_44 : decode cX9_unseen 44 = .ok (.getfield 26, 3) := by decide +kernel
theorem dX9_unseen_47 : decode cX9_unseen 47 = .ok (.iload 4, 2) := by decide +kernel
theorem dX9_unseen_49 : decode cX9_unseen 49 = .ok (.iaload, 1) := by decide +kernel
theorem dX9_unseen_50 : decode cX9_unseen 50 = .ok (.if_icmp .ne 7, 3) := by decide +kernel
theorem dX9_unseen_53 : decode cX9_unseen 53 = .ok (.iconst 1, 1) := by decide +kernel
theorem dX9_unseen_54 : decode cX9_unseen 54 = .ok (.goto 4, 3) := by decide +kernel
theorem dX9_unseen_57 : decode cX9_unseen 57 = .ok (.iconst 0, 1) := by decide +kernel
theorem dX9_unseen_58 : decode cX9_unseen 58 = .ok (.istore_n 3, 1) := by decide +kernel
theorem dX9_unseen_59 : decode cX9_unseen 59 = .ok (.iinc 4 1, 3) := by decide +kernel
theorem dX9_unseen_62 : decode cX9_unseen 62 = .ok (.goto (-43), 3) := by decide +kernel
theorem dX9_unseen_65 : decode cX9_unseen 65 = .ok (.iload_n 1, 1) := by decide +kernel
theorem dX9_unseen_66 : decode cX9_unseen 66 = .ok (.iload_n 3, 1) := by decide +kernel
theorem dX9_unseen_67 : decode cX9_unseen 67 = .ok (.ifCond .eq 9, 3) := by decide +kernel
theorem dX9_unseen_70 : decode cX9_unseen 70 = .ok (.iconst 1, 1) := by decide +kernel
theorem dX9_unseen_71 : decode cX9_unseen 71 = .ok (.iload_n 2, 1) := by decide +kernel
theorem dX9_unseen_72 : decode cX9_unseen 72 = .ok (.ishl, 1) := by decide +kernel
theorem dX9_unseen_73 : decode cX9_unseen 73 = .ok (.goto 4, 3) := by decide +kernel
theorem dX9_unseen_76 : decode cX9_unseen 76 = .ok (.iconst 0, 1) := by decide +kernel
theorem dX9_unseen_77 : decode cX9_unseen 77 = .ok (.ior, 1) := by decide +kernel
theorem dX9_unseen_78 : decode cX9_unseen 78 = .ok (.istore_n 1, 1) := by decide +kernel
theorem dX9_unseen_79 : decode cX9_unseen 79 = .ok (.iinc 2 1, 3) := by decide +kernel
theorem dX9_unseen_82 : decode cX9_unseen 82 = .ok (.goto (-73), 3) := by decide +kernel
theorem dX9_unseen_85 : decode cX9_unseen 85 = .ok (.iload_n 1, 1) := by decide +kernel
theorem dX9_unseen_86 : decode cX9_unseen 86 = .ok (.ireturn, 1) := by decide +kernel
theorem dX9_keep_0 : decode cX9_keep 0 = .ok (.aload_n 0, 1) := by decide +kernel
theorem dX9_keep_1 : decode cX9_keep 1 = .ok (.iconst 0, 1) := by decide +kernel
theorem dX9_keep_2 : decode cX9_keep 2 = .ok (.putfield 29, 3) := by decide +kernel
theorem dX9_keep_5 : decode cX9_keep 5 = .ok (.iload_n 1, 1) := by decide +kernel
theorem dX9_keep_6 : decode cX9_keep 6 = .ok (.iconst 0, 1) := by decide +kernel
theorem dX9_keep_7 : decode cX9_keep 7 = .ok (.iconst 1, 1) := by decide +kernel
theorem dX9_keep_8 : decode cX9_keep 8 = .ok (.invokestatic 46, 3) := by decide +kernel
theorem dX9_keep_11 : decode cX9_keep 11 = .ok (.ifCond .ne 5, 3) := by decide +kernel
theorem dX9_keep_14 : decode cX9_keep 14 = .ok (.iconst (-1), 1) := by decide +kernel
theorem dX9_keep_15 : decode cX9_keep 15 = .ok (.ireturn, 1) := by decide +kernel
theorem dX9_keep_16 : decode cX9_keep 16 = .ok (.iconst 0, 1) := by decide +kernel
theorem dX9_keep_17 : decode cX9_keep 17 = .ok (.istore_n 2, 1) := by decide +kernel
theorem dX9_keep_18 : decode cX9_keep 18 = .ok (.iload_n 2, 1) := by decide +kernel
theorem dX9_keep_19 : decode cX9_keep 19 = .ok (.bipush 95, 2) := by decide +kernel
theorem dX9_keep_21 : decode cX9_keep 21 = .ok (.if_icmp .ge 26, 3) := by decide +kernel
theorem dX9_keep_24 : decode cX9_keep 24 = .ok (.aload_n 0, 1) := by decide +kernel
theorem dX9_keep_25 : decode cX9_keep 25 = .ok (.getfield 16, 3) := by decide +kernel
theorem dX9_keep_28 : decode cX9_keep 28 = .ok (.bipush 95, 2) := by decide +kernel
theorem dX9_keep_30 : decode cX9_keep 30 = .ok (.iload_n 1, 1) := by decide +kernel
theorem dX9_keep_31 : decode cX9_keep 31 = .ok (.imul, 1) := by decide +kernel
theorem dX9_keep_32 : decode cX9_keep 32 = .ok (.iload_n 2, 1) := by decide +kernel
theorem dX9_keep_33 : decode cX9_keep 33 = .ok (.iadd, 1) := by decide +kernel
theorem dX9_keep_34 : decode cX9_keep 34 = .ok (.aload_n 0, 1) := by decide +kernel
theorem dX9_keep_35 : decode cX9_keep 35 = .ok (.getfield 7, 3) := by decide +kernel
theorem dX9_keep_38 : decode cX9_keep 38 = .ok (.iload_n 2, 1) := by decide +kernel
theorem dX9_keep_39 : decode cX9_keep 39 = .ok (.iaload, 1) := by decide +kernel
theorem dX9_keep_40 : decode cX9_keep 40 = .ok (.iastore, 1) := by decide +kernel
theorem dX9_keep_41 : decode cX9_keep 41 = .ok (.iinc 2 1, 3) := by decide +kernel
theorem dX9_keep_44 : decode cX9_keep 44 = .ok (.goto (-26), 3) := by decide +kernel
theorem dX9_keep_47 : decode cX9_keep 47 = .ok (.aload_n 0, 1) := by decide +kernel
theorem dX9_keep_48 : decode cX9_keep 48 = .ok (.getfield 19, 3) := by decide +kernel
theorem dX9_keep_51 : decode cX9_keep 51 = .ok (.iload_n 1, 1) := by decide +kernel
theorem dX9_keep_52 : decode cX9_keep 52 = .ok (.iconst 1, 1) := by decide +kernel
theorem dX9_keep_53 : decode cX9_keep 53 = .ok (.bastore, 1) := by decide +kernel
theorem dX9_keep_54 : decode cX9_keep 54 = .ok (.aload_n 0, 1) := by decide +kernel
theorem dX9_keep_55 : decode cX9_keep 55 = .ok (.getfield 7, 3) := by decide +kernel
theorem dX9_keep_58 : decode cX9_keep 58 = .ok (.iconst 1, 1) := by decide +kernel
theorem dX9_keep_59 : decode cX9_keep 59 = .ok (.iaload, 1) := by decide +kernel
theorem dX9_keep_60 : decode cX9_keep 60 = .ok (.ireturn, 1) := by decide +kernel
theorem dX9_back_0 : decode cX9_back 0 = .ok (.aload_n 0, 1) := by decide +kernel
theorem dX9_back_1 : decode cX9_back 1 = .ok (.iconst 0, 1) := by decide +kernel
theorem dX9_back_2 : decode cX9_back 2 = .ok (.putfield 29, 3) := by decide +kernel
theorem dX9_back_5 : decode cX9_back 5 = .ok (.iload_n 1, 1) := by decide +kernel
theorem dX9_back_6 : decode cX9_back 6 = .ok (.iconst 0, 1) := by decide +kernel
theorem dX9_back_7 : decode cX9_back 7 = .ok (.iconst 1, 1) := by decide +kernel
theorem dX9_back_8 : decode cX9_back 8 = .ok (.invokestatic 46, 3) := by decide +kernel
theorem dX9_back_11 : decode cX9_back 11 = .ok (.ifCond .ne 5, 3) := by decide +kernel
theorem dX9_back_14 : decode cX9_back 14 = .ok (.iconst (-1), 1) := by decide +kernel
theorem dX9_back_15 : decode cX9_back 15 = .ok (.ireturn, 1) := by decide +kernel
theorem dX9_back_16 : decode cX9_back 16 = .ok (.aload_n 0, 1) := by decide +kernel
theorem dX9_back_17 : decode cX9_back 17 = .ok (.getfield 19, 3) := by decide +kernel
theorem dX9_back_20 : decode cX9_back 20 = .ok (.iload_n 1, 1) := by decide +kernel
theorem dX9_back_21 : decode cX9_back 21 = .ok (.baload, 1) := by decide +kernel
theorem dX9_back_22 : decode cX9_back 22 = .ok (.ifCond .ne 6, 3) := by decide +kernel
theorem dX9_back_25 : decode cX9_back 25 = .ok (.bipush (-2), 2) := by decide +kernel
theorem dX9_back_27 : decode cX9_back 27 = .ok (.ireturn, 1) := by decide +kernel
theorem dX9_back_28 : decode cX9_back 28 = .ok (.iconst 0, 1) := by decide +kernel
theorem dX9_back_29 : decode cX9_back 29 = .ok (.istore_n 2, 1) := by decide +kernel
theorem dX9_back_30 : decode cX9_back 30 = .ok (.iload_n 2, 1) := by decide +kernel
theorem dX9_back_31 : decode cX9_back 31 = .ok (.bipush 95, 2) := by decide +kernel
theorem dX9_back_33 : decode cX9_back 33 = .ok (.if_icmp .ge 26, 3) := by decide +kernel
theorem dX9_back_36 : decode cX9_back 36 = .ok (.aload_n 0, 1) := by decide +kernel
theorem dX9_back_37 : decode cX9_back 37 = .ok (.getfield 7, 3) := by decide +kernel
theorem dX9_back_40 : decode cX9_back 40 = .ok (.iload_n 2, 1) := by decide +kernel
theorem dX9_back_41 : decode cX9_back 41 = .ok (.aload_n 0, 1) := by decide +kernel
theorem dX9_back_42 : decode cX9_back 42 = .ok (.getfield 16, 3) := by decide +kernel
theorem dX9_back_45 : decode cX9_back 45 = .ok (.bipush 95, 2) := by decide +kernel
theorem dX9_back_47 : decode cX9_back 47 = .ok (.iload_n 1, 1) := by decide +kernel
theorem dX9_back_48 : decode cX9_back 48 = .ok (.imul, 1) := by decide +kernel
theorem dX9_back_49 : decode cX9_back 49 = .ok (.iload_n 2, 1) := by decide +kernel
theorem dX9_back_50 : decode cX9_back 50 = .ok (.iadd, 1) := by decide +kernel
theorem dX9_back_51 : decode cX9_back 51 = .ok (.iaload, 1) := by decide +kernel
theorem dX9_back_52 : decode cX9_back 52 = .ok (.iastore, 1) := by decide +kernel
theorem dX9_back_53 : decode cX9_back 53 = .ok (.iinc 2 1, 3) := by decide +kernel
theorem dX9_back_56 : decode cX9_back 56 = .ok (.goto (-26), 3) := by decide +kernel
theorem dX9_back_59 : decode cX9_back 59 = .ok (.aload_n 0, 1) := by decide +kernel
theorem dX9_back_60 : decode cX9_back 60 = .ok (.iconst 0, 1) := by decide +kernel
theorem dX9_back_61 : decode cX9_back 61 = .ok (.putfield 66, 3) := by decide +kernel
theorem dX9_back_64 : decode cX9_back 64 = .ok (.aload_n 0, 1) := by decide +kernel
theorem dX9_back_65 : decode cX9_back 65 = .ok (.getfield 7, 3) := by decide +kernel
theorem dX9_back_68 : decode cX9_back 68 = .ok (.iconst 1, 1) := by decide +kernel
theorem dX9_back_69 : decode cX9_back 69 = .ok (.iaload, 1) := by decide +kernel
theorem dX9_back_70 : decode cX9_back 70 = .ok (.ireturn, 1) := by decide +kernel
theorem dX9_count_0 : decode cX9_count 0 = .ok (.aload_n 0, 1) := by decide +kernel
theorem dX9_count_1 : decode cX9_count 1 = .ok (.iconst 0, 1) := by decide +kernel
theorem dX9_count_2 : decode cX9_count 2 = .ok (.putfield 29, 3) := by decide +kernel
theorem dX9_count_5 : decode cX9_count 5 = .ok (.iload_n 1, 1) := by decide +kernel
theorem dX9_count_6 : decode cX9_count 6 = .ok (.tableswitch 84 0 6 #[42, 49, 54, 61, 66, 74, 79], 42) := by decide +kernel
theorem dX9_count_48 : decode cX9_count 48 = .ok (.aload_n 0, 1) := by decide +kernel
theorem dX9_count_49 : decode cX9_count 49 = .ok (.getfield 7, 3) := by decide +kernel
theorem dX9_count_52 : decode cX9_count 52 = .ok (.iconst 0, 1) := by decide +kernel
theorem dX9_count_53 : decode cX9_count 53 = .ok (.iaload, 1) := by decide +kernel
theorem dX9_count_54 : decode cX9_count 54 = .ok (.ireturn, 1) := by decide +kernel
theorem dX9_count_55 : decode cX9_count 55 = .ok (.aload_n 0, 1) := by decide +kernel
theorem dX9_count_56 : decode cX9_count 56 = .ok (.invokevirtual 42, 3) := by decide +kernel
theorem dX9_count_59 : decode cX9_count 59 = .ok (.ireturn, 1) := by decide +kernel
theorem dX9_count_60 : decode cX9_count 60 = .ok (.aload_n 0, 1) := by decide +kernel
theorem dX9_count_61 : decode cX9_count 61 = .ok (.getfield 7, 3) := by decide +kernel
theorem dX9_count_64 : decode cX9_count 64 = .ok (.iconst 1, 1) := by decide +kernel
theorem dX9_count_65 : decode cX9_count 65 = .ok (.iaload, 1) := by decide +kernel
theorem dX9_count_66 : decode cX9_count 66 = .ok (.ireturn, 1) := by decide +kernel
theorem dX9_count_67 : decode cX9_count 67 = .ok (.aload_n 0, 1) := by decide +kernel
theorem dX9_count_68 : decode cX9_count 68 = .ok (.invokevirtual 75, 3) := by decide +kernel
theorem dX9_count_71 : decode cX9_count 71 = .ok (.ireturn, 1) := by decide +kernel
theorem dX9_count_72 : decode cX9_count 72 = .ok (.aload_n 0, 1) := by decide +kernel
theorem dX9_count_73 : decode cX9_count 73 = .ok (.getfield 7, 3) := by decide +kernel
theorem dX9_count_76 : decode cX9_count 76 = .ok (.bipush 20, 2) := by decide +kernel
theorem dX9_count_78 : decode cX9_count 78 = .ok (.iaload, 1) := by decide +kernel
theorem dX9_count_79 : decode cX9_count 79 = .ok (.ireturn, 1) := by decide +kernel
theorem dX9_count_80 : decode cX9_count 80 = .ok (.aload_n 0, 1) := by decide +kernel
theorem dX9_count_81 : decode cX9_count 81 = .ok (.getfield 142, 3) := by decide +kernel
theorem dX9_count_84 : decode cX9_count 84 = .ok (.ireturn, 1) := by decide +kernel
theorem dX9_count_85 : decode cX9_count 85 = .ok (.aload_n 0, 1) := by decide +kernel
theorem dX9_count_86 : decode cX9_count 86 = .ok (.getfield 66, 3) := by decide +kernel
theorem dX9_count_89 : decode cX9_count 89 = .ok (.ireturn, 1) := by decide +kernel
theorem dX9_count_90 : decode cX9_count 90 = .ok (.iconst (-1), 1) := by decide +kernel
theorem dX9_count_91 : decode cX9_count 91 = .ok (.ireturn, 1) := by decide +kernel
