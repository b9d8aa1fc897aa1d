theorem dX0_init_0 : decode cX0_init 0 = .ok (.aload_n 0, 1) := by decide +kernel
theorem dX0_init_1 : decode cX0_init 1 = .ok (.invokespecial 1, 3) := by decide +kernel
theorem dX0_init_4 : decode cX0_init 4 = .ok (.return_, 1) := by decide +kernel
theorem dX0_wayTo_0 : decode cX0_wayTo 0 = .ok (.iload_n 1, 1) := by decide +kernel
theorem dX0_wayTo_1 : decode cX0_wayTo 1 = .ok (.aload_n 0, 1) := by decide +kernel
theorem dX0_wayTo_2 : decode cX0_wayTo 2 = .ok (.getfield 7, 3) := by decide +kernel
theorem dX0_wayTo_5 : decode cX0_wayTo 5 = .ok (.iadd, 1) := by decide +kernel
theorem dX0_wayTo_6 : decode cX0_wayTo 6 = .ok (.aload_n 0, 1) := by decide +kernel
theorem dX0_wayTo_7 : decode cX0_wayTo 7 = .ok (.getfield 13, 3) := by decide +kernel
theorem dX0_wayTo_10 : decode cX0_wayTo 10 = .ok (.isub, 1) := by decide +kernel
theorem dX0_wayTo_11 : decode cX0_wayTo 11 = .ok (.iload_n 2, 1) := by decide +kernel
theorem dX0_wayTo_12 : decode cX0_wayTo 12 = .ok (.invokestatic 16, 3) := by decide +kernel
theorem dX0_wayTo_15 : decode cX0_wayTo 15 = .ok (.istore_n 3, 1) := by decide +kernel
theorem dX0_wayTo_16 : decode cX0_wayTo 16 = .ok (.iconst 2, 1) := by decide +kernel
theorem dX0_wayTo_17 : decode cX0_wayTo 17 = .ok (.iload_n 3, 1) := by decide +kernel
theorem dX0_wayTo_18 : decode cX0_wayTo 18 = .ok (.imul, 1) := by decide +kernel
theorem dX0_wayTo_19 : decode cX0_wayTo 19 = .ok (.iload_n 2, 1) := by decide +kernel
theorem dX0_wayTo_20 : decode cX0_wayTo 20 = .ok (.if_icmp .le 9, 3) := by decide +kernel
theorem dX0_wayTo_23 : decode cX0_wayTo 23 = .ok (.iload_n 3, 1) := by decide +kernel
theorem dX0_wayTo_24 : decode cX0_wayTo 24 = .ok (.iload_n 2, 1) := by decide +kernel
theorem dX0_wayTo_25 : decode cX0_wayTo 25 = .ok (.isub, 1) := by decide +kernel
theorem dX0_wayTo_26 : decode cX0_wayTo 26 = .ok (.goto 4, 3) := by decide +kernel
theorem dX0_wayTo_29 : decode cX0_wayTo 29 = .ok (.iload_n 3, 1) := by decide +kernel
theorem dX0_wayTo_30 : decode cX0_wayTo 30 = .ok (.ireturn, 1) := by decide +kernel
theorem dX0_isAt_0 : decode cX0_isAt 0 = .ok (.aload_n 0, 1) := by decide +kernel
theorem dX0_isAt_1 : decode cX0_isAt 1 = .ok (.getfield 22, 3) := by decide +kernel
theorem dX0_isAt_4 : decode cX0_isAt 4 = .ok (.ifCond .ne 16, 3) := by decide +kernel
theorem dX0_isAt_7 : decode cX0_isAt 7 = .ok (.aload_n 0, 1) := by decide +kernel
theorem dX0_isAt_8 : decode cX0_isAt 8 = .ok (.iload_n 1, 1) := by decide +kernel
theorem dX0_isAt_9 : decode cX0_isAt 9 = .ok (.iload_n 2, 1) := by decide +kernel
theorem dX0_isAt_10 : decode cX0_isAt 10 = .ok (.invokevirtual 25, 3) := by decide +kernel
theorem dX0_isAt_13 : decode cX0_isAt 13 = .ok (.ifCond .ne 7, 3) := by decide +kernel
theorem dX0_isAt_16 : decode cX0_isAt 16 = .ok (.iconst 1, 1) := by decide +kernel
theorem dX0_isAt_17 : decode cX0_isAt 17 = .ok (.goto 4, 3) := by decide +kernel
theorem dX0_isAt_20 : decode cX0_isAt 20 = .ok (.iconst 0, 1) := by decide +kernel
theorem dX0_isAt_21 : decode cX0_isAt 21 = .ok (.ireturn, 1) := by decide +kernel
theorem dX0_step_0 : decode cX0_step 0 = .ok (.aload_n 0, 1) := by decide +kernel
theorem dX0_step_1 : decode cX0_step 1 = .ok (.iload_n 1, 1) := by decide +kernel
theorem dX0_step_2 : decode cX0_step 2 = .ok (.iload_n 2, 1) := by decide +kernel
theorem dX0_step_3 : decode cX0_step 3 = .ok (.invokevirtual 25, 3) := by decide +kernel
theorem dX0_step_6 : decode cX0_step 6 = .ok (.invokestatic 28, 3) := by decide +kernel
theorem dX0_step_9 : decode cX0_step 9 = .ok (.istore_n 3, 1) := by decide +kernel
theorem dX0_step_10 : decode cX0_step 10 = .ok (.aload_n 0, 1) := by decide +kernel
theorem dX0_step_11 : decode cX0_step 11 = .ok (.dup, 1) := by decide +kernel
theorem dX0_step_12 : decode cX0_step 12 = .ok (.getfield 22, 3) := by decide +kernel
theorem dX0_step_15 : decode cX0_step 15 = .ok (.iload_n 3, 1) := by decide +kernel
theorem dX0_step_16 : decode cX0_step 16 = .ok (.aload_n 0, 1) := by decide +kernel
theorem dX0_step_17 : decode cX0_step 17 = .ok (.getfield 22, 3) := by decide +kernel
theorem dX0_step_20 : decode cX0_step 20 = .ok (.invokestatic 32, 3) := by decide +kernel
theorem dX0_step_23 : decode cX0_step 23 = .ok (.iadd, 1) := by decide +kernel
theorem dX0_step_24 : decode cX0_step 24 = .ok (.putfield 22, 3) := by decide +kernel
theorem dX0_step_27 : decode cX0_step 27 = .ok (.aload_n 0, 1) := by decide +kernel
theorem dX0_step_28 : decode cX0_step 28 = .ok (.aload_n 0, 1) := by decide +kernel
theorem dX0_step_29 : decode cX0_step 29 = .ok (.getfield 13, 3) := by decide +kernel
theorem dX0_step_32 : decode cX0_step 32 = .ok (.aload_n 0, 1) := by decide +kernel
theorem dX0_step_33 : decode cX0_step 33 = .ok (.getfield 22, 3) := by decide +kernel
theorem dX0_step_36 : decode cX0_step 36 = .ok (.iadd, 1) := by decide +kernel
theorem dX0_step_37 : decode cX0_step 37 = .ok (.iload_n 2, 1) := by decide +kernel
theorem dX0_step_38 : decode cX0_step 38 = .ok (.invokestatic 16, 3) := by decide +kernel
theorem dX0_step_41 : decode cX0_step 41 = .ok (.putfield 13, 3) := by decide +kernel
theorem dX0_step_44 : decode cX0_step 44 = .ok (.return_, 1) := by decide +kernel
theorem dX0_wantedFor_0 : decode cX0_wantedFor 0 = .ok (.iload_n 0, 1) := by decide +kernel
theorem dX0_wantedFor_1 : decode cX0_wantedFor 1 = .ok (.invokestatic 37, 3) := by decide +kernel
theorem dX0_wantedFor_4 : decode cX0_wantedFor 4 = .ok (.istore_n 1, 1) := by decide +kernel
theorem dX0_wantedFor_5 : decode cX0_wantedFor 5 = .ok (.iconst 0, 1) := by decide +kernel
theorem dX0_wantedFor_6 : decode cX0_wantedFor 6 = .ok (.istore_n 2, 1) := by decide +kernel
theorem dX0_wantedFor_7 : decode cX0_wantedFor 7 = .ok (.bipush 64, 2) := by decide +kernel
theorem dX0_wantedFor_9 : decode cX0_wantedFor 9 = .ok (.istore_n 3, 1) := by decide +kernel
theorem dX0_wantedFor_10 : decode cX0_wantedFor 10 = .ok (.iload_n 3, 1) := by decide +kernel
theorem dX0_wantedFor_11 : decode cX0_wantedFor 11 = .ok (.ifCond .le 38, 3) := by decide +kernel
theorem dX0_wantedFor_14 : decode cX0_wantedFor 14 = .ok (.iload_n 2, 1) := by decide +kernel
theorem dX0_wantedFor_15 : decode cX0_wantedFor 15 = .ok (.iload_n 3, 1) := by decide +kernel
theorem dX0_wantedFor_16 : decode cX0_wantedFor 16 = .ok (.iadd, 1) := by decide +kernel
theorem dX0_wantedFor_17 : decode cX0_wantedFor 17 = .ok (.istore 4, 2) := by decide +kernel
theorem dX0_wantedFor_19 : decode cX0_wantedFor 19 = .ok (.iload 4, 2) := by decide +kernel
theorem dX0_wantedFor_21 : decode cX0_wantedFor 21 = .ok (.bipush 99, 2) := by decide +kernel
theorem dX0_wantedFor_23 : decode cX0_wantedFor 23 = .ok (.if_icmp .gt 19, 3) := by decide +kernel
theorem dX0_wantedFor_26 : decode cX0_wantedFor 26 = .ok (.iload 4, 2) := by decide +kernel
theorem dX0_wantedFor_28 : decode cX0_wantedFor 28 = .ok (.iload 4, 2) := by decide +kernel
theorem dX0_wantedFor_30 : decode cX0_wantedFor 30 = .ok (.iconst 1, 1) := by decide +kernel
theorem dX0_wantedFor_31 : decode cX0_wantedFor 31 = .ok (.iadd, 1) := by decide +kernel
theorem dX0_wantedFor_32 : decode cX0_wantedFor 32 = .ok (.imul, 1) := by decide +kernel
theorem dX0_wantedFor_33 : decode cX0_wantedFor 33 = .ok (.iconst 2, 1) := by decide +kernel
theorem dX0_wantedFor_34 : decode cX0_wantedFor 34 = .ok (.idiv, 1) := by decide +kernel
theorem dX0_wantedFor_35 : decode cX0_wantedFor 35 = .ok (.iload_n 1, 1) := by decide +kernel
theorem dX0_wantedFor_36 : decode cX0_wantedFor 36 = .ok (.if_icmp .gt 6, 3) := by decide +kernel
theorem dX0_wantedFor_39 : decode cX0_wantedFor 39 = .ok (.iload 4, 2) := by decide +kernel
theorem dX0_wantedFor_41 : decode cX0_wantedFor 41 = .ok (.istore_n 2, 1) := by decide +kernel
theorem dX0_wantedFor_42 : decode cX0_wantedFor 42 = .ok (.iload_n 3, 1) := by decide +kernel
theorem dX0_wantedFor_43 : decode cX0_wantedFor 43 = .ok (.iconst 2, 1) := by decide +kernel
theorem dX0_wantedFor_44 : decode cX0_wantedFor 44 = .ok (.idiv, 1) := by decide +kernel
theorem dX0_wantedFor_45 : decode cX0_wantedFor 45 = .ok (.istore_n 3, 1) := by decide +kernel
theorem dX0_wantedFor_46 : decode cX0_wantedFor 46 = .ok (.goto (-36), 3) := by decide +kernel
theorem dX0_wantedFor_49 : decode cX0_wantedFor 49 = .ok (.iload_n 0, 1) := by decide +kernel
theorem dX0_wantedFor_50 : decode cX0_wantedFor 50 = .ok (.ifCond .ge 8, 3) := by decide +kernel
theorem dX0_wantedFor_53 : decode cX0_wantedFor 53 = .ok (.iload_n 2, 1) := by decide +kernel
theorem dX0_wantedFor_54 : decode cX0_wantedFor 54 = .ok (.ineg, 1) := by decide +kernel
theorem dX0_wantedFor_55 : decode cX0_wantedFor 55 = .ok (.goto 4, 3) := by decide +kernel
theorem dX0_wantedFor_58 : decode cX0_wantedFor 58 = .ok (.iload_n 2, 1) := by decide +kernel
theorem dX0_wantedFor_59 : decode cX0_wantedFor 59 = .ok (.ireturn, 1) := by decide +kernel
theorem dX0_copy_0 : decode cX0_copy 0 = .ok (.aload_n 0, 1) := by decide +kernel
theorem dX0_copy_1 : decode cX0_copy 1 = .ok (.aload_n 1, 1) := by decide +kernel
theorem dX0_copy_2 : decode cX0_copy 2 = .ok (.getfield 13, 3) := by decide +kernel
theorem dX0_copy_5 : decode cX0_copy 5 = .ok (.putfield 13, 3) := by decide +kernel
theorem dX0_copy_8 : decode cX0_copy 8 = .ok (.aload_n 0, 1) := by decide +kernel
theorem dX0_copy_9 : decode cX0_copy 9 = .ok (.aload_n 1, 1) := by decide +kernel
theorem dX0_copy_10 : decode cX0_copy 10 = .ok (.getfield 22, 3) := by decide +kernel
theorem dX0_copy_13 : decode cX0_copy 13 = .ok (.putfield 22, 3) := by decide +kernel
theorem dX0_copy_16 : decode cX0_copy 16 = .ok (.aload_n 0, 1) := by decide +kernel
theorem dX0_copy_17 : decode cX0_copy 17 = .ok (.aload_n 1, 1) := by decide +kernel
theorem dX0_copy_18 : decode cX0_copy 18 = .ok (.getfield 7, 3) := by decide +kernel
theorem dX0_copy_21 : decode cX0_copy 21 = .ok (.putfield 7, 3) := by decide +kernel
theorem dX0_copy_24 : decode cX0_copy 24 = .ok (.return_, 1) := by decide +kernel
theorem dX1_init_0 : decode cX1_init 0 = .ok (.aload_n 0, 1) := by decide +kernel
theorem dX1_init_1 : decode cX1_init 1 = .ok (.invokespecial 1, 3) := by decide +kernel
theorem dX1_init_4 : decode cX1_init 4 = .ok (.aload_n 0, 1) := by decide +kernel
theorem dX1_init_5 : decode cX1_init 5 = .ok (.bipush 8, 2) := by decide +kernel
theorem dX1_init_7 : decode cX1_init 7 = .ok (.anewarray 9, 3) := by decide +kernel
theorem dX1_init_10 : decode cX1_init 10 = .ok (.putfield 11, 3) := by decide +kernel
theorem dX1_init_13 : decode cX1_init 13 = .ok (.return_, 1) := by decide +kernel
theorem dX1_add_0 : decode cX1_add 0 = .ok (.aload_n 0, 1) := by decide +kernel
theorem dX1_add_1 : decode cX1_add 1 = .ok (.getfield 15, 3) := by decide +kernel
theorem dX1_add_4 : decode cX1_add 4 = .ok (.bipush 8, 2) := by decide +kernel
theorem dX1_add_6 : decode cX1_add 6 = .ok (.invokestatic 19, 3) := by decide +kernel
theorem dX1_add_9 : decode cX1_add 9 = .ok (.istore_n 2, 1) := by decide +kernel
theorem dX1_add_10 : decode cX1_add 10 = .ok (.aload_n 0, 1) := by decide +kernel
theorem dX1_add_11 : decode cX1_add 11 = .ok (.getfield 11, 3) := by decide +kernel
theorem dX1_add_14 : decode cX1_add 14 = .ok (.iload_n 2, 1) := by decide +kernel
theorem dX1_add_15 : decode cX1_add 15 = .ok (.aaload, 1) := by decide +kernel
theorem dX1_add_16 : decode cX1_add 16 = .ok (.astore_n 3, 1) := by decide +kernel
theorem dX1_add_17 : decode cX1_add 17 = .ok (.aload_n 3, 1) := by decide +kernel
theorem dX1_add_18 : decode cX1_add 18 = .ok (.ifnonnull 18, 3) := by decide +kernel
theorem dX1_add_21 : decode cX1_add 21 = .ok (.new 9, 3) := by decide +kernel
theorem dX1_add_24 : decode cX1_add 24 = .ok (.dup, 1) := by decide +kernel
theorem dX1_add_25 : decode cX1_add 25 = .ok (.invokespecial 25, 3) := by decide +kernel
theorem dX1_add_28 : decode cX1_add 28 = .ok (.astore_n 3, 1) := by decide +kernel
theorem dX1_add_29 : decode cX1_add 29 = .ok (.aload_n 0, 1) := by decide +kernel
theorem dX1_add_30 : decode cX1_add 30 = .ok (.getfield 11, 3) := by decide +kernel
theorem dX1_add_33 : decode cX1_add 33 = .ok (.iload_n 2, 1) := by decide +kernel
theorem dX1_add_34 : decode cX1_add 34 = .ok (.aload_n 3, 1) := by decide +kernel
theorem dX1_add_35 : decode cX1_add 35 = .ok (.aastore, 1) := by decide +kernel
theorem dX1_add_36 : decode cX1_add 36 = .ok (.aload_n 3, 1) := by decide +kernel
theorem dX1_add_37 : decode cX1_add 37 = .ok (.aload_n 1, 1) := by decide +kernel
theorem dX1_add_38 : decode cX1_add 38 = .ok (.invokevirtual 26, 3) := by decide +kernel
theorem dX1_add_41 : decode cX1_add 41 = .ok (.aload_n 0, 1) := by decide +kernel
theorem dX1_add_42 : decode cX1_add 42 = .ok (.iload_n 2, 1) := by decide +kernel
theorem dX1_add_43 : decode cX1_add 43 = .ok (.iconst 1, 1) := by decide +kernel
theorem dX1_add_44 : decode cX1_add 44 = .ok (.iadd, 1) := by decide +kernel
theorem dX1_add_45 : decode cX1_add 45 = .ok (.putfield 15, 3) := by decide +kernel
theorem dX1_add_48 : decode cX1_add 48 = .ok (.aload_n 0, 1) := by decide +kernel
theorem dX1_add_49 : decode cX1_add 49 = .ok (.aload_n 0, 1) := by decide +kernel
theorem dX1_add_50 : decode cX1_add 50 = .ok (.getfield 30, 3) := by decide +kernel
theorem dX1_add_53 : decode cX1_add 53 = .ok (.iconst 1, 1) := by decide +kernel
theorem dX1_add_54 : decode cX1_add 54 = .ok (.iadd, 1) := by decide +kernel
theorem dX1_add_55 : decode cX1_add 55 = .ok (.bipush 8, 2) := by decide +kernel
theorem dX1_add_57 : decode cX1_add 57 = .ok (.invokestatic 33, 3) := by decide +kernel
theorem dX1_add_60 : decode cX1_add 60 = .ok (.putfield 30, 3) := by decide +kernel
theorem dX1_add_63 : decode cX1_add 63 = .ok (.return_, 1) := by decide +kernel
theorem dX1_takeBack_0 : decode cX1_takeBack 0 = .ok (.aload_n 0, 1) := by decide +kernel
theorem dX1_takeBack_1 : decode cX1_takeBack 1 = .ok (.getfield 15, 3) := by decide +kernel
theorem dX1_takeBack_4 : decode cX1_takeBack 4 = .ok (.iconst 1, 1) := by decide +kernel
theorem dX1_takeBack_5 : decode cX1_takeBack 5 = .ok (.isub, 1) := by decide +kernel
theorem dX1_takeBack_6 : decode cX1_takeBack 6 = .ok (.bipush 8, 2) := by decide +kernel
theorem dX1_takeBack_8 : decode cX1_takeBack 8 = .ok (.invokestatic 19, 3) := by decide +kernel
theorem dX1_takeBack_11 : decode cX1_takeBack 11 = .ok (.istore_n 2, 1) := by decide +kernel
theorem dX1_takeBack_12 : decode cX1_takeBack 12 = .ok (.aload_n 0, 1) := by decide +kernel
theorem dX1_takeBack_13 : decode cX1_takeBack 13 = .ok (.getfield 11, 3) := by decide +kernel
theorem dX1_takeBack_16 : decode cX1_takeBack 16 = .ok (.iload_n 2, 1) := by decide +kernel
theorem dX1_takeBack_17 : decode cX1_takeBack 17 = .ok (.aaload, 1) := by decide +kernel
theorem dX1_takeBack_18 : decode cX1_takeBack 18 = .ok (.astore_n 3, 1) := by decide +kernel
theorem dX1_takeBack_19 : decode cX1_takeBack 19 = .ok (.aload_n 0, 1) := by decide +kernel
theorem dX1_takeBack_20 : decode cX1_takeBack 20 = .ok (.getfield 30, 3) := by decide +kernel
theorem dX1_takeBack_23 : decode cX1_takeBack 23 = .ok (.iconst 1, 1) := by decide +kernel
theorem dX1_takeBack_24 : decode cX1_takeBack 24 = .ok (.if_icmp .lt 7, 3) := by decide +kernel
theorem dX1_takeBack_27 : decode cX1_takeBack 27 = .ok (.aload_n 3, 1) := by decide +kernel
theorem dX1_takeBack_28 : decode cX1_takeBack 28 = .ok (.ifnonnull 5, 3) := by decide +kernel
theorem dX1_takeBack_31 : decode cX1_takeBack 31 = .ok (.iconst 0, 1) := by decide +kernel
theorem dX1_takeBack_32 : decode cX1_takeBack 32 = .ok (.ireturn, 1) := by decide +kernel
theorem dX1_takeBack_33 : decode cX1_takeBack 33 = .ok (.aload_n 1, 1) := by decide +kernel
theorem dX1_takeBack_34 : decode cX1_takeBack 34 = .ok (.aload_n 3, 1) := by decide +kernel
theorem dX1_takeBack_35 : decode cX1_takeBack 35 = .ok (.invokevirtual 26, 3) := by decide +kernel
theorem dX1_takeBack_38 : decode cX1_takeBack 38 = .ok (.aload_n 0, 1) := by decide +kernel
theorem dX1_takeBack_39 : decode cX1_takeBack 39 = .ok (.iload_n 2, 1) := by decide +kernel
theorem dX1_takeBack_40 : decode cX1_takeBack 40 = .ok (.putfield 15, 3) := by decide +kernel
theorem dX1_takeBack_43 : decode cX1_takeBack 43 = .ok (.aload_n 0, 1) := by decide +kernel
theorem dX1_takeBack_44 : decode cX1_takeBack 44 = .ok (.dup, 1) := by decide +kernel
theorem dX1_takeBack_45 : decode cX1_takeBack 45 = .ok (.getfield 30, 3) := by decide +kernel
theorem dX1_takeBack_48 : decode cX1_takeBack 48 = .ok (.iconst 1, 1) := by decide +kernel
theorem dX1_takeBack_49 : decode cX1_takeBack 49 = .ok (.isub, 1) := by decide +kernel
theorem dX1_takeBack_50 : decode cX1_takeBack 50 = .ok (.putfield 30, 3) := by decide +kernel
theorem dX1_takeBack_53 : decode cX1_takeBack 53 = .ok (.iconst 1, 1) := by decide +kernel
theorem dX1_takeBack_54 : decode cX1_takeBack 54 = .ok (.ireturn, 1) := by decide +kernel
theorem dX2_framesASecond_0 : decode cX2_framesASecond 0 = .ok (.iload_n 0, 1) := by decide +kernel
theorem dX2_framesASecond_1 : decode cX2_framesASecond 1 = .ok (.lookupswitch 33 #[(0, 27), (1, 30)], 27) := by decide +kernel
theorem dX2_framesASecond_28 : decode cX2_framesASecond 28 = .ok (.bipush 24, 2) := by decide +kernel
theorem dX2_framesASecond_30 : decode cX2_framesASecond 30 = .ok (.ireturn, 1) := by decide +kernel
theorem dX2_framesASecond_31 : decode cX2_framesASecond 31 = .ok (.bipush 25, 2) := by decide +kernel
theorem dX2_framesASecond_33 : decode cX2_framesASecond 33 = .ok (.ireturn, 1) := by decide +kernel
theorem dX2_framesASecond_34 : decode cX2_framesASecond 34 = .ok (.bipush 30, 2) := by decide +kernel
theorem dX2_framesASecond_36 : decode cX2_framesASecond 36 = .ok (.ireturn, 1) := by decide +kernel
theorem dX2_dayOf_0 : decode cX2_dayOf 0 = .ok (.iload_n 0, 1) := by decide +kernel
theorem dX2_dayOf_1 : decode cX2_dayOf 1 = .ok (.tableswitch 36 0 2 #[27, 30, 33], 27) := by decide +kernel
theorem dX2_dayOf_28 : decode cX2_dayOf 28 = .ok (.ldc 9, 2) := by decide +kernel
theorem dX2_dayOf_30 : decode cX2_dayOf 30 = .ok (.ireturn, 1) := by decide +kernel
theorem dX2_dayOf_31 : decode cX2_dayOf 31 = .ok (.ldc 10, 2) := by decide +kernel
theorem dX2_dayOf_33 : decode cX2_dayOf 33 = .ok (.ireturn, 1) := by decide +kernel
theorem dX2_dayOf_34 : decode cX2_dayOf 34 = .ok (.ldc 11, 2) := by decide +kernel
theorem dX2_dayOf_36 : decode cX2_dayOf 36 = .ok (.ireturn, 1) := by decide +kernel
theorem dX2_dayOf_37 : decode cX2_dayOf 37 = .ok (.ldc 12, 2) := by decide +kernel
theorem dX2_dayOf_39 : decode cX2_dayOf 39 = .ok (.ireturn, 1) := by decide +kernel
theorem dX2_leftOutInDay_0 : decode cX2_leftOutInDay 0 = .ok (.iload_n 0, 1) := by decide +kernel
theorem dX2_leftOutInDay_1 : decode cX2_leftOutInDay 1 = .ok (.iconst 3, 1) := by decide +kernel
theorem dX2_leftOutInDay_2 : decode cX2_leftOutInDay 2 = .ok (.if_icmp .ne 9, 3) := by decide +kernel
theorem dX2_leftOutInDay_5 : decode cX2_leftOutInDay 5 = .ok (.sipush 2592, 3) := by decide +kernel
theorem dX2_leftOutInDay_8 : decode cX2_leftOutInDay 8 = .ok (.goto 4, 3) := by decide +kernel
theorem dX2_leftOutInDay_11 : decode cX2_leftOutInDay 11 = .ok (.iconst 0, 1) := by decide +kernel
theorem dX2_leftOutInDay_12 : decode cX2_leftOutInDay 12 = .ok (.ireturn, 1) := by decide +kernel
theorem dX2_leftOutUpTo_0 : decode cX2_leftOutUpTo 0 = .ok (.iload_n 0, 1) := by decide +kernel
theorem dX2_leftOutUpTo_1 : decode cX2_leftOutUpTo 1 = .ok (.iconst 3, 1) := by decide +kernel
theorem dX2_leftOutUpTo_2 : decode cX2_leftOutUpTo 2 = .ok (.if_icmp .eq 5, 3) := by decide +kernel
theorem dX2_leftOutUpTo_5 : decode cX2_leftOutUpTo 5 = .ok (.iconst 0, 1) := by decide +kernel
theorem dX2_leftOutUpTo_6 : decode cX2_leftOutUpTo 6 = .ok (.ireturn, 1) := by decide +kernel
theorem dX2_leftOutUpTo_7 : decode cX2_leftOutUpTo 7 = .ok (.iload_n 1, 1) := by decide +kernel
theorem dX2_leftOutUpTo_8 : decode cX2_leftOutUpTo 8 = .ok (.sipush 17982, 3) := by decide +kernel
theorem dX2_leftOutUpTo_11 : decode cX2_leftOutUpTo 11 = .ok (.idiv, 1) := by decide +kernel
theorem dX2_leftOutUpTo_12 : decode cX2_leftOutUpTo 12 = .ok (.istore_n 2, 1) := by decide +kernel
theorem dX2_leftOutUpTo_13 : decode cX2_leftOutUpTo 13 = .ok (.iload_n 1, 1) := by decide +kernel
theorem dX2_leftOutUpTo_14 : decode cX2_leftOutUpTo 14 = .ok (.sipush 17982, 3) := by decide +kernel
theorem dX2_leftOutUpTo_17 : decode cX2_leftOutUpTo 17 = .ok (.irem, 1) := by decide +kernel
theorem dX2_leftOutUpTo_18 : decode cX2_leftOutUpTo 18 = .ok (.istore_n 3, 1) := by decide +kernel
theorem dX2_leftOutUpTo_19 : decode cX2_leftOutUpTo 19 = .ok (.iload_n 3, 1) := by decide +kernel
theorem dX2_leftOutUpTo_20 : decode cX2_leftOutUpTo 20 = .ok (.sipush 1800, 3) := by decide +kernel
theorem dX2_leftOutUpTo_23 : decode cX2_leftOutUpTo 23 = .ok (.if_icmp .ge 7, 3) := by decide +kernel
theorem dX2_leftOutUpTo_26 : decode cX2_leftOutUpTo 26 = .ok (.iconst 0, 1) := by decide +kernel
theorem dX2_leftOutUpTo_27 : decode cX2_leftOutUpTo 27 = .ok (.goto 14, 3) := by decide +kernel
theorem dX2_leftOutUpTo_30 : decode cX2_leftOutUpTo 30 = .ok (.iload_n 3, 1) := by decide +kernel
theorem dX2_leftOutUpTo_31 : decode cX2_leftOutUpTo 31 = .ok (.sipush 1800, 3) := by decide +kernel
theorem dX2_leftOutUpTo_34 : decode cX2_leftOutUpTo 34 = .ok (.isub, 1) := by decide +kernel
theorem dX2_leftOutUpTo_35 : decode cX2_leftOutUpTo 35 = .ok (.sipush 1798, 3) := by decide +kernel
theorem dX2_leftOutUpTo_38 : decode cX2_leftOutUpTo 38 = .ok (.idiv, 1) := by decide +kernel
theorem dX2_leftOutUpTo_39 : decode cX2_leftOutUpTo 39 = .ok (.iconst 1, 1) := by decide +kernel
theorem dX2_leftOutUpTo_40 : decode cX2_leftOutUpTo 40 = .ok (.iadd, 1) := by decide +kernel
theorem dX2_leftOutUpTo_41 : decode cX2_leftOutUpTo 41 = .ok (.istore 4, 2) := by decide +kernel
theorem dX2_leftOutUpTo_43 : decode cX2_leftOutUpTo 43 = .ok (.bipush 18, 2) := by decide +kernel
theorem dX2_leftOutUpTo_45 : decode cX2_leftOutUpTo 45 = .ok (.iload_n 2, 1) := by decide +kernel
theorem dX2_leftOutUpTo_46 : decode cX2_leftOutUpTo 46 = .ok (.imul, 1) := by decide +kernel
theorem dX2_leftOutUpTo_47 : decode cX2_leftOutUpTo 47 = .ok (.iconst 2, 1) := by decide +kernel
theorem dX2_leftOutUpTo_48 : decode cX2_leftOutUpTo 48 = .ok (.iload 4, 2) := by decide +kernel
theorem dX2_leftOutUpTo_50 : decode cX2_leftOutUpTo 50 = .ok (.imul, 1) := by decide +kernel
theorem dX2_leftOutUpTo_51 : decode cX2_leftOutUpTo 51 = .ok (.iadd, 1) := by decide +kernel
theorem dX2_leftOutUpTo_52 : decode cX2_leftOutUpTo 52 = .ok (.ireturn, 1) := by decide +kernel
theorem dX2_numberOf_0 : decode cX2_numberOf 0 = .ok (.iload_n 0, 1) := by decide +kernel
theorem dX2_numberOf_1 : decode cX2_numberOf 1 = .ok (.invokestatic 15, 3) := by decide +kernel
theorem dX2_numberOf_4 : decode cX2_numberOf 4 = .ok (.istore_n 2, 1) := by decide +kernel
theorem dX2_numberOf_5 : decode cX2_numberOf 5 = .ok (.iload_n 1, 1) := by decide +kernel
theorem dX2_numberOf_6 : decode cX2_numberOf 6 = .ok (.iload_n 0, 1) := by decide +kernel
theorem dX2_numberOf_7 : decode cX2_numberOf 7 = .ok (.iload_n 1, 1) := by decide +kernel
theorem dX2_numberOf_8 : decode cX2_numberOf 8 = .ok (.invokestatic 19, 3) := by decide +kernel
theorem dX2_numberOf_11 : decode cX2_numberOf 11 = .ok (.iadd, 1) := by decide +kernel
theorem dX2_numberOf_12 : decode cX2_numberOf 12 = .ok (.istore_n 3, 1) := by decide +kernel
theorem dX2_numberOf_13 : decode cX2_numberOf 13 = .ok (.iload_n 3, 1) := by decide +kernel
theorem dX2_numberOf_14 : decode cX2_numberOf 14 = .ok (.iload_n 2, 1) := by decide +kernel
theorem dX2_numberOf_15 : decode cX2_numberOf 15 = .ok (.idiv, 1) := by decide +kernel
theorem dX2_numberOf_16 : decode cX2_numberOf 16 = .ok (.istore 4, 2) := by decide +kernel
theorem dX2_numberOf_18 : decode cX2_numberOf 18 = .ok (.iload 4, 2) := by decide +kernel
theorem dX2_numberOf_20 : decode cX2_numberOf 20 = .ok (.bipush 60, 2) := by decide +kernel
theorem dX2_numberOf_22 : decode cX2_numberOf 22 = .ok (.idiv, 1) := by decide +kernel
theorem dX2_numberOf_23 : decode cX2_numberOf 23 = .ok (.istore 5, 2) := by decide +kernel
theorem dX2_numberOf_25 : decode cX2_numberOf 25 = .ok (.iload 5, 2) := by decide +kernel
theorem dX2_numberOf_27 : decode cX2_numberOf 27 = .ok (.bipush 60, 2) := by decide +kernel
theorem dX2_numberOf_29 : decode cX2_numberOf 29 = .ok (.idiv, 1) := by decide +kernel
theorem dX2_numberOf_30 : decode cX2_numberOf 30 = .ok (.ldc 23, 2) := by decide +kernel
theorem dX2_numberOf_32 : decode cX2_numberOf 32 = .ok (.imul, 1) := by decide +kernel
theorem dX2_numberOf_33 : decode cX2_numberOf 33 = .ok (.iload 5, 2) := by decide +kernel
theorem dX2_numberOf_35 : decode cX2_numberOf 35 = .ok (.bipush 60, 2) := by decide +kernel
theorem dX2_numberOf_37 : decode cX2_numberOf 37 = .ok (.irem, 1) := by decide +kernel
theorem dX2_numberOf_38 : decode cX2_numberOf 38 = .ok (.sipush 10000, 3) := by decide +kernel
theorem dX2_numberOf_41 : decode cX2_numberOf 41 = .ok (.imul, 1) := by decide +kernel
theorem dX2_numberOf_42 : decode cX2_numberOf 42 = .ok (.iadd, 1) := by decide +kernel
theorem dX2_numberOf_43 : decode cX2_numberOf 43 = .ok (.iload 4, 2) := by decide +kernel
theorem dX2_numberOf_45 : decode cX2_numberOf 45 = .ok (.bipush 60, 2) := by decide +kernel
theorem dX2_numberOf_47 : decode cX2_numberOf 47 = .ok (.irem, 1) := by decide +kernel
theorem dX2_numberOf_48 : decode cX2_numberOf 48 = .ok (.bipush 100, 2) := by decide +kernel
theorem dX2_numberOf_50 : decode cX2_numberOf 50 = .ok (.imul, 1) := by decide +kernel
theorem dX2_numberOf_51 : decode cX2_numberOf 51 = .ok (.iadd, 1) := by decide +kernel
theorem dX2_numberOf_52 : decode cX2_numberOf 52 = .ok (.iload_n 3, 1) := by decide +kernel
theorem dX2_numberOf_53 : decode cX2_numberOf 53 = .ok (.iload_n 2, 1) := by decide +kernel
theorem dX2_numberOf_54 : decode cX2_numberOf 54 = .ok (.irem, 1) := by decide +kernel
theorem dX2_numberOf_55 : decode cX2_numberOf 55 = .ok (.iadd, 1) := by decide +kernel
theorem dX2_numberOf_56 : decode cX2_numberOf 56 = .ok (.ireturn, 1) := by decide +kernel
theorem dX2_frameOf_0 : decode cX2_frameOf 0 = .ok (.iload_n 0, 1) := by decide +kernel
theorem dX2_frameOf_1 : decode cX2_frameOf 1 = .ok (.invokestatic 15, 3) := by decide +kernel
theorem dX2_frameOf_4 : decode cX2_frameOf 4 = .ok (.istore_n 2, 1) := by decide +kernel
theorem dX2_frameOf_5 : decode cX2_frameOf 5 = .ok (.iload_n 1, 1) := by decide +kernel
theorem dX2_frameOf_6 : decode cX2_frameOf 6 = .ok (.bipush 100, 2) := by decide +kernel
theorem dX2_frameOf_8 : decode cX2_frameOf 8 = .ok (.irem, 1) := by decide +kernel
theorem dX2_frameOf_9 : decode cX2_frameOf 9 = .ok (.istore_n 3, 1) := by decide +kernel
theorem dX2_frameOf_10 : decode cX2_frameOf 10 = .ok (.iload_n 1, 1) := by decide +kernel
theorem dX2_frameOf_11 : decode cX2_frameOf 11 = .ok (.bipush 100, 2) := by decide +kernel
theorem dX2_frameOf_13 : decode cX2_frameOf 13 = .ok (.idiv, 1) := by decide +kernel
theorem dX2_frameOf_14 : decode cX2_frameOf 14 = .ok (.bipush 100, 2) := by decide +kernel
theorem dX2_frameOf_16 : decode cX2_frameOf 16 = .ok (.irem, 1) := by decide +kernel
theorem dX2_frameOf_17 : decode cX2_frameOf 17 = .ok (.istore 4, 2) := by decide +kernel
theorem dX2_frameOf_19 : decode cX2_frameOf 19 = .ok (.iload_n 1, 1) := by decide +kernel
theorem dX2_frameOf_20 : decode cX2_frameOf 20 = .ok (.sipush 10000, 3) := by decide +kernel
theorem dX2_frameOf_23 : decode cX2_frameOf 23 = .ok (.idiv, 1) := by decide +kernel
theorem dX2_frameOf_24 : decode cX2_frameOf 24 = .ok (.bipush 100, 2) := by decide +kernel
theorem dX2_frameOf_26 : decode cX2_frameOf 26 = .ok (.irem, 1) := by decide +kernel
theorem dX2_frameOf_27 : decode cX2_frameOf 27 = .ok (.istore 5, 2) := by decide +kernel
theorem dX2_frameOf_29 : decode cX2_frameOf 29 = .ok (.iload_n 1, 1) := by decide +kernel
theorem dX2_frameOf_30 : decode cX2_frameOf 30 = .ok (.ldc 23, 2) := by decide +kernel
theorem dX2_frameOf_32 : decode cX2_frameOf 32 = .ok (.idiv, 1) := by decide +kernel
theorem dX2_frameOf_33 : decode cX2_frameOf 33 = .ok (.istore 6, 2) := by decide +kernel
theorem dX2_frameOf_35 : decode cX2_frameOf 35 = .ok (.iload_n 1, 1) := by decide +kernel
theorem dX2_frameOf_36 : decode cX2_frameOf 36 = .ok (.ifCond .lt 29, 3) := by decide +kernel
theorem dX2_frameOf_39 : decode cX2_frameOf 39 = .ok (.iload_n 3, 1) := by decide +kernel
theorem dX2_frameOf_40 : decode cX2_frameOf 40 = .ok (.iload_n 2, 1) := by decide +kernel
theorem dX2_frameOf_41 : decode cX2_frameOf 41 = .ok (.if_icmp .ge 24, 3) := by decide +kernel
theorem dX2_frameOf_44 : decode cX2_frameOf 44 = .ok (.iload 4, 2) := by decide +kernel
theorem dX2_frameOf_46 : decode cX2_frameOf 46 = .ok (.bipush 59, 2) := by decide +kernel
theorem dX2_frameOf_48 : decode cX2_frameOf 48 = .ok (.if_icmp .gt 17, 3) := by decide +kernel
theorem dX2_frameOf_51 : decode cX2_frameOf 51 = .ok (.iload 5, 2) := by decide +kernel
theorem dX2_frameOf_53 : decode cX2_frameOf 53 = .ok (.bipush 59, 2) := by decide +kernel
theorem dX2_frameOf_55 : decode cX2_frameOf 55 = .ok (.if_icmp .gt 10, 3) := by decide +kernel
theorem dX2_frameOf_58 : decode cX2_frameOf 58 = .ok (.iload 6, 2) := by decide +kernel
theorem dX2_frameOf_60 : decode cX2_frameOf 60 = .ok (.bipush 23, 2) := by decide +kernel
theorem dX2_frameOf_62 : decode cX2_frameOf 62 = .ok (.if_icmp .le 6, 3) := by decide +kernel
theorem dX2_frameOf_65 : decode cX2_frameOf 65 = .ok (.bipush (-9), 2) := by decide +kernel
theorem dX2_frameOf_67 : decode cX2_frameOf 67 = .ok (.ireturn, 1) := by decide +kernel
theorem dX2_frameOf_68 : decode cX2_frameOf 68 = .ok (.bipush 60, 2) := by decide +kernel
theorem dX2_frameOf_70 : decode cX2_frameOf 70 = .ok (.iload 6, 2) := by decide +kernel
theorem dX2_frameOf_72 : decode cX2_frameOf 72 = .ok (.imul, 1) := by decide +kernel
theorem dX2_frameOf_73 : decode cX2_frameOf 73 = .ok (.iload 5, 2) := by decide +kernel
theorem dX2_frameOf_75 : decode cX2_frameOf 75 = .ok (.iadd, 1) := by decide +kernel
theorem dX2_frameOf_76 : decode cX2_frameOf 76 = .ok (.istore 7, 2) := by decide +kernel
theorem dX2_frameOf_78 : decode cX2_frameOf 78 = .ok (.bipush 60, 2) := by decide +kernel
theorem dX2_frameOf_80 : decode cX2_frameOf 80 = .ok (.iload 7, 2) := by decide +kernel
theorem dX2_frameOf_82 : decode cX2_frameOf 82 = .ok (.imul, 1) := by decide +kernel
theorem dX2_frameOf_83 : decode cX2_frameOf 83 = .ok (.iload 4, 2) := by decide +kernel
theorem dX2_frameOf_85 : decode cX2_frameOf 85 = .ok (.iadd, 1) := by decide +kernel
theorem dX2_frameOf_86 : decode cX2_frameOf 86 = .ok (.iload_n 2, 1) := by decide +kernel
theorem dX2_frameOf_87 : decode cX2_frameOf 87 = .ok (.imul, 1) := by decide +kernel
theorem dX2_frameOf_88 : decode cX2_frameOf 88 = .ok (.iload_n 3, 1) := by decide +kernel
theorem dX2_frameOf_89 : decode cX2_frameOf 89 = .ok (.iadd, 1) := by decide +kernel
theorem dX2_frameOf_90 : decode cX2_frameOf 90 = .ok (.istore 8, 2) := by decide +kernel
theorem dX2_frameOf_92 : decode cX2_frameOf 92 = .ok (.iload_n 0, 1) := by decide +kernel
theorem dX2_frameOf_93 : decode cX2_frameOf 93 = .ok (.iconst 3, 1) := by decide +kernel
theorem dX2_frameOf_94 : decode cX2_frameOf 94 = .ok (.if_icmp .eq 6, 3) := by decide +kernel
theorem dX2_frameOf_97 : decode cX2_frameOf 97 = .ok (.iload 8, 2) := by decide +kernel
theorem dX2_frameOf_99 : decode cX2_frameOf 99 = .ok (.ireturn, 1) := by decide +kernel
theorem dX2_frameOf_100 : decode cX2_frameOf 100 = .ok (.iload 7, 2) := by decide +kernel
theorem dX2_frameOf_102 : decode cX2_frameOf 102 = .ok (.bipush 10, 2) := by decide +kernel
theorem dX2_frameOf_104 : decode cX2_frameOf 104 = .ok (.irem, 1) := by decide +kernel
theorem dX2_frameOf_105 : decode cX2_frameOf 105 = .ok (.ifCond .eq 16, 3) := by decide +kernel
theorem dX2_frameOf_108 : decode cX2_frameOf 108 = .ok (.iload 4, 2) := by decide +kernel
theorem dX2_frameOf_110 : decode cX2_frameOf 110 = .ok (.ifCond .ne 11, 3) := by decide +kernel
theorem dX2_frameOf_113 : decode cX2_frameOf 113 = .ok (.iload_n 3, 1) := by decide +kernel
theorem dX2_frameOf_114 : decode cX2_frameOf 114 = .ok (.iconst 2, 1) := by decide +kernel
theorem dX2_frameOf_115 : decode cX2_frameOf 115 = .ok (.if_icmp .ge 6, 3) := by decide +kernel
theorem dX2_frameOf_118 : decode cX2_frameOf 118 = .ok (.bipush (-9), 2) := by decide +kernel
theorem dX2_frameOf_120 : decode cX2_frameOf 120 = .ok (.ireturn, 1) := by decide +kernel
theorem dX2_frameOf_121 : decode cX2_frameOf 121 = .ok (.iload 8, 2) := by decide +kernel
theorem dX2_frameOf_123 : decode cX2_frameOf 123 = .ok (.iconst 2, 1) := by decide +kernel
theorem dX2_frameOf_124 : decode cX2_frameOf 124 = .ok (.iload 7, 2) := by decide +kernel
theorem dX2_frameOf_126 : decode cX2_frameOf 126 = .ok (.iload 7, 2) := by decide +kernel
theorem dX2_frameOf_128 : decode cX2_frameOf 128 = .ok (.bipush 10, 2) := by decide +kernel
theorem dX2_frameOf_130 : decode cX2_frameOf 130 = .ok (.idiv, 1) := by decide +kernel
theorem dX2_frameOf_131 : decode cX2_frameOf 131 = .ok (.isub, 1) := by decide +kernel
theorem dX2_frameOf_132 : decode cX2_frameOf 132 = .ok (.imul, 1) := by decide +kernel
theorem dX2_frameOf_133 : decode cX2_frameOf 133 = .ok (.isub, 1) := by decide +kernel
theorem dX2_frameOf_134 : decode cX2_frameOf 134 = .ok (.ireturn, 1) := by decide +kernel
theorem dX3_init_0 : decode cX3_init 0 = .ok (.aload_n 0, 1) := by decide +kernel
theorem dX3_init_1 : decode cX3_init 1 = .ok (.invokespecial 3, 3) := by decide +kernel
theorem dX3_init_4 : decode cX3_init 4 = .ok (.aload_n 0, 1) := by decide +kernel
theorem dX3_init_5 : decode cX3_init 5 = .ok (.bipush 40, 2) := by decide +kernel
theorem dX3_init_7 : decode cX3_init 7 = .ok (.putfield 11, 3) := by decide +kernel
theorem dX3_init_10 : decode cX3_init 10 = .ok (.return_, 1) := by decide +kernel
theorem dX3_isLocked_0 : decode cX3_isLocked 0 = .ok (.aload_n 0, 1) := by decide +kernel
theorem dX3_isLocked_1 : decode cX3_isLocked 1 = .ok (.getfield 15, 3) := by decide +kernel
theorem dX3_isLocked_4 : decode cX3_isLocked 4 = .ok (.iconst 3, 1) := by decide +kernel
theorem dX3_isLocked_5 : decode cX3_isLocked 5 = .ok (.if_icmp .lt 7, 3) := by decide +kernel
theorem dX3_isLocked_8 : decode cX3_isLocked 8 = .ok (.iconst 1, 1) := by decide +kernel
theorem dX3_isLocked_9 : decode cX3_isLocked 9 = .ok (.goto 4, 3) := by decide +kernel
theorem dX3_isLocked_12 : decode cX3_isLocked 12 = .ok (.iconst 0, 1) := by decide +kernel
theorem dX3_isLocked_13 : decode cX3_isLocked 13 = .ok (.ireturn, 1) := by decide +kernel
theorem dX3_hasRead_0 : decode cX3_hasRead 0 = .ok (.aload_n 0, 1) := by decide +kernel
theorem dX3_hasRead_1 : decode cX3_hasRead 1 = .ok (.getfield 18, 3) := by decide +kernel
theorem dX3_hasRead_4 : decode cX3_hasRead 4 = .ok (.ifCond .le 7, 3) := by decide +kernel
theorem dX3_hasRead_7 : decode cX3_hasRead 7 = .ok (.iconst 1, 1) := by decide +kernel
theorem dX3_hasRead_8 : decode cX3_hasRead 8 = .ok (.goto 4, 3) := by decide +kernel
theorem dX3_hasRead_11 : decode cX3_hasRead 11 = .ok (.iconst 0, 1) := by decide +kernel
theorem dX3_hasRead_12 : decode cX3_hasRead 12 = .ok (.ireturn, 1) := by decide +kernel
theorem dX3_take_0 : decode cX3_take 0 = .ok (.iconst 4, 1) := by decide +kernel
theorem dX3_take_1 : decode cX3_take 1 = .ok (.iload_n 1, 1) := by decide +kernel
theorem dX3_take_2 : decode cX3_take 2 = .ok (.imul, 1) := by decide +kernel
theorem dX3_take_3 : decode cX3_take 3 = .ok (.iconst 3, 1) := by decide +kernel
theorem dX3_take_4 : decode cX3_take 4 = .ok (.aload_n 0, 1) := by decide +kernel
theorem dX3_take_5 : decode cX3_take 5 = .ok (.getfield 11, 3) := by decide +kernel
theorem dX3_take_8 : decode cX3_take 8 = .ok (.imul, 1) := by decide +kernel
theorem dX3_take_9 : decode cX3_take 9 = .ok (.if_icmp .le 36, 3) := by decide +kernel
theorem dX3_take_12 : decode cX3_take 12 = .ok (.aload_n 0, 1) := by decide +kernel
theorem dX3_take_13 : decode cX3_take 13 = .ok (.getfield 21, 3) := by decide +kernel
theorem dX3_take_16 : decode cX3_take 16 = .ok (.ifCond .le 18, 3) := by decide +kernel
theorem dX3_take_19 : decode cX3_take 19 = .ok (.aload_n 0, 1) := by decide +kernel
theorem dX3_take_20 : decode cX3_take 20 = .ok (.iconst 0, 1) := by decide +kernel
theorem dX3_take_21 : decode cX3_take 21 = .ok (.putfield 21, 3) := by decide +kernel
theorem dX3_take_24 : decode cX3_take 24 = .ok (.aload_n 0, 1) := by decide +kernel
theorem dX3_take_25 : decode cX3_take 25 = .ok (.dup, 1) := by decide +kernel
theorem dX3_take_26 : decode cX3_take 26 = .ok (.getfield 24, 3) := by decide +kernel
theorem dX3_take_29 : decode cX3_take 29 = .ok (.iconst 1, 1) := by decide +kernel
theorem dX3_take_30 : decode cX3_take 30 = .ok (.iadd, 1) := by decide +kernel
theorem dX3_take_31 : decode cX3_take 31 = .ok (.putfield 24, 3) := by decide +kernel
theorem dX3_take_34 : decode cX3_take 34 = .ok (.aload_n 0, 1) := by decide +kernel
theorem dX3_take_35 : decode cX3_take 35 = .ok (.iload_n 1, 1) := by decide +kernel
theorem dX3_take_36 : decode cX3_take 36 = .ok (.invokevirtual 27, 3) := by decide +kernel
theorem dX3_take_39 : decode cX3_take 39 = .ok (.aload_n 0, 1) := by decide +kernel
theorem dX3_take_40 : decode cX3_take 40 = .ok (.lconst 0, 1) := by decide +kernel
theorem dX3_take_41 : decode cX3_take 41 = .ok (.invokevirtual 31, 3) := by decide +kernel
theorem dX3_take_44 : decode cX3_take 44 = .ok (.ireturn, 1) := by decide +kernel
theorem dX3_take_45 : decode cX3_take 45 = .ok (.aload_n 0, 1) := by decide +kernel
theorem dX3_take_46 : decode cX3_take 46 = .ok (.getfield 21, 3) := by decide +kernel
theorem dX3_take_49 : decode cX3_take 49 = .ok (.ifCond .ne 10, 3) := by decide +kernel
theorem dX3_take_52 : decode cX3_take 52 = .ok (.aload_n 0, 1) := by decide +kernel
theorem dX3_take_53 : decode cX3_take 53 = .ok (.iload_n 1, 1) := by decide +kernel
theorem dX3_take_54 : decode cX3_take 54 = .ok (.putfield 21, 3) := by decide +kernel
theorem dX3_take_57 : decode cX3_take 57 = .ok (.iconst 0, 1) := by decide +kernel
theorem dX3_take_58 : decode cX3_take 58 = .ok (.ireturn, 1) := by decide +kernel
theorem dX3_take_59 : decode cX3_take 59 = .ok (.aload_n 0, 1) := by decide +kernel
theorem dX3_take_60 : decode cX3_take 60 = .ok (.aload_n 0, 1) := by decide +kernel
theorem dX3_take_61 : decode cX3_take 61 = .ok (.getfield 21, 3) := by decide +kernel
theorem dX3_take_64 : decode cX3_take 64 = .ok (.iload_n 1, 1) := by decide +kernel
theorem dX3_take_65 : decode cX3_take 65 = .ok (.iadd, 1) := by decide +kernel
theorem dX3_take_66 : decode cX3_take 66 = .ok (.invokevirtual 27, 3) := by decide +kernel
theorem dX3_take_69 : decode cX3_take 69 = .ok (.aload_n 0, 1) := by decide +kernel
theorem dX3_take_70 : decode cX3_take 70 = .ok (.iconst 0, 1) := by decide +kernel
theorem dX3_take_71 : decode cX3_take 71 = .ok (.putfield 21, 3) := by decide +kernel
theorem dX3_take_74 : decode cX3_take 74 = .ok (.aload_n 0, 1) := by decide +kernel
theorem dX3_take_75 : decode cX3_take 75 = .ok (.lconst 1, 1) := by decide +kernel
theorem dX3_take_76 : decode cX3_take 76 = .ok (.invokevirtual 31, 3) := by decide +kernel
theorem dX3_take_79 : decode cX3_take 79 = .ok (.ireturn, 1) := by decide +kernel
theorem dX3_adapt_0 : decode cX3_adapt 0 = .ok (.aload_n 0, 1) := by decide +kernel
theorem dX3_adapt_1 : decode cX3_adapt 1 = .ok (.iconst 1, 1) := by decide +kernel
theorem dX3_adapt_2 : decode cX3_adapt 2 = .ok (.iconst 3, 1) := by decide +kernel
theorem dX3_adapt_3 : decode cX3_adapt 3 = .ok (.aload_n 0, 1) := by decide +kernel
theorem dX3_adapt_4 : decode cX3_adapt 4 = .ok (.getfield 11, 3) := by decide +kernel
theorem dX3_adapt_7 : decode cX3_adapt 7 = .ok (.imul, 1) := by decide +kernel
theorem dX3_adapt_8 : decode cX3_adapt 8 = .ok (.iload_n 1, 1) := by decide +kernel
theorem dX3_adapt_9 : decode cX3_adapt 9 = .ok (.iadd, 1) := by decide +kernel
theorem dX3_adapt_10 : decode cX3_adapt 10 = .ok (.iconst 4, 1) := by decide +kernel
theorem dX3_adapt_11 : decode cX3_adapt 11 = .ok (.idiv, 1) := by decide +kernel
theorem dX3_adapt_12 : decode cX3_adapt 12 = .ok (.invokestatic 35, 3) := by decide +kernel
theorem dX3_adapt_15 : decode cX3_adapt 15 = .ok (.putfield 11, 3) := by decide +kernel
theorem dX3_adapt_18 : decode cX3_adapt 18 = .ok (.return_, 1) := by decide +kernel
theorem dX3_tell_0 : decode cX3_tell 0 = .ok (.aload_n 0, 1) := by decide +kernel
theorem dX3_tell_1 : decode cX3_tell 1 = .ok (.aload_n 0, 1) := by decide +kernel
theorem dX3_tell_2 : decode cX3_tell 2 = .ok (.getfield 41, 3) := by decide +kernel
theorem dX3_tell_5 : decode cX3_tell 5 = .ok (.iconst 1, 1) := by decide +kernel
theorem dX3_tell_6 : decode cX3_tell 6 = .ok (.lushr, 1) := by decide +kernel
theorem dX3_tell_7 : decode cX3_tell 7 = .ok (.lload_n 1, 1) := by decide +kernel
theorem dX3_tell_8 : decode cX3_tell 8 = .ok (.bipush 47, 2) := by decide +kernel
theorem dX3_tell_10 : decode cX3_tell 10 = .ok (.lshl, 1) := by decide +kernel
theorem dX3_tell_11 : decode cX3_tell 11 = .ok (.lor, 1) := by decide +kernel
theorem dX3_tell_12 : decode cX3_tell 12 = .ok (.putfield 41, 3) := by decide +kernel
theorem dX3_tell_15 : decode cX3_tell 15 = .ok (.aload_n 0, 1) := by decide +kernel
theorem dX3_tell_16 : decode cX3_tell 16 = .ok (.aload_n 0, 1) := by decide +kernel
theorem dX3_tell_17 : decode cX3_tell 17 = .ok (.getfield 47, 3) := by decide +kernel
theorem dX3_tell_20 : decode cX3_tell 20 = .ok (.iconst 1, 1) := by decide +kernel
theorem dX3_tell_21 : decode cX3_tell 21 = .ok (.iadd, 1) := by decide +kernel
theorem dX3_tell_22 : decode cX3_tell 22 = .ok (.bipush 48, 2) := by decide +kernel
theorem dX3_tell_24 : decode cX3_tell 24 = .ok (.invokestatic 50, 3) := by decide +kernel
theorem dX3_tell_27 : decode cX3_tell 27 = .ok (.putfield 47, 3) := by decide +kernel
theorem dX3_tell_30 : decode cX3_tell 30 = .ok (.aload_n 0, 1) := by decide +kernel
theorem dX3_tell_31 : decode cX3_tell 31 = .ok (.getfield 47, 3) := by decide +kernel
theorem dX3_tell_34 : decode cX3_tell 34 = .ok (.bipush 48, 2) := by decide +kernel
theorem dX3_tell_36 : decode cX3_tell 36 = .ok (.if_icmp .ge 5, 3) := by decide +kernel
theorem dX3_tell_39 : decode cX3_tell 39 = .ok (.iconst 0, 1) := by decide +kernel
theorem dX3_tell_40 : decode cX3_tell 40 = .ok (.ireturn, 1) := by decide +kernel
theorem dX3_tell_41 : decode cX3_tell 41 = .ok (.aload_n 0, 1) := by decide +kernel
theorem dX3_tell_42 : decode cX3_tell 42 = .ok (.getfield 41, 3) := by decide +kernel
theorem dX3_tell_45 : decode cX3_tell 45 = .ok (.bipush 32, 2) := by decide +kernel
theorem dX3_tell_47 : decode cX3_tell 47 = .ok (.lushr, 1) := by decide +kernel
theorem dX3_tell_48 : decode cX3_tell 48 = .ok (.ldc2_w 53, 3) := by decide +kernel
theorem dX3_tell_51 : decode cX3_tell 51 = .ok (.lcmp, 1) := by decide +kernel
theorem dX3_tell_52 : decode cX3_tell 52 = .ok (.ifCond .ne 5, 3) := by decide +kernel
theorem dX3_tell_55 : decode cX3_tell 55 = .ok (.iconst 1, 1) := by decide +kernel
theorem dX3_tell_56 : decode cX3_tell 56 = .ok (.ireturn, 1) := by decide +kernel
theorem dX3_tell_57 : decode cX3_tell 57 = .ok (.aload_n 0, 1) := by decide +kernel
theorem dX3_tell_58 : decode cX3_tell 58 = .ok (.getfield 41, 3) := by decide +kernel
theorem dX3_tell_61 : decode cX3_tell 61 = .ok (.ldc2_w 55, 3) := by decide +kernel
theorem dX3_tell_64 : decode cX3_tell 64 = .ok (.land, 1) := by decide +kernel
theorem dX3_tell_65 : decode cX3_tell 65 = .ok (.ldc2_w 57, 3) := by decide +kernel
theorem dX3_tell_68 : decode cX3_tell 68 = .ok (.lcmp, 1) := by decide +kernel
theorem dX3_tell_69 : decode cX3_tell 69 = .ok (.ifCond .ne 7, 3) := by decide +kernel
theorem dX3_tell_72 : decode cX3_tell 72 = .ok (.iconst (-1), 1) := by decide +kernel
theorem dX3_tell_73 : decode cX3_tell 73 = .ok (.goto 4, 3) := by decide +kernel
theorem dX3_tell_76 : decode cX3_tell 76 = .ok (.iconst 0, 1) := by decide +kernel
theorem dX3_tell_77 : decode cX3_tell 77 = .ok (.ireturn, 1) := by decide +kernel
theorem dX3_accept_0 : decode cX3_accept 0 = .ok (.iload_n 1, 1) := by decide +kernel
theorem dX3_accept_1 : decode cX3_accept 1 = .ok (.iconst 1, 1) := by decide +kernel
theorem dX3_accept_2 : decode cX3_accept 2 = .ok (.if_icmp .ne 14, 3) := by decide +kernel
theorem dX3_accept_5 : decode cX3_accept 5 = .ok (.aload_n 0, 1) := by decide +kernel
theorem dX3_accept_6 : decode cX3_accept 6 = .ok (.getfield 41, 3) := by decide +kernel
theorem dX3_accept_9 : decode cX3_accept 9 = .ok (.ldc2_w 59, 3) := by decide +kernel
theorem dX3_accept_12 : decode cX3_accept 12 = .ok (.land, 1) := by decide +kernel
theorem dX3_accept_13 : decode cX3_accept 13 = .ok (.goto 13, 3) := by decide +kernel
theorem dX3_accept_16 : decode cX3_accept 16 = .ok (.aload_n 0, 1) := by decide +kernel
theorem dX3_accept_17 : decode cX3_accept 17 = .ok (.getfield 41, 3) := by decide +kernel
theorem dX3_accept_20 : decode cX3_accept 20 = .ok (.bipush 16, 2) := by decide +kernel
theorem dX3_accept_22 : decode cX3_accept 22 = .ok (.lushr, 1) := by decide +kernel
theorem dX3_accept_23 : decode cX3_accept 23 = .ok (.invokestatic 61, 3) := by decide +kernel
theorem dX3_accept_26 : decode cX3_accept 26 = .ok (.lstore_n 3, 1) := by decide +kernel
theorem dX3_accept_27 : decode cX3_accept 27 = .ok (.aload_n 0, 1) := by decide +kernel
theorem dX3_accept_28 : decode cX3_accept 28 = .ok (.invokevirtual 65, 3) := by decide +kernel
theorem dX3_accept_31 : decode cX3_accept 31 = .ok (.lload_n 3, 1) := by decide +kernel
theorem dX3_accept_32 : decode cX3_accept 32 = .ok (.iload_n 2, 1) := by decide +kernel
theorem dX3_accept_33 : decode cX3_accept 33 = .ok (.invokestatic 68, 3) := by decide +kernel
theorem dX3_accept_36 : decode cX3_accept 36 = .ok (.istore 5, 2) := by decide +kernel
theorem dX3_accept_38 : decode cX3_accept 38 = .ok (.iload_n 2, 1) := by decide +kernel
theorem dX3_accept_39 : decode cX3_accept 39 = .ok (.iload 5, 2) := by decide +kernel
theorem dX3_accept_41 : decode cX3_accept 41 = .ok (.invokestatic 72, 3) := by decide +kernel
theorem dX3_accept_44 : decode cX3_accept 44 = .ok (.istore 6, 2) := by decide +kernel
theorem dX3_accept_46 : decode cX3_accept 46 = .ok (.iload 6, 2) := by decide +kernel
theorem dX3_accept_48 : decode cX3_accept 48 = .ok (.bipush (-9), 2) := by decide +kernel
theorem dX3_accept_50 : decode cX3_accept 50 = .ok (.if_icmp .ne 15, 3) := by decide +kernel
theorem dX3_accept_53 : decode cX3_accept 53 = .ok (.aload_n 0, 1) := by decide +kernel
theorem dX3_accept_54 : decode cX3_accept 54 = .ok (.dup, 1) := by decide +kernel
theorem dX3_accept_55 : decode cX3_accept 55 = .ok (.getfield 77, 3) := by decide +kernel
theorem dX3_accept_58 : decode cX3_accept 58 = .ok (.iconst 1, 1) := by decide +kernel
theorem dX3_accept_59 : decode cX3_accept 59 = .ok (.iadd, 1) := by decide +kernel
theorem dX3_accept_60 : decode cX3_accept 60 = .ok (.putfield 77, 3) := by decide +kernel
theorem dX3_accept_63 : decode cX3_accept 63 = .ok (.iconst 0, 1) := by decide +kernel
theorem dX3_accept_64 : decode cX3_accept 64 = .ok (.ireturn, 1) := by decide +kernel
theorem dX3_accept_65 : decode cX3_accept 65 = .ok (.aload_n 0, 1) := by decide +kernel
theorem dX3_accept_66 : decode cX3_accept 66 = .ok (.iload 6, 2) := by decide +kernel
theorem dX3_accept_68 : decode cX3_accept 68 = .ok (.iload_n 1, 1) := by decide +kernel
theorem dX3_accept_69 : decode cX3_accept 69 = .ok (.iload_n 2, 1) := by decide +kernel
theorem dX3_accept_70 : decode cX3_accept 70 = .ok (.invokestatic 80, 3) := by decide +kernel
theorem dX3_accept_73 : decode cX3_accept 73 = .ok (.invokevirtual 84, 3) := by decide +kernel
theorem dX3_accept_76 : decode cX3_accept 76 = .ok (.aload_n 0, 1) := by decide +kernel
theorem dX3_accept_77 : decode cX3_accept 77 = .ok (.dup, 1) := by decide +kernel
theorem dX3_accept_78 : decode cX3_accept 78 = .ok (.getfield 18, 3) := by decide +kernel
theorem dX3_accept_81 : decode cX3_accept 81 = .ok (.iconst 1, 1) := by decide +kernel
theorem dX3_accept_82 : decode cX3_accept 82 = .ok (.iadd, 1) := by decide +kernel
theorem dX3_accept_83 : decode cX3_accept 83 = .ok (.putfield 18, 3) := by decide +kernel
theorem dX3_accept_86 : decode cX3_accept 86 = .ok (.aload_n 0, 1) := by decide +kernel
theorem dX3_accept_87 : decode cX3_accept 87 = .ok (.iload 6, 2) := by decide +kernel
theorem dX3_accept_89 : decode cX3_accept 89 = .ok (.putfield 88, 3) := by decide +kernel
theorem dX3_accept_92 : decode cX3_accept 92 = .ok (.aload_n 0, 1) := by decide +kernel
theorem dX3_accept_93 : decode cX3_accept 93 = .ok (.iload 5, 2) := by decide +kernel
theorem dX3_accept_95 : decode cX3_accept 95 = .ok (.putfield 91, 3) := by decide +kernel
theorem dX3_accept_98 : decode cX3_accept 98 = .ok (.aload_n 0, 1) := by decide +kernel
theorem dX3_accept_99 : decode cX3_accept 99 = .ok (.lload_n 3, 1) := by decide +kernel
theorem dX3_accept_100 : decode cX3_accept 100 = .ok (.invokestatic 94, 3) := by decide +kernel
theorem dX3_accept_103 : decode cX3_accept 103 = .ok (.putfield 97, 3) := by decide +kernel
theorem dX3_accept_106 : decode cX3_accept 106 = .ok (.aload_n 0, 1) := by decide +kernel
theorem dX3_accept_107 : decode cX3_accept 107 = .ok (.iload_n 1, 1) := by decide +kernel
theorem dX3_accept_108 : decode cX3_accept 108 = .ok (.putfield 100, 3) := by decide +kernel
theorem dX3_accept_111 : decode cX3_accept 111 = .ok (.iconst 1, 1) := by decide +kernel
theorem dX3_accept_112 : decode cX3_accept 112 = .ok (.ireturn, 1) := by decide +kernel
theorem dX3_follow_0 : decode cX3_follow 0 = .ok (.aload_n 0, 1) := by decide +kernel
theorem dX3_follow_1 : decode cX3_follow 1 = .ok (.invokevirtual 103, 3) := by decide +kernel
theorem dX3_follow_4 : decode cX3_follow 4 = .ok (.ifCond .eq 21, 3) := by decide +kernel
theorem dX3_follow_7 : decode cX3_follow 7 = .ok (.iload_n 1, 1) := by decide +kernel
theorem dX3_follow_8 : decode cX3_follow 8 = .ok (.aload_n 0, 1) := by decide +kernel
theorem dX3_follow_9 : decode cX3_follow 9 = .ok (.getfield 88, 3) := by decide +kernel
theorem dX3_follow_12 : decode cX3_follow 12 = .ok (.iload_n 2, 1) := by decide +kernel
theorem dX3_follow_13 : decode cX3_follow 13 = .ok (.iadd, 1) := by decide +kernel
theorem dX3_follow_14 : decode cX3_follow 14 = .ok (.iload_n 3, 1) := by decide +kernel
theorem dX3_follow_15 : decode cX3_follow 15 = .ok (.invokestatic 107, 3) := by decide +kernel
theorem dX3_follow_18 : decode cX3_follow 18 = .ok (.if_icmp .ne 7, 3) := by decide +kernel
theorem dX3_follow_21 : decode cX3_follow 21 = .ok (.iconst 1, 1) := by decide +kernel
theorem dX3_follow_22 : decode cX3_follow 22 = .ok (.goto 4, 3) := by decide +kernel
theorem dX3_follow_25 : decode cX3_follow 25 = .ok (.iconst 0, 1) := by decide +kernel
theorem dX3_follow_26 : decode cX3_follow 26 = .ok (.istore 4, 2) := by decide +kernel
theorem dX3_follow_28 : decode cX3_follow 28 = .ok (.aload_n 0, 1) := by decide +kernel
theorem dX3_follow_29 : decode cX3_follow 29 = .ok (.invokevirtual 103, 3) := by decide +kernel
theorem dX3_follow_32 : decode cX3_follow 32 = .ok (.ifCond .eq 18, 3) := by decide +kernel
theorem dX3_follow_35 : decode cX3_follow 35 = .ok (.iload 4, 2) := by decide +kernel
theorem dX3_follow_37 : decode cX3_follow 37 = .ok (.ifCond .ne 13, 3) := by decide +kernel
theorem dX3_follow_40 : decode cX3_follow 40 = .ok (.aload_n 0, 1) := by decide +kernel
theorem dX3_follow_41 : decode cX3_follow 41 = .ok (.dup, 1) := by decide +kernel
theorem dX3_follow_42 : decode cX3_follow 42 = .ok (.getfield 110, 3) := by decide +kernel
theorem dX3_follow_45 : decode cX3_follow 45 = .ok (.iconst 1, 1) := by decide +kernel
theorem dX3_follow_46 : decode cX3_follow 46 = .ok (.iadd, 1) := by decide +kernel
theorem dX3_follow_47 : decode cX3_follow 47 = .ok (.putfield 110, 3) := by decide +kernel
theorem dX3_follow_50 : decode cX3_follow 50 = .ok (.aload_n 0, 1) := by decide +kernel
theorem dX3_follow_51 : decode cX3_follow 51 = .ok (.iload 4, 2) := by decide +kernel
theorem dX3_follow_53 : decode cX3_follow 53 = .ok (.ifCond .eq 12, 3) := by decide +kernel
theorem dX3_follow_56 : decode cX3_follow 56 = .ok (.aload_n 0, 1) := by decide +kernel
theorem dX3_follow_57 : decode cX3_follow 57 = .ok (.getfield 15, 3) := by decide +kernel
theorem dX3_follow_60 : decode cX3_follow 60 = .ok (.iconst 1, 1) := by decide +kernel
theorem dX3_follow_61 : decode cX3_follow 61 = .ok (.iadd, 1) := by decide +kernel
theorem dX3_follow_62 : decode cX3_follow 62 = .ok (.goto 4, 3) := by decide +kernel
theorem dX3_follow_65 : decode cX3_follow 65 = .ok (.iconst 1, 1) := by decide +kernel
theorem dX3_follow_66 : decode cX3_follow 66 = .ok (.putfield 15, 3) := by decide +kernel
theorem dX3_follow_69 : decode cX3_follow 69 = .ok (.return_, 1) := by decide +kernel
theorem dX3_letGo_0 : decode cX3_letGo 0 = .ok (.aload_n 0, 1) := by decide +kernel
theorem dX3_letGo_1 : decode cX3_letGo 1 = .ok (.lconst 0, 1) := by decide +kernel
theorem dX3_letGo_2 : decode cX3_letGo 2 = .ok (.putfield 41, 3) := by decide +kernel
theorem dX3_letGo_5 : decode cX3_letGo 5 = .ok (.aload_n 0, 1) := by decide +kernel
theorem dX3_letGo_6 : decode cX3_letGo 6 = .ok (.iconst 0, 1) := by decide +kernel
theorem dX3_letGo_7 : decode cX3_letGo 7 = .ok (.putfield 47, 3) := by decide +kernel
theorem dX3_letGo_10 : decode cX3_letGo 10 = .ok (.return_, 1) := by decide +kernel
theorem dX3_startAnew_0 : decode cX3_startAnew 0 = .ok (.aload_n 0, 1) := by decide +kernel
theorem dX3_startAnew_1 : decode cX3_startAnew 1 = .ok (.invokevirtual 65, 3) := by decide +kernel
theorem dX3_startAnew_4 : decode cX3_startAnew 4 = .ok (.aload_n 0, 1) := by decide +kernel
theorem dX3_startAnew_5 : decode cX3_startAnew 5 = .ok (.bipush 40, 2) := by decide +kernel
theorem dX3_startAnew_7 : decode cX3_startAnew 7 = .ok (.putfield 11, 3) := by decide +kernel
theorem dX3_startAnew_10 : decode cX3_startAnew 10 = .ok (.aload_n 0, 1) := by decide +kernel
theorem dX3_startAnew_11 : decode cX3_startAnew 11 = .ok (.iconst 0, 1) := by decide +kernel
theorem dX3_startAnew_12 : decode cX3_startAnew 12 = .ok (.putfield 21, 3) := by decide +kernel
theorem dX3_startAnew_15 : decode cX3_startAnew 15 = .ok (.aload_n 0, 1) := by decide +kernel
theorem dX3_startAnew_16 : decode cX3_startAnew 16 = .ok (.iconst 0, 1) := by decide +kernel
theorem dX3_startAnew_17 : decode cX3_startAnew 17 = .ok (.putfield 18, 3) := by decide +kernel
theorem dX3_startAnew_20 : decode cX3_startAnew 20 = .ok (.aload_n 0, 1) := by decide +kernel
theorem dX3_startAnew_21 : decode cX3_startAnew 21 = .ok (.iconst 0, 1) := by decide +kernel
theorem dX3_startAnew_22 : decode cX3_startAnew 22 = .ok (.putfield 77, 3) := by decide +kernel
theorem dX3_startAnew_25 : decode cX3_startAnew 25 = .ok (.aload_n 0, 1) := by decide +kernel
theorem dX3_startAnew_26 : decode cX3_startAnew 26 = .ok (.iconst 0, 1) := by decide +kernel
theorem dX3_startAnew_27 : decode cX3_startAnew 27 = .ok (.putfield 24, 3) := by decide +kernel
theorem dX3_startAnew_30 : decode cX3_startAnew 30 = .ok (.aload_n 0, 1) := by decide +kernel
theorem dX3_startAnew_31 : decode cX3_startAnew 31 = .ok (.iconst 0, 1) := by decide +kernel
theorem dX3_startAnew_32 : decode cX3_startAnew 32 = .ok (.putfield 110, 3) := by decide +kernel
theorem dX3_startAnew_35 : decode cX3_startAnew 35 = .ok (.aload_n 0, 1) := by decide +kernel
theorem dX3_startAnew_36 : decode cX3_startAnew 36 = .ok (.iconst 0, 1) := by decide +kernel
theorem dX3_startAnew_37 : decode cX3_startAnew 37 = .ok (.putfield 15, 3) := by decide +kernel
theorem dX3_startAnew_40 : decode cX3_startAnew 40 = .ok (.return_, 1) := by decide +kernel
theorem dX3_copy_0 : decode cX3_copy 0 = .ok (.aload_n 0, 1) := by decide +kernel
theorem dX3_copy_1 : decode cX3_copy 1 = .ok (.aload_n 1, 1) := by decide +kernel
theorem dX3_copy_2 : decode cX3_copy 2 = .ok (.getfield 11, 3) := by decide +kernel
theorem dX3_copy_5 : decode cX3_copy 5 = .ok (.putfield 11, 3) := by decide +kernel
theorem dX3_copy_8 : decode cX3_copy 8 = .ok (.aload_n 0, 1) := by decide +kernel
theorem dX3_copy_9 : decode cX3_copy 9 = .ok (.aload_n 1, 1) := by decide +kernel
theorem dX3_copy_10 : decode cX3_copy 10 = .ok (.getfield 21, 3) := by decide +kernel
theorem dX3_copy_13 : decode cX3_copy 13 = .ok (.putfield 21, 3) := by decide +kernel
theorem dX3_copy_16 : decode cX3_copy 16 = .ok (.aload_n 0, 1) := by decide +kernel
theorem dX3_copy_17 : decode cX3_copy 17 = .ok (.aload_n 1, 1) := by decide +kernel
theorem dX3_copy_18 : decode cX3_copy 18 = .ok (.getfield 41, 3) := by decide +kernel
theorem dX3_copy_21 : decode cX3_copy 21 = .ok (.putfield 41, 3) := by decide +kernel
theorem dX3_copy_24 : decode cX3_copy 24 = .ok (.aload_n 0, 1) := by decide +kernel
theorem dX3_copy_25 : decode cX3_copy 25 = .ok (.aload_n 1, 1) := by decide +kernel
theorem dX3_copy_26 : decode cX3_copy 26 = .ok (.getfield 47, 3) := by decide +kernel
theorem dX3_copy_29 : decode cX3_copy 29 = .ok (.putfield 47, 3) := by decide +kernel
theorem dX3_copy_32 : decode cX3_copy 32 = .ok (.aload_n 0, 1) := by decide +kernel
theorem dX3_copy_33 : decode cX3_copy 33 = .ok (.aload_n 1, 1) := by decide +kernel
theorem dX3_copy_34 : decode cX3_copy 34 = .ok (.getfield 18, 3) := by decide +kernel
theorem dX3_copy_37 : decode cX3_copy 37 = .ok (.putfield 18, 3) := by decide +kernel
theorem dX3_copy_40 : decode cX3_copy 40 = .ok (.aload_n 0, 1) := by decide +kernel
theorem dX3_copy_41 : decode cX3_copy 41 = .ok (.aload_n 1, 1) := by decide +kernel
theorem dX3_copy_42 : decode cX3_copy 42 = .ok (.getfield 77, 3) := by decide +kernel
theorem dX3_copy_45 : decode cX3_copy 45 = .ok (.putfield 77, 3) := by decide +kernel
theorem dX3_copy_48 : decode cX3_copy 48 = .ok (.aload_n 0, 1) := by decide +kernel
theorem dX3_copy_49 : decode cX3_copy 49 = .ok (.aload_n 1, 1) := by decide +kernel
theorem dX3_copy_50 : decode cX3_copy 50 = .ok (.getfield 24, 3) := by decide +kernel
theorem dX3_copy_53 : decode cX3_copy 53 = .ok (.putfield 24, 3) := by decide +kernel
theorem dX3_copy_56 : decode cX3_copy 56 = .ok (.aload_n 0, 1) := by decide +kernel
theorem dX3_copy_57 : decode cX3_copy 57 = .ok (.aload_n 1, 1) := by decide +kernel
theorem dX3_copy_58 : decode cX3_copy 58 = .ok (.getfield 110, 3) := by decide +kernel
theorem dX3_copy_61 : decode cX3_copy 61 = .ok (.putfield 110, 3) := by decide +kernel
theorem dX3_copy_64 : decode cX3_copy 64 = .ok (.aload_n 0, 1) := by decide +kernel
theorem dX3_copy_65 : decode cX3_copy 65 = .ok (.aload_n 1, 1) := by decide +kernel
theorem dX3_copy_66 : decode cX3_copy 66 = .ok (.getfield 15, 3) := by decide +kernel
theorem dX3_copy_69 : decode cX3_copy 69 = .ok (.putfield 15, 3) := by decide +kernel
theorem dX3_copy_72 : decode cX3_copy 72 = .ok (.aload_n 0, 1) := by decide +kernel
theorem dX3_copy_73 : decode cX3_copy 73 = .ok (.aload_n 1, 1) := by decide +kernel
theorem dX3_copy_74 : decode cX3_copy 74 = .ok (.getfield 88, 3) := by decide +kernel
theorem dX3_copy_77 : decode cX3_copy 77 = .ok (.putfield 88, 3) := by decide +kernel
theorem dX3_copy_80 : decode cX3_copy 80 = .ok (.aload_n 0, 1) := by decide +kernel
theorem dX3_copy_81 : decode cX3_copy 81 = .ok (.aload_n 1, 1) := by decide +kernel
theorem dX3_copy_82 : decode cX3_copy 82 = .ok (.getfield 91, 3) := by decide +kernel
theorem dX3_copy_85 : decode cX3_copy 85 = .ok (.putfield 91, 3) := by decide +kernel
theorem dX3_copy_88 : decode cX3_copy 88 = .ok (.aload_n 0, 1) := by decide +kernel
theorem dX3_copy_89 : decode cX3_copy 89 = .ok (.aload_n 1, 1) := by decide +kernel
theorem dX3_copy_90 : decode cX3_copy 90 = .ok (.getfield 97, 3) := by decide +kernel
theorem dX3_copy_93 : decode cX3_copy 93 = .ok (.putfield 97, 3) := by decide +kernel
theorem dX3_copy_96 : decode cX3_copy 96 = .ok (.aload_n 0, 1) := by decide +kernel
theorem dX3_copy_97 : decode cX3_copy 97 = .ok (.aload_n 1, 1) := by decide +kernel
theorem dX3_copy_98 : decode cX3_copy 98 = .ok (.getfield 100, 3) := by decide +kernel
theorem dX3_copy_101 : decode cX3_copy 101 = .ok (.putfield 100, 3) := by decide +kernel
theorem dX3_copy_104 : decode cX3_copy 104 = .ok (.return_, 1) := by decide +kernel
theorem dX4_init_0 : decode cX4_init 0 = .ok (.aload_n 0, 1) := by decide +kernel
theorem dX4_init_1 : decode cX4_init 1 = .ok (.invokespecial 1, 3) := by decide +kernel
theorem dX4_init_4 : decode cX4_init 4 = .ok (.aload_n 0, 1) := by decide +kernel
theorem dX4_init_5 : decode cX4_init 5 = .ok (.iconst 1, 1) := by decide +kernel
theorem dX4_init_6 : decode cX4_init 6 = .ok (.putfield 7, 3) := by decide +kernel
theorem dX4_init_9 : decode cX4_init 9 = .ok (.aload_n 0, 1) := by decide +kernel
theorem dX4_init_10 : decode cX4_init 10 = .ok (.new 13, 3) := by decide +kernel
theorem dX4_init_13 : decode cX4_init 13 = .ok (.dup, 1) := by decide +kernel
theorem dX4_init_14 : decode cX4_init 14 = .ok (.invokespecial 15, 3) := by decide +kernel
theorem dX4_init_17 : decode cX4_init 17 = .ok (.putfield 16, 3) := by decide +kernel
theorem dX4_init_20 : decode cX4_init 20 = .ok (.aload_n 0, 1) := by decide +kernel
theorem dX4_init_21 : decode cX4_init 21 = .ok (.new 20, 3) := by decide +kernel
theorem dX4_init_24 : decode cX4_init 24 = .ok (.dup, 1) := by decide +kernel
theorem dX4_init_25 : decode cX4_init 25 = .ok (.invokespecial 22, 3) := by decide +kernel
theorem dX4_init_28 : decode cX4_init 28 = .ok (.putfield 23, 3) := by decide +kernel
theorem dX4_init_31 : decode cX4_init 31 = .ok (.aload_n 0, 1) := by decide +kernel
theorem dX4_init_32 : decode cX4_init 32 = .ok (.new 27, 3) := by decide +kernel
theorem dX4_init_35 : decode cX4_init 35 = .ok (.dup, 1) := by decide +kernel
theorem dX4_init_36 : decode cX4_init 36 = .ok (.invokespecial 29, 3) := by decide +kernel
theorem dX4_init_39 : decode cX4_init 39 = .ok (.putfield 30, 3) := by decide +kernel
theorem dX4_init_42 : decode cX4_init 42 = .ok (.aload_n 0, 1) := by decide +kernel
theorem dX4_init_43 : decode cX4_init 43 = .ok (.new 34, 3) := by decide +kernel
theorem dX4_init_46 : decode cX4_init 46 = .ok (.dup, 1) := by decide +kernel
theorem dX4_init_47 : decode cX4_init 47 = .ok (.invokespecial 36, 3) := by decide +kernel
theorem dX4_init_50 : decode cX4_init 50 = .ok (.putfield 37, 3) := by decide +kernel
theorem dX4_init_53 : decode cX4_init 53 = .ok (.aload_n 0, 1) := by decide +kernel
theorem dX4_init_54 : decode cX4_init 54 = .ok (.new 34, 3) := by decide +kernel
theorem dX4_init_57 : decode cX4_init 57 = .ok (.dup, 1) := by decide +kernel
theorem dX4_init_58 : decode cX4_init 58 = .ok (.invokespecial 36, 3) := by decide +kernel
theorem dX4_init_61 : decode cX4_init 61 = .ok (.putfield 41, 3) := by decide +kernel
theorem dX4_init_64 : decode cX4_init 64 = .ok (.aload_n 0, 1) := by decide +kernel
theorem dX4_init_65 : decode cX4_init 65 = .ok (.new 34, 3) := by decide +kernel
theorem dX4_init_68 : decode cX4_init 68 = .ok (.dup, 1) := by decide +kernel
theorem dX4_init_69 : decode cX4_init 69 = .ok (.invokespecial 36, 3) := by decide +kernel
theorem dX4_init_72 : decode cX4_init 72 = .ok (.putfield 44, 3) := by decide +kernel
theorem dX4_init_75 : decode cX4_init 75 = .ok (.return_, 1) := by decide +kernel
theorem dX4_day_0 : decode cX4_day 0 = .ok (.aload_n 0, 1) := by decide +kernel
theorem dX4_day_1 : decode cX4_day 1 = .ok (.getfield 7, 3) := by decide +kernel
theorem dX4_day_4 : decode cX4_day 4 = .ok (.invokestatic 47, 3) := by decide +kernel
theorem dX4_day_7 : decode cX4_day 7 = .ok (.ireturn, 1) := by decide +kernel
theorem dX4_chaserOf_0 : decode cX4_chaserOf 0 = .ok (.iload_n 1, 1) := by decide +kernel
theorem dX4_chaserOf_1 : decode cX4_chaserOf 1 = .ok (.tableswitch 42 0 2 #[27, 32, 37], 27) := by decide +kernel
theorem dX4_chaserOf_28 : decode cX4_chaserOf 28 = .ok (.aload_n 0, 1) := by decide +kernel
theorem dX4_chaserOf_29 : decode cX4_chaserOf 29 = .ok (.getfield 37, 3) := by decide +kernel
theorem dX4_chaserOf_32 : decode cX4_chaserOf 32 = .ok (.areturn, 1) := by decide +kernel
theorem dX4_chaserOf_33 : decode cX4_chaserOf 33 = .ok (.aload_n 0, 1) := by decide +kernel
theorem dX4_chaserOf_34 : decode cX4_chaserOf 34 = .ok (.getfield 41, 3) := by decide +kernel
theorem dX4_chaserOf_37 : decode cX4_chaserOf 37 = .ok (.areturn, 1) := by decide +kernel
theorem dX4_chaserOf_38 : decode cX4_chaserOf 38 = .ok (.aload_n 0, 1) := by decide +kernel
theorem dX4_chaserOf_39 : decode cX4_chaserOf 39 = .ok (.getfield 44, 3) := by decide +kernel
theorem dX4_chaserOf_42 : decode cX4_chaserOf 42 = .ok (.areturn, 1) := by decide +kernel
theorem dX4_chaserOf_43 : decode cX4_chaserOf 43 = .ok (.aconst_null, 1) := by decide +kernel
theorem dX4_chaserOf_44 : decode cX4_chaserOf 44 = .ok (.areturn, 1) := by decide +kernel
theorem dX4_turnTo_0 : decode cX4_turnTo 0 = .ok (.aload_n 0, 1) := by decide +kernel
theorem dX4_turnTo_1 : decode cX4_turnTo 1 = .ok (.iload_n 1, 1) := by decide +kernel
theorem dX4_turnTo_2 : decode cX4_turnTo 2 = .ok (.putfield 7, 3) := by decide +kernel
theorem dX4_turnTo_5 : decode cX4_turnTo 5 = .ok (.aload_n 0, 1) := by decide +kernel
theorem dX4_turnTo_6 : decode cX4_turnTo 6 = .ok (.invokevirtual 53, 3) := by decide +kernel
theorem dX4_turnTo_9 : decode cX4_turnTo 9 = .ok (.istore_n 2, 1) := by decide +kernel
theorem dX4_turnTo_10 : decode cX4_turnTo 10 = .ok (.aload_n 0, 1) := by decide +kernel
theorem dX4_turnTo_11 : decode cX4_turnTo 11 = .ok (.getfield 16, 3) := by decide +kernel
theorem dX4_turnTo_14 : decode cX4_turnTo 14 = .ok (.iload_n 2, 1) := by decide +kernel
theorem dX4_turnTo_15 : decode cX4_turnTo 15 = .ok (.invokevirtual 57, 3) := by decide +kernel
theorem dX4_turnTo_18 : decode cX4_turnTo 18 = .ok (.aload_n 0, 1) := by decide +kernel
theorem dX4_turnTo_19 : decode cX4_turnTo 19 = .ok (.getfield 30, 3) := by decide +kernel
theorem dX4_turnTo_22 : decode cX4_turnTo 22 = .ok (.aload_n 0, 1) := by decide +kernel
theorem dX4_turnTo_23 : decode cX4_turnTo 23 = .ok (.getfield 30, 3) := by decide +kernel
theorem dX4_turnTo_26 : decode cX4_turnTo 26 = .ok (.getfield 61, 3) := by decide +kernel
theorem dX4_turnTo_29 : decode cX4_turnTo 29 = .ok (.iload_n 2, 1) := by decide +kernel
theorem dX4_turnTo_30 : decode cX4_turnTo 30 = .ok (.invokestatic 64, 3) := by decide +kernel
theorem dX4_turnTo_33 : decode cX4_turnTo 33 = .ok (.putfield 61, 3) := by decide +kernel
theorem dX4_turnTo_36 : decode cX4_turnTo 36 = .ok (.aload_n 0, 1) := by decide +kernel
theorem dX4_turnTo_37 : decode cX4_turnTo 37 = .ok (.getfield 37, 3) := by decide +kernel
theorem dX4_turnTo_40 : decode cX4_turnTo 40 = .ok (.aload_n 0, 1) := by decide +kernel
theorem dX4_turnTo_41 : decode cX4_turnTo 41 = .ok (.getfield 37, 3) := by decide +kernel
theorem dX4_turnTo_44 : decode cX4_turnTo 44 = .ok (.getfield 70, 3) := by decide +kernel
theorem dX4_turnTo_47 : decode cX4_turnTo 47 = .ok (.iload_n 2, 1) := by decide +kernel
theorem dX4_turnTo_48 : decode cX4_turnTo 48 = .ok (.invokestatic 64, 3) := by decide +kernel
theorem dX4_turnTo_51 : decode cX4_turnTo 51 = .ok (.putfield 70, 3) := by decide +kernel
theorem dX4_turnTo_54 : decode cX4_turnTo 54 = .ok (.aload_n 0, 1) := by decide +kernel
theorem dX4_turnTo_55 : decode cX4_turnTo 55 = .ok (.getfield 41, 3) := by decide +kernel
theorem dX4_turnTo_58 : decode cX4_turnTo 58 = .ok (.aload_n 0, 1) := by decide +kernel
theorem dX4_turnTo_59 : decode cX4_turnTo 59 = .ok (.getfield 41, 3) := by decide +kernel
theorem dX4_turnTo_62 : decode cX4_turnTo 62 = .ok (.getfield 70, 3) := by decide +kernel
theorem dX4_turnTo_65 : decode cX4_turnTo 65 = .ok (.iload_n 2, 1) := by decide +kernel
theorem dX4_turnTo_66 : decode cX4_turnTo 66 = .ok (.invokestatic 64, 3) := by decide +kernel
theorem dX4_turnTo_69 : decode cX4_turnTo 69 = .ok (.putfield 70, 3) := by decide +kernel
theorem dX4_turnTo_72 : decode cX4_turnTo 72 = .ok (.aload_n 0, 1) := by decide +kernel
theorem dX4_turnTo_73 : decode cX4_turnTo 73 = .ok (.getfield 44, 3) := by decide +kernel
theorem dX4_turnTo_76 : decode cX4_turnTo 76 = .ok (.aload_n 0, 1) := by decide +kernel
theorem dX4_turnTo_77 : decode cX4_turnTo 77 = .ok (.getfield 44, 3) := by decide +kernel
theorem dX4_turnTo_80 : decode cX4_turnTo 80 = .ok (.getfield 70, 3) := by decide +kernel
theorem dX4_turnTo_83 : decode cX4_turnTo 83 = .ok (.iload_n 2, 1) := by decide +kernel
theorem dX4_turnTo_84 : decode cX4_turnTo 84 = .ok (.invokestatic 64, 3) := by decide +kernel
theorem dX4_turnTo_87 : decode cX4_turnTo 87 = .ok (.putfield 70, 3) := by decide +kernel
theorem dX4_turnTo_90 : decode cX4_turnTo 90 = .ok (.return_, 1) := by decide +kernel
theorem dX4_play_0 : decode cX4_play 0 = .ok (.iconst (-1), 1) := by decide +kernel
theorem dX4_play_1 : decode cX4_play 1 = .ok (.istore 5, 2) := by decide +kernel
theorem dX4_play_3 : decode cX4_play 3 = .ok (.lconst 0, 1) := by decide +kernel
theorem dX4_play_4 : decode cX4_play 4 = .ok (.lstore 6, 2) := by decide +kernel
theorem dX4_play_6 : decode cX4_play 6 = .ok (.iconst 0, 1) := by decide +kernel
theorem dX4_play_7 : decode cX4_play 7 = .ok (.istore 8, 2) := by decide +kernel
theorem dX4_play_9 : decode cX4_play 9 = .ok (.iload 8, 2) := by decide +kernel
theorem dX4_play_11 : decode cX4_play 11 = .ok (.iload_n 1, 1) := by decide +kernel
theorem dX4_play_12 : decode cX4_play 12 = .ok (.if_icmp .ge 134, 3) := by decide +kernel
theorem dX4_play_15 : decode cX4_play 15 = .ok (.iload 4, 2) := by decide +kernel
theorem dX4_play_17 : decode cX4_play 17 = .ok (.ifCond .eq 15, 3) := by decide +kernel
theorem dX4_play_20 : decode cX4_play 20 = .ok (.aload_n 0, 1) := by decide +kernel
theorem dX4_play_21 : decode cX4_play 21 = .ok (.getfield 16, 3) := by decide +kernel
theorem dX4_play_24 : decode cX4_play 24 = .ok (.getfield 73, 3) := by decide +kernel
theorem dX4_play_27 : decode cX4_play 27 = .ok (.iconst 1, 1) := by decide +kernel
theorem dX4_play_28 : decode cX4_play 28 = .ok (.isub, 1) := by decide +kernel
theorem dX4_play_29 : decode cX4_play 29 = .ok (.goto 10, 3) := by decide +kernel
theorem dX4_play_32 : decode cX4_play 32 = .ok (.aload_n 0, 1) := by decide +kernel
theorem dX4_play_33 : decode cX4_play 33 = .ok (.getfield 16, 3) := by decide +kernel
theorem dX4_play_36 : decode cX4_play 36 = .ok (.getfield 73, 3) := by decide +kernel
theorem dX4_play_39 : decode cX4_play 39 = .ok (.istore 9, 2) := by decide +kernel
theorem dX4_play_41 : decode cX4_play 41 = .ok (.iload 9, 2) := by decide +kernel
theorem dX4_play_43 : decode cX4_play 43 = .ok (.bipush 48, 2) := by decide +kernel
theorem dX4_play_45 : decode cX4_play 45 = .ok (.idiv, 1) := by decide +kernel
theorem dX4_play_46 : decode cX4_play 46 = .ok (.iload 5, 2) := by decide +kernel
theorem dX4_play_48 : decode cX4_play 48 = .ok (.if_icmp .eq 25, 3) := by decide +kernel
theorem dX4_play_51 : decode cX4_play 51 = .ok (.iload 9, 2) := by decide +kernel
theorem dX4_play_53 : decode cX4_play 53 = .ok (.bipush 48, 2) := by decide +kernel
theorem dX4_play_55 : decode cX4_play 55 = .ok (.idiv, 1) := by decide +kernel
theorem dX4_play_56 : decode cX4_play 56 = .ok (.istore 5, 2) := by decide +kernel
theorem dX4_play_58 : decode cX4_play 58 = .ok (.aload_n 0, 1) := by decide +kernel
theorem dX4_play_59 : decode cX4_play 59 = .ok (.getfield 16, 3) := by decide +kernel
theorem dX4_play_62 : decode cX4_play 62 = .ok (.iload 5, 2) := by decide +kernel
theorem dX4_play_64 : decode cX4_play 64 = .ok (.aload_n 0, 1) := by decide +kernel
theorem dX4_play_65 : decode cX4_play 65 = .ok (.getfield 7, 3) := by decide +kernel
theorem dX4_play_68 : decode cX4_play 68 = .ok (.invokevirtual 78, 3) := by decide +kernel
theorem dX4_play_71 : decode cX4_play 71 = .ok (.lstore 6, 2) := by decide +kernel
theorem dX4_play_73 : decode cX4_play 73 = .ok (.iload_n 2, 1) := by decide +kernel
theorem dX4_play_74 : decode cX4_play 74 = .ok (.iload 8, 2) := by decide +kernel
theorem dX4_play_76 : decode cX4_play 76 = .ok (.iload_n 3, 1) := by decide +kernel
theorem dX4_play_77 : decode cX4_play 77 = .ok (.imul, 1) := by decide +kernel
theorem dX4_play_78 : decode cX4_play 78 = .ok (.iconst 5, 1) := by decide +kernel
theorem dX4_play_79 : decode cX4_play 79 = .ok (.irem, 1) := by decide +kernel
theorem dX4_play_80 : decode cX4_play 80 = .ok (.iadd, 1) := by decide +kernel
theorem dX4_play_81 : decode cX4_play 81 = .ok (.istore 10, 2) := by decide +kernel
theorem dX4_play_83 : decode cX4_play 83 = .ok (.lload 6, 2) := by decide +kernel
theorem dX4_play_85 : decode cX4_play 85 = .ok (.iload 9, 2) := by decide +kernel
theorem dX4_play_87 : decode cX4_play 87 = .ok (.bipush 48, 2) := by decide +kernel
theorem dX4_play_89 : decode cX4_play 89 = .ok (.irem, 1) := by decide +kernel
theorem dX4_play_90 : decode cX4_play 90 = .ok (.invokestatic 82, 3) := by decide +kernel
theorem dX4_play_93 : decode cX4_play 93 = .ok (.ifCond .ne 14, 3) := by decide +kernel
theorem dX4_play_96 : decode cX4_play 96 = .ok (.aload_n 0, 1) := by decide +kernel
theorem dX4_play_97 : decode cX4_play 97 = .ok (.iconst 2, 1) := by decide +kernel
theorem dX4_play_98 : decode cX4_play 98 = .ok (.iload 10, 2) := by decide +kernel
theorem dX4_play_100 : decode cX4_play 100 = .ok (.imul, 1) := by decide +kernel
theorem dX4_play_101 : decode cX4_play 101 = .ok (.invokevirtual 86, 3) := by decide +kernel
theorem dX4_play_104 : decode cX4_play 104 = .ok (.goto 15, 3) := by decide +kernel
theorem dX4_play_107 : decode cX4_play 107 = .ok (.aload_n 0, 1) := by decide +kernel
theorem dX4_play_108 : decode cX4_play 108 = .ok (.iload 10, 2) := by decide +kernel
theorem dX4_play_110 : decode cX4_play 110 = .ok (.invokevirtual 86, 3) := by decide +kernel
theorem dX4_play_113 : decode cX4_play 113 = .ok (.aload_n 0, 1) := by decide +kernel
theorem dX4_play_114 : decode cX4_play 114 = .ok (.iload 10, 2) := by decide +kernel
theorem dX4_play_116 : decode cX4_play 116 = .ok (.invokevirtual 86, 3) := by decide +kernel
theorem dX4_play_119 : decode cX4_play 119 = .ok (.aload_n 0, 1) := by decide +kernel
theorem dX4_play_120 : decode cX4_play 120 = .ok (.getfield 16, 3) := by decide +kernel
theorem dX4_play_123 : decode cX4_play 123 = .ok (.iload 4, 2) := by decide +kernel
theorem dX4_play_125 : decode cX4_play 125 = .ok (.ifCond .eq 8, 3) := by decide +kernel
theorem dX4_play_128 : decode cX4_play 128 = .ok (.iload 9, 2) := by decide +kernel
theorem dX4_play_130 : decode cX4_play 130 = .ok (.goto 7, 3) := by decide +kernel
theorem dX4_play_133 : decode cX4_play 133 = .ok (.iload 9, 2) := by decide +kernel
theorem dX4_play_135 : decode cX4_play 135 = .ok (.iconst 1, 1) := by decide +kernel
theorem dX4_play_136 : decode cX4_play 136 = .ok (.iadd, 1) := by decide +kernel
theorem dX4_play_137 : decode cX4_play 137 = .ok (.putfield 73, 3) := by decide +kernel
theorem dX4_play_140 : decode cX4_play 140 = .ok (.iinc 8 1, 3) := by decide +kernel
theorem dX4_play_143 : decode cX4_play 143 = .ok (.goto (-134), 3) := by decide +kernel
theorem dX4_play_146 : decode cX4_play 146 = .ok (.return_, 1) := by decide +kernel
theorem dX4_hear_0 : decode cX4_hear 0 = .ok (.aload_n 0, 1) := by decide +kernel
theorem dX4_hear_1 : decode cX4_hear 1 = .ok (.getfield 23, 3) := by decide +kernel
theorem dX4_hear_4 : decode cX4_hear 4 = .ok (.iload_n 1, 1) := by decide +kernel
theorem dX4_hear_5 : decode cX4_hear 5 = .ok (.invokevirtual 89, 3) := by decide +kernel
theorem dX4_hear_8 : decode cX4_hear 8 = .ok (.istore_n 2, 1) := by decide +kernel
theorem dX4_hear_9 : decode cX4_hear 9 = .ok (.iload_n 2, 1) := by decide +kernel
theorem dX4_hear_10 : decode cX4_hear 10 = .ok (.ifCond .eq 49, 3) := by decide +kernel
theorem dX4_hear_13 : decode cX4_hear 13 = .ok (.aload_n 0, 1) := by decide +kernel
theorem dX4_hear_14 : decode cX4_hear 14 = .ok (.getfield 23, 3) := by decide +kernel
theorem dX4_hear_17 : decode cX4_hear 17 = .ok (.iload_n 2, 1) := by decide +kernel
theorem dX4_hear_18 : decode cX4_hear 18 = .ok (.aload_n 0, 1) := by decide +kernel
theorem dX4_hear_19 : decode cX4_hear 19 = .ok (.getfield 7, 3) := by decide +kernel
theorem dX4_hear_22 : decode cX4_hear 22 = .ok (.invokevirtual 92, 3) := by decide +kernel
theorem dX4_hear_25 : decode cX4_hear 25 = .ok (.ifCond .eq 34, 3) := by decide +kernel
theorem dX4_hear_28 : decode cX4_hear 28 = .ok (.aload_n 0, 1) := by decide +kernel
theorem dX4_hear_29 : decode cX4_hear 29 = .ok (.getfield 23, 3) := by decide +kernel
theorem dX4_hear_32 : decode cX4_hear 32 = .ok (.invokevirtual 96, 3) := by decide +kernel
theorem dX4_hear_35 : decode cX4_hear 35 = .ok (.ifCond .eq 24, 3) := by decide +kernel
theorem dX4_hear_38 : decode cX4_hear 38 = .ok (.aload_n 0, 1) := by decide +kernel
theorem dX4_hear_39 : decode cX4_hear 39 = .ok (.getfield 30, 3) := by decide +kernel
theorem dX4_hear_42 : decode cX4_hear 42 = .ok (.aload_n 0, 1) := by decide +kernel
theorem dX4_hear_43 : decode cX4_hear 43 = .ok (.getfield 23, 3) := by decide +kernel
theorem dX4_hear_46 : decode cX4_hear 46 = .ok (.getfield 100, 3) := by decide +kernel
theorem dX4_hear_49 : decode cX4_hear 49 = .ok (.aload_n 0, 1) := by decide +kernel
theorem dX4_hear_50 : decode cX4_hear 50 = .ok (.getfield 23, 3) := by decide +kernel
theorem dX4_hear_53 : decode cX4_hear 53 = .ok (.getfield 101, 3) := by decide +kernel
theorem dX4_hear_56 : decode cX4_hear 56 = .ok (.invokevirtual 104, 3) := by decide +kernel
theorem dX4_hear_59 : decode cX4_hear 59 = .ok (.return_, 1) := by decide +kernel
theorem dX4_miss_0 : decode cX4_miss 0 = .ok (.aload_n 0, 1) := by decide +kernel
theorem dX4_miss_1 : decode cX4_miss 1 = .ok (.getfield 23, 3) := by decide +kernel
theorem dX4_miss_4 : decode cX4_miss 4 = .ok (.invokevirtual 96, 3) := by decide +kernel
theorem dX4_miss_7 : decode cX4_miss 7 = .ok (.ifCond .eq 17, 3) := by decide +kernel
theorem dX4_miss_10 : decode cX4_miss 10 = .ok (.aload_n 0, 1) := by decide +kernel
theorem dX4_miss_11 : decode cX4_miss 11 = .ok (.getfield 30, 3) := by decide +kernel
theorem dX4_miss_14 : decode cX4_miss 14 = .ok (.aload_n 0, 1) := by decide +kernel
theorem dX4_miss_15 : decode cX4_miss 15 = .ok (.invokevirtual 53, 3) := by decide +kernel
theorem dX4_miss_18 : decode cX4_miss 18 = .ok (.invokevirtual 108, 3) := by decide +kernel
theorem dX4_miss_21 : decode cX4_miss 21 = .ok (.ifCond .ne 11, 3) := by decide +kernel
theorem dX4_miss_24 : decode cX4_miss 24 = .ok (.aload_n 0, 1) := by decide +kernel
theorem dX4_miss_25 : decode cX4_miss 25 = .ok (.getfield 23, 3) := by decide +kernel
theorem dX4_miss_28 : decode cX4_miss 28 = .ok (.iconst 0, 1) := by decide +kernel
theorem dX4_miss_29 : decode cX4_miss 29 = .ok (.putfield 112, 3) := by decide +kernel
theorem dX4_miss_32 : decode cX4_miss 32 = .ok (.return_, 1) := by decide +kernel
theorem dX4_copy_0 : decode cX4_copy 0 = .ok (.aload_n 0, 1) := by decide +kernel
theorem dX4_copy_1 : decode cX4_copy 1 = .ok (.aload_n 1, 1) := by decide +kernel
theorem dX4_copy_2 : decode cX4_copy 2 = .ok (.getfield 7, 3) := by decide +kernel
theorem dX4_copy_5 : decode cX4_copy 5 = .ok (.putfield 7, 3) := by decide +kernel
theorem dX4_copy_8 : decode cX4_copy 8 = .ok (.aload_n 0, 1) := by decide +kernel
theorem dX4_copy_9 : decode cX4_copy 9 = .ok (.getfield 16, 3) := by decide +kernel
theorem dX4_copy_12 : decode cX4_copy 12 = .ok (.aload_n 1, 1) := by decide +kernel
theorem dX4_copy_13 : decode cX4_copy 13 = .ok (.getfield 16, 3) := by decide +kernel
theorem dX4_copy_16 : decode cX4_copy 16 = .ok (.invokevirtual 115, 3) := by decide +kernel
theorem dX4_copy_19 : decode cX4_copy 19 = .ok (.aload_n 0, 1) := by decide +kernel
theorem dX4_copy_20 : decode cX4_copy 20 = .ok (.getfield 23, 3) := by decide +kernel
theorem dX4_copy_23 : decode cX4_copy 23 = .ok (.aload_n 1, 1) := by decide +kernel
theorem dX4_copy_24 : decode cX4_copy 24 = .ok (.getfield 23, 3) := by decide +kernel
theorem dX4_copy_27 : decode cX4_copy 27 = .ok (.invokevirtual 119, 3) := by decide +kernel
theorem dX4_copy_30 : decode cX4_copy 30 = .ok (.aload_n 0, 1) := by decide +kernel
theorem dX4_copy_31 : decode cX4_copy 31 = .ok (.getfield 30, 3) := by decide +kernel
theorem dX4_copy_34 : decode cX4_copy 34 = .ok (.aload_n 1, 1) := by decide +kernel
theorem dX4_copy_35 : decode cX4_copy 35 = .ok (.getfield 30, 3) := by decide +kernel
theorem dX4_copy_38 : decode cX4_copy 38 = .ok (.invokevirtual 122, 3) := by decide +kernel
theorem dX4_copy_41 : decode cX4_copy 41 = .ok (.aload_n 0, 1) := by decide +kernel
theorem dX4_copy_42 : decode cX4_copy 42 = .ok (.getfield 37, 3) := by decide +kernel
theorem dX4_copy_45 : decode cX4_copy 45 = .ok (.aload_n 1, 1) := by decide +kernel
theorem dX4_copy_46 : decode cX4_copy 46 = .ok (.getfield 37, 3) := by decide +kernel
theorem dX4_copy_49 : decode cX4_copy 49 = .ok (.invokevirtual 125, 3) := by decide +kernel
theorem dX4_copy_52 : decode cX4_copy 52 = .ok (.aload_n 0, 1) := by decide +kernel
theorem dX4_copy_53 : decode cX4_copy 53 = .ok (.getfield 41, 3) := by decide +kernel
theorem dX4_copy_56 : decode cX4_copy 56 = .ok (.aload_n 1, 1) := by decide +kernel
theorem dX4_copy_57 : decode cX4_copy 57 = .ok (.getfield 41, 3) := by decide +kernel
theorem dX4_copy_60 : decode cX4_copy 60 = .ok (.invokevirtual 125, 3) := by decide +kernel
theorem dX4_copy_63 : decode cX4_copy 63 = .ok (.aload_n 0, 1) := by decide +kernel
theorem dX4_copy_64 : decode cX4_copy 64 = .ok (.getfield 44, 3) := by decide +kernel
theorem dX4_copy_67 : decode cX4_copy 67 = .ok (.aload_n 1, 1) := by decide +kernel
theorem dX4_copy_68 : decode cX4_copy 68 = .ok (.getfield 44, 3) := by decide +kernel
theorem dX4_copy_71 : decode cX4_copy 71 = .ok (.invokevirtual 125, 3) := by decide +kernel
theorem dX4_copy_74 : decode cX4_copy 74 = .ok (.return_, 1) := by decide +kernel
theorem dX5_init_0 : decode cX5_init 0 = .ok (.aload_n 0, 1) := by decide +kernel
theorem dX5_init_1 : decode cX5_init 1 = .ok (.invokespecial 1, 3) := by decide +kernel
theorem dX5_init_4 : decode cX5_init 4 = .ok (.aload_n 0, 1) := by decide +kernel
theorem dX5_init_5 : decode cX5_init 5 = .ok (.bipush 6, 2) := by decide +kernel
theorem dX5_init_7 : decode cX5_init 7 = .ok (.newarray .int, 2) := by decide +kernel
theorem dX5_init_9 : decode cX5_init 9 = .ok (.putfield 9, 3) := by decide +kernel
theorem dX5_init_12 : decode cX5_init 12 = .ok (.aload_n 0, 1) := by decide +kernel
theorem dX5_init_13 : decode cX5_init 13 = .ok (.bipush 6, 2) := by decide +kernel
theorem dX5_init_15 : decode cX5_init 15 = .ok (.newarray .int, 2) := by decide +kernel
theorem dX5_init_17 : decode cX5_init 17 = .ok (.putfield 13, 3) := by decide +kernel
theorem dX5_init_20 : decode cX5_init 20 = .ok (.aload_n 0, 1) := by decide +kernel
theorem dX5_init_21 : decode cX5_init 21 = .ok (.bipush 6, 2) := by decide +kernel
theorem dX5_init_23 : decode cX5_init 23 = .ok (.newarray .int, 2) := by decide +kernel
theorem dX5_init_25 : decode cX5_init 25 = .ok (.putfield 16, 3) := by decide +kernel
theorem dX5_init_28 : decode cX5_init 28 = .ok (.return_, 1) := by decide +kernel
theorem dX5_bitsInAll_0 : decode cX5_bitsInAll 0 = .ok (.bipush 48, 2) := by decide +kernel
theorem dX5_bitsInAll_2 : decode cX5_bitsInAll 2 = .ok (.aload_n 0, 1) := by decide +kernel
theorem dX5_bitsInAll_3 : decode cX5_bitsInAll 3 = .ok (.getfield 21, 3) := by decide +kernel
theorem dX5_bitsInAll_6 : decode cX5_bitsInAll 6 = .ok (.imul, 1) := by decide +kernel
theorem dX5_bitsInAll_7 : decode cX5_bitsInAll 7 = .ok (.ireturn, 1) := by decide +kernel
theorem dX5_append_0 : decode cX5_append 0 = .ok (.aload_n 0, 1) := by decide +kernel
theorem dX5_append_1 : decode cX5_append 1 = .ok (.getfield 25, 3) := by decide +kernel
theorem dX5_append_4 : decode cX5_append 4 = .ok (.ifCond .lt 12, 3) := by decide +kernel
theorem dX5_append_7 : decode cX5_append 7 = .ok (.aload_n 0, 1) := by decide +kernel
theorem dX5_append_8 : decode cX5_append 8 = .ok (.getfield 25, 3) := by decide +kernel
theorem dX5_append_11 : decode cX5_append 11 = .ok (.bipush 6, 2) := by decide +kernel
theorem dX5_append_13 : decode cX5_append 13 = .ok (.if_icmp .lt 4, 3) := by decide +kernel
theorem dX5_append_16 : decode cX5_append 16 = .ok (.return_, 1) := by decide +kernel
theorem dX5_append_17 : decode cX5_append 17 = .ok (.aload_n 0, 1) := by decide +kernel
theorem dX5_append_18 : decode cX5_append 18 = .ok (.getfield 9, 3) := by decide +kernel
theorem dX5_append_21 : decode cX5_append 21 = .ok (.aload_n 0, 1) := by decide +kernel
theorem dX5_append_22 : decode cX5_append 22 = .ok (.getfield 25, 3) := by decide +kernel
theorem dX5_append_25 : decode cX5_append 25 = .ok (.iload_n 1, 1) := by decide +kernel
theorem dX5_append_26 : decode cX5_append 26 = .ok (.iastore, 1) := by decide +kernel
theorem dX5_append_27 : decode cX5_append 27 = .ok (.aload_n 0, 1) := by decide +kernel
theorem dX5_append_28 : decode cX5_append 28 = .ok (.getfield 13, 3) := by decide +kernel
theorem dX5_append_31 : decode cX5_append 31 = .ok (.aload_n 0, 1) := by decide +kernel
theorem dX5_append_32 : decode cX5_append 32 = .ok (.getfield 25, 3) := by decide +kernel
theorem dX5_append_35 : decode cX5_append 35 = .ok (.iload_n 2, 1) := by decide +kernel
theorem dX5_append_36 : decode cX5_append 36 = .ok (.iastore, 1) := by decide +kernel
theorem dX5_append_37 : decode cX5_append 37 = .ok (.aload_n 0, 1) := by decide +kernel
theorem dX5_append_38 : decode cX5_append 38 = .ok (.getfield 16, 3) := by decide +kernel
theorem dX5_append_41 : decode cX5_append 41 = .ok (.aload_n 0, 1) := by decide +kernel
theorem dX5_append_42 : decode cX5_append 42 = .ok (.getfield 25, 3) := by decide +kernel
theorem dX5_append_45 : decode cX5_append 45 = .ok (.iload_n 3, 1) := by decide +kernel
theorem dX5_append_46 : decode cX5_append 46 = .ok (.iastore, 1) := by decide +kernel
theorem dX5_append_47 : decode cX5_append 47 = .ok (.aload_n 0, 1) := by decide +kernel
theorem dX5_append_48 : decode cX5_append 48 = .ok (.dup, 1) := by decide +kernel
theorem dX5_append_49 : decode cX5_append 49 = .ok (.getfield 25, 3) := by decide +kernel
theorem dX5_append_52 : decode cX5_append 52 = .ok (.iconst 1, 1) := by decide +kernel
theorem dX5_append_53 : decode cX5_append 53 = .ok (.iadd, 1) := by decide +kernel
theorem dX5_append_54 : decode cX5_append 54 = .ok (.putfield 25, 3) := by decide +kernel
theorem dX5_append_57 : decode cX5_append 57 = .ok (.aload_n 0, 1) := by decide +kernel
theorem dX5_append_58 : decode cX5_append 58 = .ok (.dup, 1) := by decide +kernel
theorem dX5_append_59 : decode cX5_append 59 = .ok (.getfield 21, 3) := by decide +kernel
theorem dX5_append_62 : decode cX5_append 62 = .ok (.iload_n 2, 1) := by decide +kernel
theorem dX5_append_63 : decode cX5_append 63 = .ok (.iadd, 1) := by decide +kernel
theorem dX5_append_64 : decode cX5_append 64 = .ok (.putfield 21, 3) := by decide +kernel
theorem dX5_append_67 : decode cX5_append 67 = .ok (.return_, 1) := by decide +kernel
theorem dX5_wordAt_0 : decode cX5_wordAt 0 = .ok (.iload_n 1, 1) := by decide +kernel
theorem dX5_wordAt_1 : decode cX5_wordAt 1 = .ok (.istore_n 3, 1) := by decide +kernel
theorem dX5_wordAt_2 : decode cX5_wordAt 2 = .ok (.iconst 0, 1) := by decide +kernel
theorem dX5_wordAt_3 : decode cX5_wordAt 3 = .ok (.istore 4, 2) := by decide +kernel
theorem dX5_wordAt_5 : decode cX5_wordAt 5 = .ok (.iload 4, 2) := by decide +kernel
theorem dX5_wordAt_7 : decode cX5_wordAt 7 = .ok (.aload_n 0, 1) := by decide +kernel
theorem dX5_wordAt_8 : decode cX5_wordAt 8 = .ok (.getfield 25, 3) := by decide +kernel
theorem dX5_wordAt_11 : decode cX5_wordAt 11 = .ok (.if_icmp .ge 65, 3) := by decide +kernel
theorem dX5_wordAt_14 : decode cX5_wordAt 14 = .ok (.iload 4, 2) := by decide +kernel
theorem dX5_wordAt_16 : decode cX5_wordAt 16 = .ok (.bipush 6, 2) := by decide +kernel
theorem dX5_wordAt_18 : decode cX5_wordAt 18 = .ok (.if_icmp .ge 58, 3) := by decide +kernel
theorem dX5_wordAt_21 : decode cX5_wordAt 21 = .ok (.iload_n 3, 1) := by decide +kernel
theorem dX5_wordAt_22 : decode cX5_wordAt 22 = .ok (.aload_n 0, 1) := by decide +kernel
theorem dX5_wordAt_23 : decode cX5_wordAt 23 = .ok (.getfield 13, 3) := by decide +kernel
theorem dX5_wordAt_26 : decode cX5_wordAt 26 = .ok (.iload 4, 2) := by decide +kernel
theorem dX5_wordAt_28 : decode cX5_wordAt 28 = .ok (.iaload, 1) := by decide +kernel
theorem dX5_wordAt_29 : decode cX5_wordAt 29 = .ok (.if_icmp .ge 31, 3) := by decide +kernel
theorem dX5_wordAt_32 : decode cX5_wordAt 32 = .ok (.iload_n 2, 1) := by decide +kernel
theorem dX5_wordAt_33 : decode cX5_wordAt 33 = .ok (.aload_n 0, 1) := by decide +kernel
theorem dX5_wordAt_34 : decode cX5_wordAt 34 = .ok (.getfield 9, 3) := by decide +kernel
theorem dX5_wordAt_37 : decode cX5_wordAt 37 = .ok (.iload 4, 2) := by decide +kernel
theorem dX5_wordAt_39 : decode cX5_wordAt 39 = .ok (.iaload, 1) := by decide +kernel
theorem dX5_wordAt_40 : decode cX5_wordAt 40 = .ok (.iload_n 3, 1) := by decide +kernel
theorem dX5_wordAt_41 : decode cX5_wordAt 41 = .ok (.iadd, 1) := by decide +kernel
theorem dX5_wordAt_42 : decode cX5_wordAt 42 = .ok (.iload_n 2, 1) := by decide +kernel
theorem dX5_wordAt_43 : decode cX5_wordAt 43 = .ok (.invokestatic 28, 3) := by decide +kernel
theorem dX5_wordAt_46 : decode cX5_wordAt 46 = .ok (.invokestatic 34, 3) := by decide +kernel
theorem dX5_wordAt_49 : decode cX5_wordAt 49 = .ok (.aload_n 0, 1) := by decide +kernel
theorem dX5_wordAt_50 : decode cX5_wordAt 50 = .ok (.getfield 16, 3) := by decide +kernel
theorem dX5_wordAt_53 : decode cX5_wordAt 53 = .ok (.iload 4, 2) := by decide +kernel
theorem dX5_wordAt_55 : decode cX5_wordAt 55 = .ok (.iaload, 1) := by decide +kernel
theorem dX5_wordAt_56 : decode cX5_wordAt 56 = .ok (.invokestatic 40, 3) := by decide +kernel
theorem dX5_wordAt_59 : decode cX5_wordAt 59 = .ok (.lreturn, 1) := by decide +kernel
theorem dX5_wordAt_60 : decode cX5_wordAt 60 = .ok (.iload_n 3, 1) := by decide +kernel
theorem dX5_wordAt_61 : decode cX5_wordAt 61 = .ok (.aload_n 0, 1) := by decide +kernel
theorem dX5_wordAt_62 : decode cX5_wordAt 62 = .ok (.getfield 13, 3) := by decide +kernel
theorem dX5_wordAt_65 : decode cX5_wordAt 65 = .ok (.iload 4, 2) := by decide +kernel
theorem dX5_wordAt_67 : decode cX5_wordAt 67 = .ok (.iaload, 1) := by decide +kernel
theorem dX5_wordAt_68 : decode cX5_wordAt 68 = .ok (.isub, 1) := by decide +kernel
theorem dX5_wordAt_69 : decode cX5_wordAt 69 = .ok (.istore_n 3, 1) := by decide +kernel
theorem dX5_wordAt_70 : decode cX5_wordAt 70 = .ok (.iinc 4 1, 3) := by decide +kernel
theorem dX5_wordAt_73 : decode cX5_wordAt 73 = .ok (.goto (-68), 3) := by decide +kernel
theorem dX5_wordAt_76 : decode cX5_wordAt 76 = .ok (.lconst 0, 1) := by decide +kernel
theorem dX5_wordAt_77 : decode cX5_wordAt 77 = .ok (.lreturn, 1) := by decide +kernel
theorem dX5_wrap_0 : decode cX5_wrap 0 = .ok (.iconst 0, 1) := by decide +kernel
theorem dX5_wrap_1 : decode cX5_wrap 1 = .ok (.istore_n 2, 1) := by decide +kernel
theorem dX5_wrap_2 : decode cX5_wrap 2 = .ok (.iload_n 2, 1) := by decide +kernel
theorem dX5_wrap_3 : decode cX5_wrap 3 = .ok (.aload_n 0, 1) := by decide +kernel
theorem dX5_wrap_4 : decode cX5_wrap 4 = .ok (.getfield 25, 3) := by decide +kernel
theorem dX5_wrap_7 : decode cX5_wrap 7 = .ok (.if_icmp .ge 31, 3) := by decide +kernel
theorem dX5_wrap_10 : decode cX5_wrap 10 = .ok (.iload_n 2, 1) := by decide +kernel
theorem dX5_wrap_11 : decode cX5_wrap 11 = .ok (.bipush 6, 2) := by decide +kernel
theorem dX5_wrap_13 : decode cX5_wrap 13 = .ok (.if_icmp .ge 25, 3) := by decide +kernel
theorem dX5_wrap_16 : decode cX5_wrap 16 = .ok (.aload_n 0, 1) := by decide +kernel
theorem dX5_wrap_17 : decode cX5_wrap 17 = .ok (.getfield 9, 3) := by decide +kernel
theorem dX5_wrap_20 : decode cX5_wrap 20 = .ok (.iload_n 2, 1) := by decide +kernel
theorem dX5_wrap_21 : decode cX5_wrap 21 = .ok (.aload_n 0, 1) := by decide +kernel
theorem dX5_wrap_22 : decode cX5_wrap 22 = .ok (.getfield 9, 3) := by decide +kernel
theorem dX5_wrap_25 : decode cX5_wrap 25 = .ok (.iload_n 2, 1) := by decide +kernel
theorem dX5_wrap_26 : decode cX5_wrap 26 = .ok (.iaload, 1) := by decide +kernel
theorem dX5_wrap_27 : decode cX5_wrap 27 = .ok (.iload_n 1, 1) := by decide +kernel
theorem dX5_wrap_28 : decode cX5_wrap 28 = .ok (.invokestatic 34, 3) := by decide +kernel
theorem dX5_wrap_31 : decode cX5_wrap 31 = .ok (.iastore, 1) := by decide +kernel
theorem dX5_wrap_32 : decode cX5_wrap 32 = .ok (.iinc 2 1, 3) := by decide +kernel
theorem dX5_wrap_35 : decode cX5_wrap 35 = .ok (.goto (-33), 3) := by decide +kernel
theorem dX5_wrap_38 : decode cX5_wrap 38 = .ok (.return_, 1) := by decide +kernel
theorem dX5_copy_0 : decode cX5_copy 0 = .ok (.aload_n 1, 1) := by decide +kernel
theorem dX5_copy_1 : decode cX5_copy 1 = .ok (.getfield 9, 3) := by decide +kernel
theorem dX5_copy_4 : decode cX5_copy 4 = .ok (.iconst 0, 1) := by decide +kernel
theorem dX5_copy_5 : decode cX5_copy 5 = .ok (.aload_n 0, 1) := by decide +kernel
theorem dX5_copy_6 : decode cX5_copy 6 = .ok (.getfield 9, 3) := by decide +kernel
theorem dX5_copy_9 : decode cX5_copy 9 = .ok (.iconst 0, 1) := by decide +kernel
theorem dX5_copy_10 : decode cX5_copy 10 = .ok (.bipush 6, 2) := by decide +kernel
theorem dX5_copy_12 : decode cX5_copy 12 = .ok (.invokestatic 44, 3) := by decide +kernel
theorem dX5_copy_15 : decode cX5_copy 15 = .ok (.aload_n 1, 1) := by decide +kernel
theorem dX5_copy_16 : decode cX5_copy 16 = .ok (.getfield 13, 3) := by decide +kernel
theorem dX5_copy_19 : decode cX5_copy 19 = .ok (.iconst 0, 1) := by decide +kernel
theorem dX5_copy_20 : decode cX5_copy 20 = .ok (.aload_n 0, 1) := by decide +kernel
theorem dX5_copy_21 : decode cX5_copy 21 = .ok (.getfield 13, 3) := by decide +kernel
theorem dX5_copy_24 : decode cX5_copy 24 = .ok (.iconst 0, 1) := by decide +kernel
theorem dX5_copy_25 : decode cX5_copy 25 = .ok (.bipush 6, 2) := by decide +kernel
theorem dX5_copy_27 : decode cX5_copy 27 = .ok (.invokestatic 44, 3) := by decide +kernel
theorem dX5_copy_30 : decode cX5_copy 30 = .ok (.aload_n 1, 1) := by decide +kernel
theorem dX5_copy_31 : decode cX5_copy 31 = .ok (.getfield 16, 3) := by decide +kernel
theorem dX5_copy_34 : decode cX5_copy 34 = .ok (.iconst 0, 1) := by decide +kernel
theorem dX5_copy_35 : decode cX5_copy 35 = .ok (.aload_n 0, 1) := by decide +kernel
theorem dX5_copy_36 : decode cX5_copy 36 = .ok (.getfield 16, 3) := by decide +kernel
theorem dX5_copy_39 : decode cX5_copy 39 = .ok (.iconst 0, 1) := by decide +kernel
theorem dX5_copy_40 : decode cX5_copy 40 = .ok (.bipush 6, 2) := by decide +kernel
theorem dX5_copy_42 : decode cX5_copy 42 = .ok (.invokestatic 44, 3) := by decide +kernel
theorem dX5_copy_45 : decode cX5_copy 45 = .ok (.aload_n 0, 1) := by decide +kernel
theorem dX5_copy_46 : decode cX5_copy 46 = .ok (.aload_n 1, 1) := by decide +kernel
theorem dX5_copy_47 : decode cX5_copy 47 = .ok (.getfield 25, 3) := by decide +kernel
theorem dX5_copy_50 : decode cX5_copy 50 = .ok (.putfield 25, 3) := by decide +kernel
theorem dX5_copy_53 : decode cX5_copy 53 = .ok (.aload_n 0, 1) := by decide +kernel
theorem dX5_copy_54 : decode cX5_copy 54 = .ok (.aload_n 1, 1) := by decide +kernel
theorem dX5_copy_55 : decode cX5_copy 55 = .ok (.getfield 21, 3) := by decide +kernel
theorem dX5_copy_58 : decode cX5_copy 58 = .ok (.putfield 21, 3) := by decide +kernel
theorem dX5_copy_61 : decode cX5_copy 61 = .ok (.aload_n 0, 1) := by decide +kernel
theorem dX5_copy_62 : decode cX5_copy 62 = .ok (.aload_n 1, 1) := by decide +kernel
theorem dX5_copy_63 : decode cX5_copy 63 = .ok (.getfield 50, 3) := by decide +kernel
theorem dX5_copy_66 : decode cX5_copy 66 = .ok (.putfield 50, 3) := by decide +kernel
theorem dX5_copy_69 : decode cX5_copy 69 = .ok (.return_, 1) := by decide +kernel
theorem dX6_init_0 : decode cX6_init 0 = .ok (.aload_n 0, 1) := by decide +kernel
theorem dX6_init_1 : decode cX6_init 1 = .ok (.invokespecial 1, 3) := by decide +kernel
theorem dX6_init_4 : decode cX6_init 4 = .ok (.aload_n 0, 1) := by decide +kernel
theorem dX6_init_5 : decode cX6_init 5 = .ok (.iconst 1, 1) := by decide +kernel
theorem dX6_init_6 : decode cX6_init 6 = .ok (.putfield 7, 3) := by decide +kernel
theorem dX6_init_9 : decode cX6_init 9 = .ok (.aload_n 0, 1) := by decide +kernel
theorem dX6_init_10 : decode cX6_init 10 = .ok (.iconst 5, 1) := by decide +kernel
theorem dX6_init_11 : decode cX6_init 11 = .ok (.putfield 13, 3) := by decide +kernel
theorem dX6_init_14 : decode cX6_init 14 = .ok (.return_, 1) := by decide +kernel
theorem dX6_standAt_0 : decode cX6_standAt 0 = .ok (.aload_n 0, 1) := by decide +kernel
theorem dX6_standAt_1 : decode cX6_standAt 1 = .ok (.iload_n 1, 1) := by decide +kernel
theorem dX6_standAt_2 : decode cX6_standAt 2 = .ok (.putfield 16, 3) := by decide +kernel
theorem dX6_standAt_5 : decode cX6_standAt 5 = .ok (.aload_n 0, 1) := by decide +kernel
theorem dX6_standAt_6 : decode cX6_standAt 6 = .ok (.iload_n 2, 1) := by decide +kernel
theorem dX6_standAt_7 : decode cX6_standAt 7 = .ok (.putfield 7, 3) := by decide +kernel
theorem dX6_standAt_10 : decode cX6_standAt 10 = .ok (.aload_n 0, 1) := by decide +kernel
theorem dX6_standAt_11 : decode cX6_standAt 11 = .ok (.iconst 0, 1) := by decide +kernel
theorem dX6_standAt_12 : decode cX6_standAt 12 = .ok (.putfield 19, 3) := by decide +kernel
theorem dX6_standAt_15 : decode cX6_standAt 15 = .ok (.return_, 1) := by decide +kernel
theorem dX6_coast_0 : decode cX6_coast 0 = .ok (.aload_n 0, 1) := by decide +kernel
theorem dX6_coast_1 : decode cX6_coast 1 = .ok (.getfield 19, 3) := by decide +kernel
theorem dX6_coast_4 : decode cX6_coast 4 = .ok (.aload_n 0, 1) := by decide +kernel
theorem dX6_coast_5 : decode cX6_coast 5 = .ok (.getfield 13, 3) := by decide +kernel
theorem dX6_coast_8 : decode cX6_coast 8 = .ok (.if_icmp .lt 5, 3) := by decide +kernel
theorem dX6_coast_11 : decode cX6_coast 11 = .ok (.iconst 0, 1) := by decide +kernel
theorem dX6_coast_12 : decode cX6_coast 12 = .ok (.ireturn, 1) := by decide +kernel
theorem dX6_coast_13 : decode cX6_coast 13 = .ok (.aload_n 0, 1) := by decide +kernel
theorem dX6_coast_14 : decode cX6_coast 14 = .ok (.dup, 1) := by decide +kernel
theorem dX6_coast_15 : decode cX6_coast 15 = .ok (.getfield 19, 3) := by decide +kernel
theorem dX6_coast_18 : decode cX6_coast 18 = .ok (.iconst 1, 1) := by decide +kernel
theorem dX6_coast_19 : decode cX6_coast 19 = .ok (.iadd, 1) := by decide +kernel
theorem dX6_coast_20 : decode cX6_coast 20 = .ok (.putfield 19, 3) := by decide +kernel
theorem dX6_coast_23 : decode cX6_coast 23 = .ok (.aload_n 0, 1) := by decide +kernel
theorem dX6_coast_24 : decode cX6_coast 24 = .ok (.aload_n 0, 1) := by decide +kernel
theorem dX6_coast_25 : decode cX6_coast 25 = .ok (.getfield 16, 3) := by decide +kernel
theorem dX6_coast_28 : decode cX6_coast 28 = .ok (.aload_n 0, 1) := by decide +kernel
theorem dX6_coast_29 : decode cX6_coast 29 = .ok (.getfield 7, 3) := by decide +kernel
theorem dX6_coast_32 : decode cX6_coast 32 = .ok (.iadd, 1) := by decide +kernel
theorem dX6_coast_33 : decode cX6_coast 33 = .ok (.iload_n 1, 1) := by decide +kernel
theorem dX6_coast_34 : decode cX6_coast 34 = .ok (.invokestatic 22, 3) := by decide +kernel
theorem dX6_coast_37 : decode cX6_coast 37 = .ok (.putfield 16, 3) := by decide +kernel
theorem dX6_coast_40 : decode cX6_coast 40 = .ok (.iconst 1, 1) := by decide +kernel
theorem dX6_coast_41 : decode cX6_coast 41 = .ok (.ireturn, 1) := by decide +kernel
theorem dX6_copy_0 : decode cX6_copy 0 = .ok (.aload_n 0, 1) := by decide +kernel
theorem dX6_copy_1 : decode cX6_copy 1 = .ok (.aload_n 1, 1) := by decide +kernel
theorem dX6_copy_2 : decode cX6_copy 2 = .ok (.getfield 16, 3) := by decide +kernel
theorem dX6_copy_5 : decode cX6_copy 5 = .ok (.putfield 16, 3) := by decide +kernel
theorem dX6_copy_8 : decode cX6_copy 8 = .ok (.aload_n 0, 1) := by decide +kernel
theorem dX6_copy_9 : decode cX6_copy 9 = .ok (.aload_n 1, 1) := by decide +kernel
theorem dX6_copy_10 : decode cX6_copy 10 = .ok (.getfield 7, 3) := by decide +kernel
theorem dX6_copy_13 : decode cX6_copy 13 = .ok (.putfield 7, 3) := by decide +kernel
theorem dX6_copy_16 : decode cX6_copy 16 = .ok (.aload_n 0, 1) := by decide +kernel
theorem dX6_copy_17 : decode cX6_copy 17 = .ok (.aload_n 1, 1) := by decide +kernel
theorem dX6_copy_18 : decode cX6_copy 18 = .ok (.getfield 19, 3) := by decide +kernel
theorem dX6_copy_21 : decode cX6_copy 21 = .ok (.putfield 19, 3) := by decide +kernel
theorem dX6_copy_24 : decode cX6_copy 24 = .ok (.aload_n 0, 1) := by decide +kernel
theorem dX6_copy_25 : decode cX6_copy 25 = .ok (.aload_n 1, 1) := by decide +kernel
theorem dX6_copy_26 : decode cX6_copy 26 = .ok (.getfield 13, 3) := by decide +kernel
theorem dX6_copy_29 : decode cX6_copy 29 = .ok (.putfield 13, 3) := by decide +kernel
theorem dX6_copy_32 : decode cX6_copy 32 = .ok (.return_, 1) := by decide +kernel
theorem dX7_bitOf_0 : decode cX7_bitOf 0 = .ok (.lload_n 0, 1) := by decide +kernel
theorem dX7_bitOf_1 : decode cX7_bitOf 1 = .ok (.iload_n 2, 1) := by decide +kernel
theorem dX7_bitOf_2 : decode cX7_bitOf 2 = .ok (.lushr, 1) := by decide +kernel
theorem dX7_bitOf_3 : decode cX7_bitOf 3 = .ok (.l2i, 1) := by decide +kernel
theorem dX7_bitOf_4 : decode cX7_bitOf 4 = .ok (.iconst 1, 1) := by decide +kernel
theorem dX7_bitOf_5 : decode cX7_bitOf 5 = .ok (.iand, 1) := by decide +kernel
theorem dX7_bitOf_6 : decode cX7_bitOf 6 = .ok (.ireturn, 1) := by decide +kernel
theorem dX7_wordOf_0 : decode cX7_wordOf 0 = .ok (.iload_n 0, 1) := by decide +kernel
theorem dX7_wordOf_1 : decode cX7_wordOf 1 = .ok (.iload_n 1, 1) := by decide +kernel
theorem dX7_wordOf_2 : decode cX7_wordOf 2 = .ok (.invokestatic 9, 3) := by decide +kernel
theorem dX7_wordOf_5 : decode cX7_wordOf 5 = .ok (.istore_n 3, 1) := by decide +kernel
theorem dX7_wordOf_6 : decode cX7_wordOf 6 = .ok (.iload_n 3, 1) := by decide +kernel
theorem dX7_wordOf_7 : decode cX7_wordOf 7 = .ok (.bipush 100, 2) := by decide +kernel
theorem dX7_wordOf_9 : decode cX7_wordOf 9 = .ok (.irem, 1) := by decide +kernel
theorem dX7_wordOf_10 : decode cX7_wordOf 10 = .ok (.invokestatic 15, 3) := by decide +kernel
theorem dX7_wordOf_13 : decode cX7_wordOf 13 = .ok (.iload_n 3, 1) := by decide +kernel
theorem dX7_wordOf_14 : decode cX7_wordOf 14 = .ok (.bipush 100, 2) := by decide +kernel
theorem dX7_wordOf_16 : decode cX7_wordOf 16 = .ok (.idiv, 1) := by decide +kernel
theorem dX7_wordOf_17 : decode cX7_wordOf 17 = .ok (.bipush 100, 2) := by decide +kernel
theorem dX7_wordOf_19 : decode cX7_wordOf 19 = .ok (.irem, 1) := by decide +kernel
theorem dX7_wordOf_20 : decode cX7_wordOf 20 = .ok (.invokestatic 15, 3) := by decide +kernel
theorem dX7_wordOf_23 : decode cX7_wordOf 23 = .ok (.bipush 6, 2) := by decide +kernel
theorem dX7_wordOf_25 : decode cX7_wordOf 25 = .ok (.ishl, 1) := by decide +kernel
theorem dX7_wordOf_26 : decode cX7_wordOf 26 = .ok (.ior, 1) := by decide +kernel
theorem dX7_wordOf_27 : decode cX7_wordOf 27 = .ok (.iload_n 3, 1) := by decide +kernel
theorem dX7_wordOf_28 : decode cX7_wordOf 28 = .ok (.sipush 10000, 3) := by decide +kernel
theorem dX7_wordOf_31 : decode cX7_wordOf 31 = .ok (.idiv, 1) := by decide +kernel
theorem dX7_wordOf_32 : decode cX7_wordOf 32 = .ok (.bipush 100, 2) := by decide +kernel
theorem dX7_wordOf_34 : decode cX7_wordOf 34 = .ok (.irem, 1) := by decide +kernel
theorem dX7_wordOf_35 : decode cX7_wordOf 35 = .ok (.invokestatic 15, 3) := by decide +kernel
theorem dX7_wordOf_38 : decode cX7_wordOf 38 = .ok (.bipush 13, 2) := by decide +kernel
theorem dX7_wordOf_40 : decode cX7_wordOf 40 = .ok (.ishl, 1) := by decide +kernel
theorem dX7_wordOf_41 : decode cX7_wordOf 41 = .ok (.ior, 1) := by decide +kernel
theorem dX7_wordOf_42 : decode cX7_wordOf 42 = .ok (.iload_n 3, 1) := by decide +kernel
theorem dX7_wordOf_43 : decode cX7_wordOf 43 = .ok (.ldc 21, 2) := by decide +kernel
theorem dX7_wordOf_45 : decode cX7_wordOf 45 = .ok (.idiv, 1) := by decide +kernel
theorem dX7_wordOf_46 : decode cX7_wordOf 46 = .ok (.invokestatic 15, 3) := by decide +kernel
theorem dX7_wordOf_49 : decode cX7_wordOf 49 = .ok (.bipush 20, 2) := by decide +kernel
theorem dX7_wordOf_51 : decode cX7_wordOf 51 = .ok (.ishl, 1) := by decide +kernel
theorem dX7_wordOf_52 : decode cX7_wordOf 52 = .ok (.ior, 1) := by decide +kernel
theorem dX7_wordOf_53 : decode cX7_wordOf 53 = .ok (.iload_n 0, 1) := by decide +kernel
theorem dX7_wordOf_54 : decode cX7_wordOf 54 = .ok (.iconst 3, 1) := by decide +kernel
theorem dX7_wordOf_55 : decode cX7_wordOf 55 = .ok (.if_icmp .ne 8, 3) := by decide +kernel
theorem dX7_wordOf_58 : decode cX7_wordOf 58 = .ok (.ldc 22, 2) := by decide +kernel
theorem dX7_wordOf_60 : decode cX7_wordOf 60 = .ok (.goto 4, 3) := by decide +kernel
theorem dX7_wordOf_63 : decode cX7_wordOf 63 = .ok (.iconst 0, 1) := by decide +kernel
theorem dX7_wordOf_64 : decode cX7_wordOf 64 = .ok (.ior, 1) := by decide +kernel
theorem dX7_wordOf_65 : decode cX7_wordOf 65 = .ok (.iload_n 2, 1) := by decide +kernel
theorem dX7_wordOf_66 : decode cX7_wordOf 66 = .ok (.bipush 28, 2) := by decide +kernel
theorem dX7_wordOf_68 : decode cX7_wordOf 68 = .ok (.ishl, 1) := by decide +kernel
theorem dX7_wordOf_69 : decode cX7_wordOf 69 = .ok (.ior, 1) := by decide +kernel
theorem dX7_wordOf_70 : decode cX7_wordOf 70 = .ok (.istore 4, 2) := by decide +kernel
theorem dX7_wordOf_72 : decode cX7_wordOf 72 = .ok (.iload 4, 2) := by decide +kernel
theorem dX7_wordOf_74 : decode cX7_wordOf 74 = .ok (.invokestatic 23, 3) := by decide +kernel
theorem dX7_wordOf_77 : decode cX7_wordOf 77 = .ok (.iconst 2, 1) := by decide +kernel
theorem dX7_wordOf_78 : decode cX7_wordOf 78 = .ok (.irem, 1) := by decide +kernel
theorem dX7_wordOf_79 : decode cX7_wordOf 79 = .ok (.istore 5, 2) := by decide +kernel
theorem dX7_wordOf_81 : decode cX7_wordOf 81 = .ok (.iload 4, 2) := by decide +kernel
theorem dX7_wordOf_83 : decode cX7_wordOf 83 = .ok (.iload 5, 2) := by decide +kernel
theorem dX7_wordOf_85 : decode cX7_wordOf 85 = .ok (.bipush 27, 2) := by decide +kernel
theorem dX7_wordOf_87 : decode cX7_wordOf 87 = .ok (.ishl, 1) := by decide +kernel
theorem dX7_wordOf_88 : decode cX7_wordOf 88 = .ok (.ior, 1) := by decide +kernel
theorem dX7_wordOf_89 : decode cX7_wordOf 89 = .ok (.i2l, 1) := by decide +kernel
theorem dX7_wordOf_90 : decode cX7_wordOf 90 = .ok (.ldc2_w 28, 3) := by decide +kernel
theorem dX7_wordOf_93 : decode cX7_wordOf 93 = .ok (.land, 1) := by decide +kernel
theorem dX7_wordOf_94 : decode cX7_wordOf 94 = .ok (.ldc2_w 30, 3) := by decide +kernel
theorem dX7_wordOf_97 : decode cX7_wordOf 97 = .ok (.lor, 1) := by decide +kernel
theorem dX7_wordOf_98 : decode cX7_wordOf 98 = .ok (.lreturn, 1) := by decide +kernel
theorem dX7_digits_0 : decode cX7_digits 0 = .ok (.iload_n 0, 1) := by decide +kernel
theorem dX7_digits_1 : decode cX7_digits 1 = .ok (.bipush 10, 2) := by decide +kernel
theorem dX7_digits_3 : decode cX7_digits 3 = .ok (.irem, 1) := by decide +kernel
theorem dX7_digits_4 : decode cX7_digits 4 = .ok (.iload_n 0, 1) := by decide +kernel
theorem dX7_digits_5 : decode cX7_digits 5 = .ok (.bipush 10, 2) := by decide +kernel
theorem dX7_digits_7 : decode cX7_digits 7 = .ok (.idiv, 1) := by decide +kernel
theorem dX7_digits_8 : decode cX7_digits 8 = .ok (.iconst 4, 1) := by decide +kernel
theorem dX7_digits_9 : decode cX7_digits 9 = .ok (.ishl, 1) := by decide +kernel
theorem dX7_digits_10 : decode cX7_digits 10 = .ok (.ior, 1) := by decide +kernel
theorem dX7_digits_11 : decode cX7_digits 11 = .ok (.ireturn, 1) := by decide +kernel
theorem dX7_numberIn_0 : decode cX7_numberIn 0 = .ok (.lload_n 0, 1) := by decide +kernel
theorem dX7_numberIn_1 : decode cX7_numberIn 1 = .ok (.l2i, 1) := by decide +kernel
theorem dX7_numberIn_2 : decode cX7_numberIn 2 = .ok (.istore_n 3, 1) := by decide +kernel
theorem dX7_numberIn_3 : decode cX7_numberIn 3 = .ok (.iload_n 3, 1) := by decide +kernel
theorem dX7_numberIn_4 : decode cX7_numberIn 4 = .ok (.bipush 15, 2) := by decide +kernel
theorem dX7_numberIn_6 : decode cX7_numberIn 6 = .ok (.iand, 1) := by decide +kernel
theorem dX7_numberIn_7 : decode cX7_numberIn 7 = .ok (.istore 4, 2) := by decide +kernel
theorem dX7_numberIn_9 : decode cX7_numberIn 9 = .ok (.iload_n 3, 1) := by decide +kernel
theorem dX7_numberIn_10 : decode cX7_numberIn 10 = .ok (.bipush 6, 2) := by decide +kernel
theorem dX7_numberIn_12 : decode cX7_numberIn 12 = .ok (.iushr, 1) := by decide +kernel
theorem dX7_numberIn_13 : decode cX7_numberIn 13 = .ok (.bipush 15, 2) := by decide +kernel
theorem dX7_numberIn_15 : decode cX7_numberIn 15 = .ok (.iand, 1) := by decide +kernel
theorem dX7_numberIn_16 : decode cX7_numberIn 16 = .ok (.istore 5, 2) := by decide +kernel
theorem dX7_numberIn_18 : decode cX7_numberIn 18 = .ok (.iload_n 3, 1) := by decide +kernel
theorem dX7_numberIn_19 : decode cX7_numberIn 19 = .ok (.bipush 13, 2) := by decide +kernel
theorem dX7_numberIn_21 : decode cX7_numberIn 21 = .ok (.iushr, 1) := by decide +kernel
theorem dX7_numberIn_22 : decode cX7_numberIn 22 = .ok (.bipush 15, 2) := by decide +kernel
theorem dX7_numberIn_24 : decode cX7_numberIn 24 = .ok (.iand, 1) := by decide +kernel
theorem dX7_numberIn_25 : decode cX7_numberIn 25 = .ok (.istore 6, 2) := by decide +kernel
theorem dX7_numberIn_27 : decode cX7_numberIn 27 = .ok (.iload_n 3, 1) := by decide +kernel
theorem dX7_numberIn_28 : decode cX7_numberIn 28 = .ok (.bipush 20, 2) := by decide +kernel
theorem dX7_numberIn_30 : decode cX7_numberIn 30 = .ok (.iushr, 1) := by decide +kernel
theorem dX7_numberIn_31 : decode cX7_numberIn 31 = .ok (.bipush 15, 2) := by decide +kernel
theorem dX7_numberIn_33 : decode cX7_numberIn 33 = .ok (.iand, 1) := by decide +kernel
theorem dX7_numberIn_34 : decode cX7_numberIn 34 = .ok (.istore 7, 2) := by decide +kernel
theorem dX7_numberIn_36 : decode cX7_numberIn 36 = .ok (.iload_n 3, 1) := by decide +kernel
theorem dX7_numberIn_37 : decode cX7_numberIn 37 = .ok (.invokestatic 23, 3) := by decide +kernel
theorem dX7_numberIn_40 : decode cX7_numberIn 40 = .ok (.iconst 2, 1) := by decide +kernel
theorem dX7_numberIn_41 : decode cX7_numberIn 41 = .ok (.irem, 1) := by decide +kernel
theorem dX7_numberIn_42 : decode cX7_numberIn 42 = .ok (.ifCond .ne 31, 3) := by decide +kernel
theorem dX7_numberIn_45 : decode cX7_numberIn 45 = .ok (.iload 4, 2) := by decide +kernel
theorem dX7_numberIn_47 : decode cX7_numberIn 47 = .ok (.bipush 9, 2) := by decide +kernel
theorem dX7_numberIn_49 : decode cX7_numberIn 49 = .ok (.if_icmp .gt 24, 3) := by decide +kernel
theorem dX7_numberIn_52 : decode cX7_numberIn 52 = .ok (.iload 5, 2) := by decide +kernel
theorem dX7_numberIn_54 : decode cX7_numberIn 54 = .ok (.bipush 9, 2) := by decide +kernel
theorem dX7_numberIn_56 : decode cX7_numberIn 56 = .ok (.if_icmp .gt 17, 3) := by decide +kernel
theorem dX7_numberIn_59 : decode cX7_numberIn 59 = .ok (.iload 6, 2) := by decide +kernel
theorem dX7_numberIn_61 : decode cX7_numberIn 61 = .ok (.bipush 9, 2) := by decide +kernel
theorem dX7_numberIn_63 : decode cX7_numberIn 63 = .ok (.if_icmp .gt 10, 3) := by decide +kernel
theorem dX7_numberIn_66 : decode cX7_numberIn 66 = .ok (.iload 7, 2) := by decide +kernel
theorem dX7_numberIn_68 : decode cX7_numberIn 68 = .ok (.bipush 9, 2) := by decide +kernel
theorem dX7_numberIn_70 : decode cX7_numberIn 70 = .ok (.if_icmp .le 6, 3) := by decide +kernel
theorem dX7_numberIn_73 : decode cX7_numberIn 73 = .ok (.bipush (-9), 2) := by decide +kernel
theorem dX7_numberIn_75 : decode cX7_numberIn 75 = .ok (.ireturn, 1) := by decide +kernel
theorem dX7_numberIn_76 : decode cX7_numberIn 76 = .ok (.iload_n 3, 1) := by decide +kernel
theorem dX7_numberIn_77 : decode cX7_numberIn 77 = .ok (.bipush 26, 2) := by decide +kernel
theorem dX7_numberIn_79 : decode cX7_numberIn 79 = .ok (.iushr, 1) := by decide +kernel
theorem dX7_numberIn_80 : decode cX7_numberIn 80 = .ok (.iconst 1, 1) := by decide +kernel
theorem dX7_numberIn_81 : decode cX7_numberIn 81 = .ok (.iand, 1) := by decide +kernel
theorem dX7_numberIn_82 : decode cX7_numberIn 82 = .ok (.iload_n 2, 1) := by decide +kernel
theorem dX7_numberIn_83 : decode cX7_numberIn 83 = .ok (.iconst 3, 1) := by decide +kernel
theorem dX7_numberIn_84 : decode cX7_numberIn 84 = .ok (.if_icmp .ne 7, 3) := by decide +kernel
theorem dX7_numberIn_87 : decode cX7_numberIn 87 = .ok (.iconst 1, 1) := by decide +kernel
theorem dX7_numberIn_88 : decode cX7_numberIn 88 = .ok (.goto 4, 3) := by decide +kernel
theorem dX7_numberIn_91 : decode cX7_numberIn 91 = .ok (.iconst 0, 1) := by decide +kernel
theorem dX7_numberIn_92 : decode cX7_numberIn 92 = .ok (.if_icmp .eq 6, 3) := by decide +kernel
theorem dX7_numberIn_95 : decode cX7_numberIn 95 = .ok (.bipush (-9), 2) := by decide +kernel
theorem dX7_numberIn_97 : decode cX7_numberIn 97 = .ok (.ireturn, 1) := by decide +kernel
theorem dX7_numberIn_98 : decode cX7_numberIn 98 = .ok (.iload 4, 2) := by decide +kernel
theorem dX7_numberIn_100 : decode cX7_numberIn 100 = .ok (.bipush 10, 2) := by decide +kernel
theorem dX7_numberIn_102 : decode cX7_numberIn 102 = .ok (.iload_n 3, 1) := by decide +kernel
theorem dX7_numberIn_103 : decode cX7_numberIn 103 = .ok (.iconst 4, 1) := by decide +kernel
theorem dX7_numberIn_104 : decode cX7_numberIn 104 = .ok (.iushr, 1) := by decide +kernel
theorem dX7_numberIn_105 : decode cX7_numberIn 105 = .ok (.iconst 3, 1) := by decide +kernel
theorem dX7_numberIn_106 : decode cX7_numberIn 106 = .ok (.iand, 1) := by decide +kernel
theorem dX7_numberIn_107 : decode cX7_numberIn 107 = .ok (.imul, 1) := by decide +kernel
theorem dX7_numberIn_108 : decode cX7_numberIn 108 = .ok (.iadd, 1) := by decide +kernel
theorem dX7_numberIn_109 : decode cX7_numberIn 109 = .ok (.istore 4, 2) := by decide +kernel
theorem dX7_numberIn_111 : decode cX7_numberIn 111 = .ok (.iload 5, 2) := by decide +kernel
theorem dX7_numberIn_113 : decode cX7_numberIn 113 = .ok (.bipush 10, 2) := by decide +kernel
theorem dX7_numberIn_115 : decode cX7_numberIn 115 = .ok (.iload_n 3, 1) := by decide +kernel
theorem dX7_numberIn_116 : decode cX7_numberIn 116 = .ok (.bipush 10, 2) := by decide +kernel
theorem dX7_numberIn_118 : decode cX7_numberIn 118 = .ok (.iushr, 1) := by decide +kernel
theorem dX7_numberIn_119 : decode cX7_numberIn 119 = .ok (.bipush 7, 2) := by decide +kernel
theorem dX7_numberIn_121 : decode cX7_numberIn 121 = .ok (.iand, 1) := by decide +kernel
theorem dX7_numberIn_122 : decode cX7_numberIn 122 = .ok (.imul, 1) := by decide +kernel
theorem dX7_numberIn_123 : decode cX7_numberIn 123 = .ok (.iadd, 1) := by decide +kernel
theorem dX7_numberIn_124 : decode cX7_numberIn 124 = .ok (.istore 5, 2) := by decide +kernel
theorem dX7_numberIn_126 : decode cX7_numberIn 126 = .ok (.iload 6, 2) := by decide +kernel
theorem dX7_numberIn_128 : decode cX7_numberIn 128 = .ok (.bipush 10, 2) := by decide +kernel
theorem dX7_numberIn_130 : decode cX7_numberIn 130 = .ok (.iload_n 3, 1) := by decide +kernel
theorem dX7_numberIn_131 : decode cX7_numberIn 131 = .ok (.bipush 17, 2) := by decide +kernel
theorem dX7_numberIn_133 : decode cX7_numberIn 133 = .ok (.iushr, 1) := by decide +kernel
theorem dX7_numberIn_134 : decode cX7_numberIn 134 = .ok (.bipush 7, 2) := by decide +kernel
theorem dX7_numberIn_136 : decode cX7_numberIn 136 = .ok (.iand, 1) := by decide +kernel
theorem dX7_numberIn_137 : decode cX7_numberIn 137 = .ok (.imul, 1) := by decide +kernel
theorem dX7_numberIn_138 : decode cX7_numberIn 138 = .ok (.iadd, 1) := by decide +kernel
theorem dX7_numberIn_139 : decode cX7_numberIn 139 = .ok (.istore 6, 2) := by decide +kernel
theorem dX7_numberIn_141 : decode cX7_numberIn 141 = .ok (.iload 7, 2) := by decide +kernel
theorem dX7_numberIn_143 : decode cX7_numberIn 143 = .ok (.bipush 10, 2) := by decide +kernel
theorem dX7_numberIn_145 : decode cX7_numberIn 145 = .ok (.iload_n 3, 1) := by decide +kernel
theorem dX7_numberIn_146 : decode cX7_numberIn 146 = .ok (.bipush 24, 2) := by decide +kernel
theorem dX7_numberIn_148 : decode cX7_numberIn 148 = .ok (.iushr, 1) := by decide +kernel
theorem dX7_numberIn_149 : decode cX7_numberIn 149 = .ok (.iconst 3, 1) := by decide +kernel
theorem dX7_numberIn_150 : decode cX7_numberIn 150 = .ok (.iand, 1) := by decide +kernel
theorem dX7_numberIn_151 : decode cX7_numberIn 151 = .ok (.imul, 1) := by decide +kernel
theorem dX7_numberIn_152 : decode cX7_numberIn 152 = .ok (.iadd, 1) := by decide +kernel
theorem dX7_numberIn_153 : decode cX7_numberIn 153 = .ok (.istore 7, 2) := by decide +kernel
theorem dX7_numberIn_155 : decode cX7_numberIn 155 = .ok (.ldc 21, 2) := by decide +kernel
theorem dX7_numberIn_157 : decode cX7_numberIn 157 = .ok (.iload 7, 2) := by decide +kernel
theorem dX7_numberIn_159 : decode cX7_numberIn 159 = .ok (.imul, 1) := by decide +kernel
theorem dX7_numberIn_160 : decode cX7_numberIn 160 = .ok (.sipush 10000, 3) := by decide +kernel
theorem dX7_numberIn_163 : decode cX7_numberIn 163 = .ok (.iload 6, 2) := by decide +kernel
theorem dX7_numberIn_165 : decode cX7_numberIn 165 = .ok (.imul, 1) := by decide +kernel
theorem dX7_numberIn_166 : decode cX7_numberIn 166 = .ok (.iadd, 1) := by decide +kernel
theorem dX7_numberIn_167 : decode cX7_numberIn 167 = .ok (.bipush 100, 2) := by decide +kernel
theorem dX7_numberIn_169 : decode cX7_numberIn 169 = .ok (.iload 5, 2) := by decide +kernel
theorem dX7_numberIn_171 : decode cX7_numberIn 171 = .ok (.imul, 1) := by decide +kernel
theorem dX7_numberIn_172 : decode cX7_numberIn 172 = .ok (.iadd, 1) := by decide +kernel
theorem dX7_numberIn_173 : decode cX7_numberIn 173 = .ok (.iload 4, 2) := by decide +kernel
theorem dX7_numberIn_175 : decode cX7_numberIn 175 = .ok (.iadd, 1) := by decide +kernel
theorem dX7_numberIn_176 : decode cX7_numberIn 176 = .ok (.ireturn, 1) := by decide +kernel
theorem dX7_userIn_0 : decode cX7_userIn 0 = .ok (.lload_n 0, 1) := by decide +kernel
theorem dX7_userIn_1 : decode cX7_userIn 1 = .ok (.bipush 28, 2) := by decide +kernel
theorem dX7_userIn_3 : decode cX7_userIn 3 = .ok (.lushr, 1) := by decide +kernel
theorem dX7_userIn_4 : decode cX7_userIn 4 = .ok (.l2i, 1) := by decide +kernel
theorem dX7_userIn_5 : decode cX7_userIn 5 = .ok (.bipush 15, 2) := by decide +kernel
theorem dX7_userIn_7 : decode cX7_userIn 7 = .ok (.iand, 1) := by decide +kernel
theorem dX7_userIn_8 : decode cX7_userIn 8 = .ok (.ireturn, 1) := by decide +kernel
theorem dX7_turned_0 : decode cX7_turned 0 = .ok (.lconst 0, 1) := by decide +kernel
theorem dX7_turned_1 : decode cX7_turned 1 = .ok (.lstore_n 2, 1) := by decide +kernel
theorem dX7_turned_2 : decode cX7_turned 2 = .ok (.iconst 0, 1) := by decide +kernel
theorem dX7_turned_3 : decode cX7_turned 3 = .ok (.istore 4, 2) := by decide +kernel
theorem dX7_turned_5 : decode cX7_turned 5 = .ok (.iload 4, 2) := by decide +kernel
theorem dX7_turned_7 : decode cX7_turned 7 = .ok (.bipush 32, 2) := by decide +kernel
theorem dX7_turned_9 : decode cX7_turned 9 = .ok (.if_icmp .ge 20, 3) := by decide +kernel
theorem dX7_turned_12 : decode cX7_turned 12 = .ok (.lload_n 2, 1) := by decide +kernel
theorem dX7_turned_13 : decode cX7_turned 13 = .ok (.iconst 1, 1) := by decide +kernel
theorem dX7_turned_14 : decode cX7_turned 14 = .ok (.lshl, 1) := by decide +kernel
theorem dX7_turned_15 : decode cX7_turned 15 = .ok (.lload_n 0, 1) := by decide +kernel
theorem dX7_turned_16 : decode cX7_turned 16 = .ok (.iload 4, 2) := by decide +kernel
theorem dX7_turned_18 : decode cX7_turned 18 = .ok (.lushr, 1) := by decide +kernel
theorem dX7_turned_19 : decode cX7_turned 19 = .ok (.lconst 1, 1) := by decide +kernel
theorem dX7_turned_20 : decode cX7_turned 20 = .ok (.land, 1) := by decide +kernel
theorem dX7_turned_21 : decode cX7_turned 21 = .ok (.lor, 1) := by decide +kernel
theorem dX7_turned_22 : decode cX7_turned 22 = .ok (.lstore_n 2, 1) := by decide +kernel
theorem dX7_turned_23 : decode cX7_turned 23 = .ok (.iinc 4 1, 3) := by decide +kernel
theorem dX7_turned_26 : decode cX7_turned 26 = .ok (.goto (-21), 3) := by decide +kernel
theorem dX7_turned_29 : decode cX7_turned 29 = .ok (.lload_n 2, 1) := by decide +kernel
theorem dX7_turned_30 : decode cX7_turned 30 = .ok (.lreturn, 1) := by decide +kernel
theorem dJ6_compare_7cf53_0 : decode cJ6_compare_7cf53 0 = .ok (.iload_n 0, 1) := by decide +kernel
theorem dJ6_compare_7cf53_1 : decode cJ6_compare_7cf53 1 = .ok (.iload_n 1, 1) := by decide +kernel
theorem dJ6_compare_7cf53_2 : decode cJ6_compare_7cf53 2 = .ok (.if_icmp .ge 7, 3) := by decide +kernel
theorem dJ6_compare_7cf53_5 : decode cJ6_compare_7cf53 5 = .ok (.iconst (-1), 1) := by decide +kernel
theorem dJ6_compare_7cf53_6 : decode cJ6_compare_7cf53 6 = .ok (.goto 13, 3) := by decide +kernel
theorem dJ6_compare_7cf53_9 : decode cJ6_compare_7cf53 9 = .ok (.iload_n 0, 1) := by decide +kernel
theorem dJ6_compare_7cf53_10 : decode cJ6_compare_7cf53 10 = .ok (.iload_n 1, 1) := by decide +kernel
theorem dJ6_compare_7cf53_11 : decode cJ6_compare_7cf53 11 = .ok (.if_icmp .ne 7, 3) := by decide +kernel
theorem dJ6_compare_7cf53_14 : decode cJ6_compare_7cf53 14 = .ok (.iconst 0, 1) := by decide +kernel
theorem dJ6_compare_7cf53_15 : decode cJ6_compare_7cf53 15 = .ok (.goto 4, 3) := by decide +kernel
theorem dJ6_compare_7cf53_18 : decode cJ6_compare_7cf53 18 = .ok (.iconst 1, 1) := by decide +kernel
theorem dJ6_compare_7cf53_19 : decode cJ6_compare_7cf53 19 = .ok (.ireturn, 1) := by decide +kernel
theorem dJ6_bitCount_0f7a4_0 : decode cJ6_bitCount_0f7a4 0 = .ok (.iload_n 0, 1) := by decide +kernel
theorem dJ6_bitCount_0f7a4_1 : decode cJ6_bitCount_0f7a4 1 = .ok (.iload_n 0, 1) := by decide +kernel
theorem dJ6_bitCount_0f7a4_2 : decode cJ6_bitCount_0f7a4 2 = .ok (.iconst 1, 1) := by decide +kernel
theorem dJ6_bitCount_0f7a4_3 : decode cJ6_bitCount_0f7a4 3 = .ok (.iushr, 1) := by decide +kernel
theorem dJ6_bitCount_0f7a4_4 : decode cJ6_bitCount_0f7a4 4 = .ok (.ldc_w 265, 3) := by decide +kernel
theorem dJ6_bitCount_0f7a4_7 : decode cJ6_bitCount_0f7a4 7 = .ok (.iand, 1) := by decide +kernel
theorem dJ6_bitCount_0f7a4_8 : decode cJ6_bitCount_0f7a4 8 = .ok (.isub, 1) := by decide +kernel
theorem dJ6_bitCount_0f7a4_9 : decode cJ6_bitCount_0f7a4 9 = .ok (.istore_n 0, 1) := by decide +kernel
theorem dJ6_bitCount_0f7a4_10 : decode cJ6_bitCount_0f7a4 10 = .ok (.iload_n 0, 1) := by decide +kernel
theorem dJ6_bitCount_0f7a4_11 : decode cJ6_bitCount_0f7a4 11 = .ok (.ldc_w 266, 3) := by decide +kernel
theorem dJ6_bitCount_0f7a4_14 : decode cJ6_bitCount_0f7a4 14 = .ok (.iand, 1) := by decide +kernel
theorem dJ6_bitCount_0f7a4_15 : decode cJ6_bitCount_0f7a4 15 = .ok (.iload_n 0, 1) := by decide +kernel
theorem dJ6_bitCount_0f7a4_16 : decode cJ6_bitCount_0f7a4 16 = .ok (.iconst 2, 1) := by decide +kernel
theorem dJ6_bitCount_0f7a4_17 : decode cJ6_bitCount_0f7a4 17 = .ok (.iushr, 1) := by decide +kernel
theorem dJ6_bitCount_0f7a4_18 : decode cJ6_bitCount_0f7a4 18 = .ok (.ldc_w 266, 3) := by decide +kernel
theorem dJ6_bitCount_0f7a4_21 : decode cJ6_bitCount_0f7a4 21 = .ok (.iand, 1) := by decide +kernel
theorem dJ6_bitCount_0f7a4_22 : decode cJ6_bitCount_0f7a4 22 = .ok (.iadd, 1) := by decide +kernel
theorem dJ6_bitCount_0f7a4_23 : decode cJ6_bitCount_0f7a4 23 = .ok (.istore_n 0, 1) := by decide +kernel
theorem dJ6_bitCount_0f7a4_24 : decode cJ6_bitCount_0f7a4 24 = .ok (.iload_n 0, 1) := by decide +kernel
theorem dJ6_bitCount_0f7a4_25 : decode cJ6_bitCount_0f7a4 25 = .ok (.iload_n 0, 1) := by decide +kernel
theorem dJ6_bitCount_0f7a4_26 : decode cJ6_bitCount_0f7a4 26 = .ok (.iconst 4, 1) := by decide +kernel
theorem dJ6_bitCount_0f7a4_27 : decode cJ6_bitCount_0f7a4 27 = .ok (.iushr, 1) := by decide +kernel
theorem dJ6_bitCount_0f7a4_28 : decode cJ6_bitCount_0f7a4 28 = .ok (.iadd, 1) := by decide +kernel
theorem dJ6_bitCount_0f7a4_29 : decode cJ6_bitCount_0f7a4 29 = .ok (.ldc_w 267, 3) := by decide +kernel
theorem dJ6_bitCount_0f7a4_32 : decode cJ6_bitCount_0f7a4 32 = .ok (.iand, 1) := by decide +kernel
theorem dJ6_bitCount_0f7a4_33 : decode cJ6_bitCount_0f7a4 33 = .ok (.istore_n 0, 1) := by decide +kernel
theorem dJ6_bitCount_0f7a4_34 : decode cJ6_bitCount_0f7a4 34 = .ok (.iload_n 0, 1) := by decide +kernel
theorem dJ6_bitCount_0f7a4_35 : decode cJ6_bitCount_0f7a4 35 = .ok (.iload_n 0, 1) := by decide +kernel
theorem dJ6_bitCount_0f7a4_36 : decode cJ6_bitCount_0f7a4 36 = .ok (.bipush 8, 2) := by decide +kernel
theorem dJ6_bitCount_0f7a4_38 : decode cJ6_bitCount_0f7a4 38 = .ok (.iushr, 1) := by decide +kernel
theorem dJ6_bitCount_0f7a4_39 : decode cJ6_bitCount_0f7a4 39 = .ok (.iadd, 1) := by decide +kernel
theorem dJ6_bitCount_0f7a4_40 : decode cJ6_bitCount_0f7a4 40 = .ok (.istore_n 0, 1) := by decide +kernel
theorem dJ6_bitCount_0f7a4_41 : decode cJ6_bitCount_0f7a4 41 = .ok (.iload_n 0, 1) := by decide +kernel
theorem dJ6_bitCount_0f7a4_42 : decode cJ6_bitCount_0f7a4 42 = .ok (.iload_n 0, 1) := by decide +kernel
theorem dJ6_bitCount_0f7a4_43 : decode cJ6_bitCount_0f7a4 43 = .ok (.bipush 16, 2) := by decide +kernel
theorem dJ6_bitCount_0f7a4_45 : decode cJ6_bitCount_0f7a4 45 = .ok (.iushr, 1) := by decide +kernel
theorem dJ6_bitCount_0f7a4_46 : decode cJ6_bitCount_0f7a4 46 = .ok (.iadd, 1) := by decide +kernel
theorem dJ6_bitCount_0f7a4_47 : decode cJ6_bitCount_0f7a4 47 = .ok (.istore_n 0, 1) := by decide +kernel
theorem dJ6_bitCount_0f7a4_48 : decode cJ6_bitCount_0f7a4 48 = .ok (.iload_n 0, 1) := by decide +kernel
theorem dJ6_bitCount_0f7a4_49 : decode cJ6_bitCount_0f7a4 49 = .ok (.bipush 63, 2) := by decide +kernel
theorem dJ6_bitCount_0f7a4_51 : decode cJ6_bitCount_0f7a4 51 = .ok (.iand, 1) := by decide +kernel
theorem dJ6_bitCount_0f7a4_52 : decode cJ6_bitCount_0f7a4 52 = .ok (.ireturn, 1) := by decide +kernel
theorem dJ9_floorMod_7cf53_0 : decode cJ9_floorMod_7cf53 0 = .ok (.iload_n 0, 1) := by decide +kernel
theorem dJ9_floorMod_7cf53_1 : decode cJ9_floorMod_7cf53 1 = .ok (.iload_n 1, 1) := by decide +kernel
theorem dJ9_floorMod_7cf53_2 : decode cJ9_floorMod_7cf53 2 = .ok (.irem, 1) := by decide +kernel
theorem dJ9_floorMod_7cf53_3 : decode cJ9_floorMod_7cf53 3 = .ok (.istore_n 2, 1) := by decide +kernel
theorem dJ9_floorMod_7cf53_4 : decode cJ9_floorMod_7cf53 4 = .ok (.iload_n 0, 1) := by decide +kernel
theorem dJ9_floorMod_7cf53_5 : decode cJ9_floorMod_7cf53 5 = .ok (.iload_n 1, 1) := by decide +kernel
theorem dJ9_floorMod_7cf53_6 : decode cJ9_floorMod_7cf53 6 = .ok (.ixor, 1) := by decide +kernel
theorem dJ9_floorMod_7cf53_7 : decode cJ9_floorMod_7cf53 7 = .ok (.ifCond .ge 11, 3) := by decide +kernel
theorem dJ9_floorMod_7cf53_10 : decode cJ9_floorMod_7cf53 10 = .ok (.iload_n 2, 1) := by decide +kernel
theorem dJ9_floorMod_7cf53_11 : decode cJ9_floorMod_7cf53 11 = .ok (.ifCond .eq 7, 3) := by decide +kernel
theorem dJ9_floorMod_7cf53_14 : decode cJ9_floorMod_7cf53 14 = .ok (.iload_n 2, 1) := by decide +kernel
theorem dJ9_floorMod_7cf53_15 : decode cJ9_floorMod_7cf53 15 = .ok (.iload_n 1, 1) := by decide +kernel
theorem dJ9_floorMod_7cf53_16 : decode cJ9_floorMod_7cf53 16 = .ok (.iadd, 1) := by decide +kernel
theorem dJ9_floorMod_7cf53_17 : decode cJ9_floorMod_7cf53 17 = .ok (.ireturn, 1) := by decide +kernel
theorem dJ9_floorMod_7cf53_18 : decode cJ9_floorMod_7cf53 18 = .ok (.iload_n 2, 1) := by decide +kernel
theorem dJ9_floorMod_7cf53_19 : decode cJ9_floorMod_7cf53 19 = .ok (.ireturn, 1) := by decide +kernel
theorem dJ9_abs_0f7a4_0 : decode cJ9_abs_0f7a4 0 = .ok (.iload_n 0, 1) := by decide +kernel
theorem dJ9_abs_0f7a4_1 : decode cJ9_abs_0f7a4 1 = .ok (.ifCond .ge 8, 3) := by decide +kernel
theorem dJ9_abs_0f7a4_4 : decode cJ9_abs_0f7a4 4 = .ok (.iload_n 0, 1) := by decide +kernel
theorem dJ9_abs_0f7a4_5 : decode cJ9_abs_0f7a4 5 = .ok (.ineg, 1) := by decide +kernel
theorem dJ9_abs_0f7a4_6 : decode cJ9_abs_0f7a4 6 = .ok (.goto 4, 3) := by decide +kernel
theorem dJ9_abs_0f7a4_9 : decode cJ9_abs_0f7a4 9 = .ok (.iload_n 0, 1) := by decide +kernel
theorem dJ9_abs_0f7a4_10 : decode cJ9_abs_0f7a4 10 = .ok (.ireturn, 1) := by decide +kernel
theorem dJ9_max_7cf53_0 : decode cJ9_max_7cf53 0 = .ok (.iload_n 0, 1) := by decide +kernel
theorem dJ9_max_7cf53_1 : decode cJ9_max_7cf53 1 = .ok (.iload_n 1, 1) := by decide +kernel
theorem dJ9_max_7cf53_2 : decode cJ9_max_7cf53 2 = .ok (.if_icmp .lt 7, 3) := by decide +kernel
theorem dJ9_max_7cf53_5 : decode cJ9_max_7cf53 5 = .ok (.iload_n 0, 1) := by decide +kernel
theorem dJ9_max_7cf53_6 : decode cJ9_max_7cf53 6 = .ok (.goto 4, 3) := by decide +kernel
theorem dJ9_max_7cf53_9 : decode cJ9_max_7cf53 9 = .ok (.iload_n 1, 1) := by decide +kernel
theorem dJ9_max_7cf53_10 : decode cJ9_max_7cf53 10 = .ok (.ireturn, 1) := by decide +kernel
theorem dJ9_min_7cf53_0 : decode cJ9_min_7cf53 0 = .ok (.iload_n 0, 1) := by decide +kernel
theorem dJ9_min_7cf53_1 : decode cJ9_min_7cf53 1 = .ok (.iload_n 1, 1) := by decide +kernel
theorem dJ9_min_7cf53_2 : decode cJ9_min_7cf53 2 = .ok (.if_icmp .gt 7, 3) := by decide +kernel
theorem dJ9_min_7cf53_5 : decode cJ9_min_7cf53 5 = .ok (.iload_n 0, 1) := by decide +kernel
theorem dJ9_min_7cf53_6 : decode cJ9_min_7cf53 6 = .ok (.goto 4, 3) := by decide +kernel
theorem dJ9_min_7cf53_9 : decode cJ9_min_7cf53 9 = .ok (.iload_n 1, 1) := by decide +kernel
theorem dJ9_min_7cf53_10 : decode cJ9_min_7cf53 10 = .ok (.ireturn, 1) := by decide +kernel
theorem dX8_init_0 : decode cX8_init 0 = .ok (.aload_n 0, 1) := by decide +kernel
theorem dX8_init_1 : decode cX8_init 1 = .ok (.invokespecial 1, 3) := by decide +kernel
theorem dX8_init_4 : decode cX8_init 4 = .ok (.aload_n 0, 1) := by decide +kernel
theorem dX8_init_5 : decode cX8_init 5 = .ok (.new 7, 3) := by decide +kernel
theorem dX8_init_8 : decode cX8_init 8 = .ok (.dup, 1) := by decide +kernel
theorem dX8_init_9 : decode cX8_init 9 = .ok (.invokespecial 9, 3) := by decide +kernel
theorem dX8_init_12 : decode cX8_init 12 = .ok (.putfield 10, 3) := by decide +kernel
theorem dX8_init_15 : decode cX8_init 15 = .ok (.aload_n 0, 1) := by decide +kernel
theorem dX8_init_16 : decode cX8_init 16 = .ok (.new 16, 3) := by decide +kernel
theorem dX8_init_19 : decode cX8_init 19 = .ok (.dup, 1) := by decide +kernel
theorem dX8_init_20 : decode cX8_init 20 = .ok (.invokespecial 18, 3) := by decide +kernel
theorem dX8_init_23 : decode cX8_init 23 = .ok (.putfield 19, 3) := by decide +kernel
theorem dX8_init_26 : decode cX8_init 26 = .ok (.aload_n 0, 1) := by decide +kernel
theorem dX8_init_27 : decode cX8_init 27 = .ok (.iconst 2, 1) := by decide +kernel
theorem dX8_init_28 : decode cX8_init 28 = .ok (.anewarray 7, 3) := by decide +kernel
theorem dX8_init_31 : decode cX8_init 31 = .ok (.putfield 23, 3) := by decide +kernel
theorem dX8_init_34 : decode cX8_init 34 = .ok (.aload_n 0, 1) := by decide +kernel
theorem dX8_init_35 : decode cX8_init 35 = .ok (.new 27, 3) := by decide +kernel
theorem dX8_init_38 : decode cX8_init 38 = .ok (.dup, 1) := by decide +kernel
theorem dX8_init_39 : decode cX8_init 39 = .ok (.invokespecial 29, 3) := by decide +kernel
theorem dX8_init_42 : decode cX8_init 42 = .ok (.putfield 30, 3) := by decide +kernel
theorem dX8_init_45 : decode cX8_init 45 = .ok (.aload_n 0, 1) := by decide +kernel
theorem dX8_init_46 : decode cX8_init 46 = .ok (.bipush 6, 2) := by decide +kernel
theorem dX8_init_48 : decode cX8_init 48 = .ok (.newarray .int, 2) := by decide +kernel
theorem dX8_init_50 : decode cX8_init 50 = .ok (.putfield 34, 3) := by decide +kernel
theorem dX8_init_53 : decode cX8_init 53 = .ok (.aload_n 0, 1) := by decide +kernel
theorem dX8_init_54 : decode cX8_init 54 = .ok (.bipush 6, 2) := by decide +kernel
theorem dX8_init_56 : decode cX8_init 56 = .ok (.newarray .int, 2) := by decide +kernel
theorem dX8_init_58 : decode cX8_init 58 = .ok (.putfield 38, 3) := by decide +kernel
theorem dX8_init_61 : decode cX8_init 61 = .ok (.return_, 1) := by decide +kernel
theorem dX8_rates_0 : decode cX8_rates 0 = .ok (.iload_n 1, 1) := by decide +kernel
theorem dX8_rates_1 : decode cX8_rates 1 = .ok (.ifCond .lt 8, 3) := by decide +kernel
theorem dX8_rates_4 : decode cX8_rates 4 = .ok (.iload_n 1, 1) := by decide +kernel
theorem dX8_rates_5 : decode cX8_rates 5 = .ok (.iconst 4, 1) := by decide +kernel
theorem dX8_rates_6 : decode cX8_rates 6 = .ok (.if_icmp .lt 5, 3) := by decide +kernel
theorem dX8_rates_9 : decode cX8_rates 9 = .ok (.iconst (-1), 1) := by decide +kernel
theorem dX8_rates_10 : decode cX8_rates 10 = .ok (.ireturn, 1) := by decide +kernel
theorem dX8_rates_11 : decode cX8_rates 11 = .ok (.iload_n 1, 1) := by decide +kernel
theorem dX8_rates_12 : decode cX8_rates 12 = .ok (.aload_n 0, 1) := by decide +kernel
theorem dX8_rates_13 : decode cX8_rates 13 = .ok (.getfield 10, 3) := by decide +kernel
theorem dX8_rates_16 : decode cX8_rates 16 = .ok (.getfield 43, 3) := by decide +kernel
theorem dX8_rates_19 : decode cX8_rates 19 = .ok (.if_icmp .ne 6, 3) := by decide +kernel
theorem dX8_rates_22 : decode cX8_rates 22 = .ok (.bipush (-2), 2) := by decide +kernel
theorem dX8_rates_24 : decode cX8_rates 24 = .ok (.ireturn, 1) := by decide +kernel
theorem dX8_rates_25 : decode cX8_rates 25 = .ok (.aload_n 0, 1) := by decide +kernel
theorem dX8_rates_26 : decode cX8_rates 26 = .ok (.getfield 19, 3) := by decide +kernel
theorem dX8_rates_29 : decode cX8_rates 29 = .ok (.aload_n 0, 1) := by decide +kernel
theorem dX8_rates_30 : decode cX8_rates 30 = .ok (.getfield 10, 3) := by decide +kernel
theorem dX8_rates_33 : decode cX8_rates 33 = .ok (.invokevirtual 47, 3) := by decide +kernel
theorem dX8_rates_36 : decode cX8_rates 36 = .ok (.aload_n 0, 1) := by decide +kernel
theorem dX8_rates_37 : decode cX8_rates 37 = .ok (.getfield 10, 3) := by decide +kernel
theorem dX8_rates_40 : decode cX8_rates 40 = .ok (.getfield 43, 3) := by decide +kernel
theorem dX8_rates_43 : decode cX8_rates 43 = .ok (.istore_n 2, 1) := by decide +kernel
theorem dX8_rates_44 : decode cX8_rates 44 = .ok (.aload_n 0, 1) := by decide +kernel
theorem dX8_rates_45 : decode cX8_rates 45 = .ok (.getfield 10, 3) := by decide +kernel
theorem dX8_rates_48 : decode cX8_rates 48 = .ok (.iload_n 1, 1) := by decide +kernel
theorem dX8_rates_49 : decode cX8_rates 49 = .ok (.invokevirtual 51, 3) := by decide +kernel
theorem dX8_rates_52 : decode cX8_rates 52 = .ok (.iload_n 2, 1) := by decide +kernel
theorem dX8_rates_53 : decode cX8_rates 53 = .ok (.ireturn, 1) := by decide +kernel
theorem dX8_number_0 : decode cX8_number 0 = .ok (.aload_n 0, 1) := by decide +kernel
theorem dX8_number_1 : decode cX8_number 1 = .ok (.iload_n 1, 1) := by decide +kernel
theorem dX8_number_2 : decode cX8_number 2 = .ok (.invokevirtual 55, 3) := by decide +kernel
theorem dX8_number_5 : decode cX8_number 5 = .ok (.ifCond .eq 17, 3) := by decide +kernel
theorem dX8_number_8 : decode cX8_number 8 = .ok (.aload_n 0, 1) := by decide +kernel
theorem dX8_number_9 : decode cX8_number 9 = .ok (.getfield 10, 3) := by decide +kernel
theorem dX8_number_12 : decode cX8_number 12 = .ok (.getfield 43, 3) := by decide +kernel
theorem dX8_number_15 : decode cX8_number 15 = .ok (.iload_n 1, 1) := by decide +kernel
theorem dX8_number_16 : decode cX8_number 16 = .ok (.invokestatic 59, 3) := by decide +kernel
theorem dX8_number_19 : decode cX8_number 19 = .ok (.goto 4, 3) := by decide +kernel
theorem dX8_number_22 : decode cX8_number 22 = .ok (.iconst (-1), 1) := by decide +kernel
theorem dX8_number_23 : decode cX8_number 23 = .ok (.ireturn, 1) := by decide +kernel
theorem dX8_frame_0 : decode cX8_frame 0 = .ok (.iload_n 1, 1) := by decide +kernel
theorem dX8_frame_1 : decode cX8_frame 1 = .ok (.invokestatic 63, 3) := by decide +kernel
theorem dX8_frame_4 : decode cX8_frame 4 = .ok (.ifCond .eq 17, 3) := by decide +kernel
theorem dX8_frame_7 : decode cX8_frame 7 = .ok (.aload_n 0, 1) := by decide +kernel
theorem dX8_frame_8 : decode cX8_frame 8 = .ok (.getfield 10, 3) := by decide +kernel
theorem dX8_frame_11 : decode cX8_frame 11 = .ok (.getfield 43, 3) := by decide +kernel
theorem dX8_frame_14 : decode cX8_frame 14 = .ok (.iload_n 1, 1) := by decide +kernel
theorem dX8_frame_15 : decode cX8_frame 15 = .ok (.invokestatic 66, 3) := by decide +kernel
theorem dX8_frame_18 : decode cX8_frame 18 = .ok (.goto 4, 3) := by decide +kernel
theorem dX8_frame_21 : decode cX8_frame 21 = .ok (.iconst (-1), 1) := by decide +kernel
theorem dX8_frame_22 : decode cX8_frame 22 = .ok (.ireturn, 1) := by decide +kernel
theorem dX8_dropped_0 : decode cX8_dropped 0 = .ok (.aload_n 0, 1) := by decide +kernel
theorem dX8_dropped_1 : decode cX8_dropped 1 = .ok (.iload_n 1, 1) := by decide +kernel
theorem dX8_dropped_2 : decode cX8_dropped 2 = .ok (.invokevirtual 55, 3) := by decide +kernel
theorem dX8_dropped_5 : decode cX8_dropped 5 = .ok (.ifCond .eq 11, 3) := by decide +kernel
theorem dX8_dropped_8 : decode cX8_dropped 8 = .ok (.aload_n 0, 1) := by decide +kernel
theorem dX8_dropped_9 : decode cX8_dropped 9 = .ok (.iload_n 2, 1) := by decide +kernel
theorem dX8_dropped_10 : decode cX8_dropped 10 = .ok (.invokevirtual 55, 3) := by decide +kernel
theorem dX8_dropped_13 : decode cX8_dropped 13 = .ok (.ifCond .ne 5, 3) := by decide +kernel
theorem dX8_dropped_16 : decode cX8_dropped 16 = .ok (.iconst (-1), 1) := by decide +kernel
theorem dX8_dropped_17 : decode cX8_dropped 17 = .ok (.ireturn, 1) := by decide +kernel
theorem dX8_dropped_18 : decode cX8_dropped 18 = .ok (.aload_n 0, 1) := by decide +kernel
theorem dX8_dropped_19 : decode cX8_dropped 19 = .ok (.getfield 10, 3) := by decide +kernel
theorem dX8_dropped_22 : decode cX8_dropped 22 = .ok (.getfield 43, 3) := by decide +kernel
theorem dX8_dropped_25 : decode cX8_dropped 25 = .ok (.iload_n 2, 1) := by decide +kernel
theorem dX8_dropped_26 : decode cX8_dropped 26 = .ok (.invokestatic 69, 3) := by decide +kernel
theorem dX8_dropped_29 : decode cX8_dropped 29 = .ok (.aload_n 0, 1) := by decide +kernel
theorem dX8_dropped_30 : decode cX8_dropped 30 = .ok (.getfield 10, 3) := by decide +kernel
theorem dX8_dropped_33 : decode cX8_dropped 33 = .ok (.getfield 43, 3) := by decide +kernel
theorem dX8_dropped_36 : decode cX8_dropped 36 = .ok (.iload_n 1, 1) := by decide +kernel
theorem dX8_dropped_37 : decode cX8_dropped 37 = .ok (.invokestatic 69, 3) := by decide +kernel
theorem dX8_dropped_40 : decode cX8_dropped 40 = .ok (.isub, 1) := by decide +kernel
theorem dX8_dropped_41 : decode cX8_dropped 41 = .ok (.istore_n 3, 1) := by decide +kernel
theorem dX8_dropped_42 : decode cX8_dropped 42 = .ok (.iload_n 2, 1) := by decide +kernel
theorem dX8_dropped_43 : decode cX8_dropped 43 = .ok (.iload_n 1, 1) := by decide +kernel
theorem dX8_dropped_44 : decode cX8_dropped 44 = .ok (.if_icmp .ge 18, 3) := by decide +kernel
theorem dX8_dropped_47 : decode cX8_dropped 47 = .ok (.iload_n 3, 1) := by decide +kernel
theorem dX8_dropped_48 : decode cX8_dropped 48 = .ok (.aload_n 0, 1) := by decide +kernel
theorem dX8_dropped_49 : decode cX8_dropped 49 = .ok (.getfield 10, 3) := by decide +kernel
theorem dX8_dropped_52 : decode cX8_dropped 52 = .ok (.getfield 43, 3) := by decide +kernel
theorem dX8_dropped_55 : decode cX8_dropped 55 = .ok (.invokestatic 72, 3) := by decide +kernel
theorem dX8_dropped_58 : decode cX8_dropped 58 = .ok (.iadd, 1) := by decide +kernel
theorem dX8_dropped_59 : decode cX8_dropped 59 = .ok (.goto 4, 3) := by decide +kernel
theorem dX8_dropped_62 : decode cX8_dropped 62 = .ok (.iload_n 3, 1) := by decide +kernel
theorem dX8_dropped_63 : decode cX8_dropped 63 = .ok (.ireturn, 1) := by decide +kernel
theorem dX8_lays_0 : decode cX8_lays 0 = .ok (.aload_n 0, 1) := by decide +kernel
theorem dX8_lays_1 : decode cX8_lays 1 = .ok (.iload_n 1, 1) := by decide +kernel
theorem dX8_lays_2 : decode cX8_lays 2 = .ok (.invokevirtual 55, 3) := by decide +kernel
theorem dX8_lays_5 : decode cX8_lays 5 = .ok (.ifCond .eq 24, 3) := by decide +kernel
theorem dX8_lays_8 : decode cX8_lays 8 = .ok (.iload_n 2, 1) := by decide +kernel
theorem dX8_lays_9 : decode cX8_lays 9 = .ok (.iconst 1, 1) := by decide +kernel
theorem dX8_lays_10 : decode cX8_lays 10 = .ok (.if_icmp .lt 19, 3) := by decide +kernel
theorem dX8_lays_13 : decode cX8_lays 13 = .ok (.iload_n 2, 1) := by decide +kernel
theorem dX8_lays_14 : decode cX8_lays 14 = .ok (.bipush 40, 2) := by decide +kernel
theorem dX8_lays_16 : decode cX8_lays 16 = .ok (.if_icmp .gt 13, 3) := by decide +kernel
theorem dX8_lays_19 : decode cX8_lays 19 = .ok (.iload_n 3, 1) := by decide +kernel
theorem dX8_lays_20 : decode cX8_lays 20 = .ok (.ifCond .lt 9, 3) := by decide +kernel
theorem dX8_lays_23 : decode cX8_lays 23 = .ok (.iload_n 3, 1) := by decide +kernel
theorem dX8_lays_24 : decode cX8_lays 24 = .ok (.bipush 15, 2) := by decide +kernel
theorem dX8_lays_26 : decode cX8_lays 26 = .ok (.if_icmp .le 5, 3) := by decide +kernel
theorem dX8_lays_29 : decode cX8_lays 29 = .ok (.iconst (-1), 1) := by decide +kernel
theorem dX8_lays_30 : decode cX8_lays 30 = .ok (.ireturn, 1) := by decide +kernel
theorem dX8_lays_31 : decode cX8_lays 31 = .ok (.aload_n 0, 1) := by decide +kernel
theorem dX8_lays_32 : decode cX8_lays 32 = .ok (.getfield 10, 3) := by decide +kernel
theorem dX8_lays_35 : decode cX8_lays 35 = .ok (.getfield 78, 3) := by decide +kernel
theorem dX8_lays_38 : decode cX8_lays 38 = .ok (.getfield 82, 3) := by decide +kernel
theorem dX8_lays_41 : decode cX8_lays 41 = .ok (.bipush 6, 2) := by decide +kernel
theorem dX8_lays_43 : decode cX8_lays 43 = .ok (.if_icmp .lt 6, 3) := by decide +kernel
theorem dX8_lays_46 : decode cX8_lays 46 = .ok (.bipush (-3), 2) := by decide +kernel
theorem dX8_lays_48 : decode cX8_lays 48 = .ok (.ireturn, 1) := by decide +kernel
theorem dX8_lays_49 : decode cX8_lays 49 = .ok (.aload_n 0, 1) := by decide +kernel
theorem dX8_lays_50 : decode cX8_lays 50 = .ok (.getfield 19, 3) := by decide +kernel
theorem dX8_lays_53 : decode cX8_lays 53 = .ok (.aload_n 0, 1) := by decide +kernel
theorem dX8_lays_54 : decode cX8_lays 54 = .ok (.getfield 10, 3) := by decide +kernel
theorem dX8_lays_57 : decode cX8_lays 57 = .ok (.invokevirtual 47, 3) := by decide +kernel
theorem dX8_lays_60 : decode cX8_lays 60 = .ok (.aload_n 0, 1) := by decide +kernel
theorem dX8_lays_61 : decode cX8_lays 61 = .ok (.getfield 10, 3) := by decide +kernel
theorem dX8_lays_64 : decode cX8_lays 64 = .ok (.getfield 78, 3) := by decide +kernel
theorem dX8_lays_67 : decode cX8_lays 67 = .ok (.iload_n 1, 1) := by decide +kernel
theorem dX8_lays_68 : decode cX8_lays 68 = .ok (.iload_n 2, 1) := by decide +kernel
theorem dX8_lays_69 : decode cX8_lays 69 = .ok (.iload_n 3, 1) := by decide +kernel
theorem dX8_lays_70 : decode cX8_lays 70 = .ok (.invokevirtual 85, 3) := by decide +kernel
theorem dX8_lays_73 : decode cX8_lays 73 = .ok (.aload_n 0, 1) := by decide +kernel
theorem dX8_lays_74 : decode cX8_lays 74 = .ok (.getfield 10, 3) := by decide +kernel
theorem dX8_lays_77 : decode cX8_lays 77 = .ok (.getfield 78, 3) := by decide +kernel
theorem dX8_lays_80 : decode cX8_lays 80 = .ok (.getfield 82, 3) := by decide +kernel
theorem dX8_lays_83 : decode cX8_lays 83 = .ok (.ireturn, 1) := by decide +kernel
theorem dX8_winds_0 : decode cX8_winds 0 = .ok (.iload_n 1, 1) := by decide +kernel
theorem dX8_winds_1 : decode cX8_winds 1 = .ok (.ifCond .lt 17, 3) := by decide +kernel
theorem dX8_winds_4 : decode cX8_winds 4 = .ok (.iload_n 1, 1) := by decide +kernel
theorem dX8_winds_5 : decode cX8_winds 5 = .ok (.aload_n 0, 1) := by decide +kernel
theorem dX8_winds_6 : decode cX8_winds 6 = .ok (.getfield 10, 3) := by decide +kernel
theorem dX8_winds_9 : decode cX8_winds 9 = .ok (.getfield 78, 3) := by decide +kernel
theorem dX8_winds_12 : decode cX8_winds 12 = .ok (.invokevirtual 89, 3) := by decide +kernel
theorem dX8_winds_15 : decode cX8_winds 15 = .ok (.if_icmp .le 5, 3) := by decide +kernel
theorem dX8_winds_18 : decode cX8_winds 18 = .ok (.iconst (-1), 1) := by decide +kernel
theorem dX8_winds_19 : decode cX8_winds 19 = .ok (.ireturn, 1) := by decide +kernel
theorem dX8_winds_20 : decode cX8_winds 20 = .ok (.iload_n 1, 1) := by decide +kernel
theorem dX8_winds_21 : decode cX8_winds 21 = .ok (.aload_n 0, 1) := by decide +kernel
theorem dX8_winds_22 : decode cX8_winds 22 = .ok (.getfield 10, 3) := by decide +kernel
theorem dX8_winds_25 : decode cX8_winds 25 = .ok (.getfield 78, 3) := by decide +kernel
theorem dX8_winds_28 : decode cX8_winds 28 = .ok (.getfield 93, 3) := by decide +kernel
theorem dX8_winds_31 : decode cX8_winds 31 = .ok (.if_icmp .ne 6, 3) := by decide +kernel
theorem dX8_winds_34 : decode cX8_winds 34 = .ok (.bipush (-2), 2) := by decide +kernel
theorem dX8_winds_36 : decode cX8_winds 36 = .ok (.ireturn, 1) := by decide +kernel
theorem dX8_winds_37 : decode cX8_winds 37 = .ok (.aload_n 0, 1) := by decide +kernel
theorem dX8_winds_38 : decode cX8_winds 38 = .ok (.getfield 19, 3) := by decide +kernel
theorem dX8_winds_41 : decode cX8_winds 41 = .ok (.aload_n 0, 1) := by decide +kernel
theorem dX8_winds_42 : decode cX8_winds 42 = .ok (.getfield 10, 3) := by decide +kernel
theorem dX8_winds_45 : decode cX8_winds 45 = .ok (.invokevirtual 47, 3) := by decide +kernel
theorem dX8_winds_48 : decode cX8_winds 48 = .ok (.aload_n 0, 1) := by decide +kernel
theorem dX8_winds_49 : decode cX8_winds 49 = .ok (.getfield 10, 3) := by decide +kernel
theorem dX8_winds_52 : decode cX8_winds 52 = .ok (.getfield 78, 3) := by decide +kernel
theorem dX8_winds_55 : decode cX8_winds 55 = .ok (.getfield 93, 3) := by decide +kernel
theorem dX8_winds_58 : decode cX8_winds 58 = .ok (.istore_n 2, 1) := by decide +kernel
theorem dX8_winds_59 : decode cX8_winds 59 = .ok (.aload_n 0, 1) := by decide +kernel
theorem dX8_winds_60 : decode cX8_winds 60 = .ok (.getfield 10, 3) := by decide +kernel
theorem dX8_winds_63 : decode cX8_winds 63 = .ok (.getfield 78, 3) := by decide +kernel
theorem dX8_winds_66 : decode cX8_winds 66 = .ok (.iload_n 1, 1) := by decide +kernel
theorem dX8_winds_67 : decode cX8_winds 67 = .ok (.putfield 93, 3) := by decide +kernel
theorem dX8_winds_70 : decode cX8_winds 70 = .ok (.iload_n 2, 1) := by decide +kernel
theorem dX8_winds_71 : decode cX8_winds 71 = .ok (.ireturn, 1) := by decide +kernel
theorem dX8_bit_0 : decode cX8_bit 0 = .ok (.iload_n 1, 1) := by decide +kernel
theorem dX8_bit_1 : decode cX8_bit 1 = .ok (.ifCond .lt 17, 3) := by decide +kernel
theorem dX8_bit_4 : decode cX8_bit 4 = .ok (.iload_n 1, 1) := by decide +kernel
theorem dX8_bit_5 : decode cX8_bit 5 = .ok (.aload_n 0, 1) := by decide +kernel
theorem dX8_bit_6 : decode cX8_bit 6 = .ok (.getfield 10, 3) := by decide +kernel
theorem dX8_bit_9 : decode cX8_bit 9 = .ok (.getfield 78, 3) := by decide +kernel
theorem dX8_bit_12 : decode cX8_bit 12 = .ok (.invokevirtual 89, 3) := by decide +kernel
theorem dX8_bit_15 : decode cX8_bit 15 = .ok (.if_icmp .lt 5, 3) := by decide +kernel
theorem dX8_bit_18 : decode cX8_bit 18 = .ok (.iconst (-1), 1) := by decide +kernel
theorem dX8_bit_19 : decode cX8_bit 19 = .ok (.ireturn, 1) := by decide +kernel
theorem dX8_bit_20 : decode cX8_bit 20 = .ok (.aload_n 0, 1) := by decide +kernel
theorem dX8_bit_21 : decode cX8_bit 21 = .ok (.getfield 10, 3) := by decide +kernel
theorem dX8_bit_24 : decode cX8_bit 24 = .ok (.getfield 78, 3) := by decide +kernel
theorem dX8_bit_27 : decode cX8_bit 27 = .ok (.iload_n 1, 1) := by decide +kernel
theorem dX8_bit_28 : decode cX8_bit 28 = .ok (.bipush 48, 2) := by decide +kernel
theorem dX8_bit_30 : decode cX8_bit 30 = .ok (.idiv, 1) := by decide +kernel
theorem dX8_bit_31 : decode cX8_bit 31 = .ok (.aload_n 0, 1) := by decide +kernel
theorem dX8_bit_32 : decode cX8_bit 32 = .ok (.getfield 10, 3) := by decide +kernel
theorem dX8_bit_35 : decode cX8_bit 35 = .ok (.getfield 43, 3) := by decide +kernel
theorem dX8_bit_38 : decode cX8_bit 38 = .ok (.invokevirtual 98, 3) := by decide +kernel
theorem dX8_bit_41 : decode cX8_bit 41 = .ok (.iload_n 1, 1) := by decide +kernel
theorem dX8_bit_42 : decode cX8_bit 42 = .ok (.bipush 48, 2) := by decide +kernel
theorem dX8_bit_44 : decode cX8_bit 44 = .ok (.irem, 1) := by decide +kernel
theorem dX8_bit_45 : decode cX8_bit 45 = .ok (.invokestatic 102, 3) := by decide +kernel
theorem dX8_bit_48 : decode cX8_bit 48 = .ok (.ireturn, 1) := by decide +kernel
theorem dX8_plays_0 : decode cX8_plays 0 = .ok (.iload_n 1, 1) := by decide +kernel
theorem dX8_plays_1 : decode cX8_plays 1 = .ok (.iconst 1, 1) := by decide +kernel
theorem dX8_plays_2 : decode cX8_plays 2 = .ok (.if_icmp .lt 43, 3) := by decide +kernel
theorem dX8_plays_5 : decode cX8_plays 5 = .ok (.iload_n 1, 1) := by decide +kernel
theorem dX8_plays_6 : decode cX8_plays 6 = .ok (.sipush 4800, 3) := by decide +kernel
theorem dX8_plays_9 : decode cX8_plays 9 = .ok (.if_icmp .gt 36, 3) := by decide +kernel
theorem dX8_plays_12 : decode cX8_plays 12 = .ok (.iload_n 2, 1) := by decide +kernel
theorem dX8_plays_13 : decode cX8_plays 13 = .ok (.iconst 1, 1) := by decide +kernel
theorem dX8_plays_14 : decode cX8_plays 14 = .ok (.if_icmp .lt 31, 3) := by decide +kernel
theorem dX8_plays_17 : decode cX8_plays 17 = .ok (.iload_n 2, 1) := by decide +kernel
theorem dX8_plays_18 : decode cX8_plays 18 = .ok (.sipush 200, 3) := by decide +kernel
theorem dX8_plays_21 : decode cX8_plays 21 = .ok (.if_icmp .gt 24, 3) := by decide +kernel
theorem dX8_plays_24 : decode cX8_plays 24 = .ok (.iload_n 3, 1) := by decide +kernel
theorem dX8_plays_25 : decode cX8_plays 25 = .ok (.ifCond .lt 20, 3) := by decide +kernel
theorem dX8_plays_28 : decode cX8_plays 28 = .ok (.iload_n 3, 1) := by decide +kernel
theorem dX8_plays_29 : decode cX8_plays 29 = .ok (.bipush 9, 2) := by decide +kernel
theorem dX8_plays_31 : decode cX8_plays 31 = .ok (.if_icmp .gt 14, 3) := by decide +kernel
theorem dX8_plays_34 : decode cX8_plays 34 = .ok (.iload 4, 2) := by decide +kernel
theorem dX8_plays_36 : decode cX8_plays 36 = .ok (.ifCond .lt 9, 3) := by decide +kernel
theorem dX8_plays_39 : decode cX8_plays 39 = .ok (.iload 4, 2) := by decide +kernel
theorem dX8_plays_41 : decode cX8_plays 41 = .ok (.iconst 1, 1) := by decide +kernel
theorem dX8_plays_42 : decode cX8_plays 42 = .ok (.if_icmp .le 5, 3) := by decide +kernel
theorem dX8_plays_45 : decode cX8_plays 45 = .ok (.iconst (-1), 1) := by decide +kernel
theorem dX8_plays_46 : decode cX8_plays 46 = .ok (.ireturn, 1) := by decide +kernel
theorem dX8_plays_47 : decode cX8_plays 47 = .ok (.iload 4, 2) := by decide +kernel
theorem dX8_plays_49 : decode cX8_plays 49 = .ok (.iconst 1, 1) := by decide +kernel
theorem dX8_plays_50 : decode cX8_plays 50 = .ok (.if_icmp .ne 16, 3) := by decide +kernel
theorem dX8_plays_53 : decode cX8_plays 53 = .ok (.aload_n 0, 1) := by decide +kernel
theorem dX8_plays_54 : decode cX8_plays 54 = .ok (.getfield 10, 3) := by decide +kernel
theorem dX8_plays_57 : decode cX8_plays 57 = .ok (.getfield 78, 3) := by decide +kernel
theorem dX8_plays_60 : decode cX8_plays 60 = .ok (.getfield 93, 3) := by decide +kernel
theorem dX8_plays_63 : decode cX8_plays 63 = .ok (.goto 24, 3) := by decide +kernel
theorem dX8_plays_66 : decode cX8_plays 66 = .ok (.aload_n 0, 1) := by decide +kernel
theorem dX8_plays_67 : decode cX8_plays 67 = .ok (.getfield 10, 3) := by decide +kernel
theorem dX8_plays_70 : decode cX8_plays 70 = .ok (.getfield 78, 3) := by decide +kernel
theorem dX8_plays_73 : decode cX8_plays 73 = .ok (.invokevirtual 89, 3) := by decide +kernel
theorem dX8_plays_76 : decode cX8_plays 76 = .ok (.aload_n 0, 1) := by decide +kernel
theorem dX8_plays_77 : decode cX8_plays 77 = .ok (.getfield 10, 3) := by decide +kernel
theorem dX8_plays_80 : decode cX8_plays 80 = .ok (.getfield 78, 3) := by decide +kernel
theorem dX8_plays_83 : decode cX8_plays 83 = .ok (.getfield 93, 3) := by decide +kernel
theorem dX8_plays_86 : decode cX8_plays 86 = .ok (.isub, 1) := by decide +kernel
theorem dX8_plays_87 : decode cX8_plays 87 = .ok (.istore 5, 2) := by decide +kernel
theorem dX8_plays_89 : decode cX8_plays 89 = .ok (.iload 5, 2) := by decide +kernel
theorem dX8_plays_91 : decode cX8_plays 91 = .ok (.iconst 1, 1) := by decide +kernel
theorem dX8_plays_92 : decode cX8_plays 92 = .ok (.if_icmp .ge 6, 3) := by decide +kernel
theorem dX8_plays_95 : decode cX8_plays 95 = .ok (.bipush (-2), 2) := by decide +kernel
theorem dX8_plays_97 : decode cX8_plays 97 = .ok (.ireturn, 1) := by decide +kernel
theorem dX8_plays_98 : decode cX8_plays 98 = .ok (.aload_n 0, 1) := by decide +kernel
theorem dX8_plays_99 : decode cX8_plays 99 = .ok (.getfield 19, 3) := by decide +kernel
theorem dX8_plays_102 : decode cX8_plays 102 = .ok (.aload_n 0, 1) := by decide +kernel
theorem dX8_plays_103 : decode cX8_plays 103 = .ok (.getfield 10, 3) := by decide +kernel
theorem dX8_plays_106 : decode cX8_plays 106 = .ok (.invokevirtual 47, 3) := by decide +kernel
theorem dX8_plays_109 : decode cX8_plays 109 = .ok (.iload_n 1, 1) := by decide +kernel
theorem dX8_plays_110 : decode cX8_plays 110 = .ok (.iload 5, 2) := by decide +kernel
theorem dX8_plays_112 : decode cX8_plays 112 = .ok (.invokestatic 106, 3) := by decide +kernel
theorem dX8_plays_115 : decode cX8_plays 115 = .ok (.istore 6, 2) := by decide +kernel
theorem dX8_plays_117 : decode cX8_plays 117 = .ok (.aload_n 0, 1) := by decide +kernel
theorem dX8_plays_118 : decode cX8_plays 118 = .ok (.getfield 10, 3) := by decide +kernel
theorem dX8_plays_121 : decode cX8_plays 121 = .ok (.iload 6, 2) := by decide +kernel
theorem dX8_plays_123 : decode cX8_plays 123 = .ok (.iload_n 2, 1) := by decide +kernel
theorem dX8_plays_124 : decode cX8_plays 124 = .ok (.iload_n 3, 1) := by decide +kernel
theorem dX8_plays_125 : decode cX8_plays 125 = .ok (.iload 4, 2) := by decide +kernel
theorem dX8_plays_127 : decode cX8_plays 127 = .ok (.iconst 1, 1) := by decide +kernel
theorem dX8_plays_128 : decode cX8_plays 128 = .ok (.if_icmp .ne 7, 3) := by decide +kernel
theorem dX8_plays_131 : decode cX8_plays 131 = .ok (.iconst 1, 1) := by decide +kernel
theorem dX8_plays_132 : decode cX8_plays 132 = .ok (.goto 4, 3) := by decide +kernel
theorem dX8_plays_135 : decode cX8_plays 135 = .ok (.iconst 0, 1) := by decide +kernel
theorem dX8_plays_136 : decode cX8_plays 136 = .ok (.invokevirtual 111, 3) := by decide +kernel
theorem dX8_plays_139 : decode cX8_plays 139 = .ok (.iload 6, 2) := by decide +kernel
theorem dX8_plays_141 : decode cX8_plays 141 = .ok (.ireturn, 1) := by decide +kernel
theorem dX8_edge_0 : decode cX8_edge 0 = .ok (.iload_n 1, 1) := by decide +kernel
theorem dX8_edge_1 : decode cX8_edge 1 = .ok (.iconst 1, 1) := by decide +kernel
theorem dX8_edge_2 : decode cX8_edge 2 = .ok (.if_icmp .lt 10, 3) := by decide +kernel
theorem dX8_edge_5 : decode cX8_edge 5 = .ok (.iload_n 1, 1) := by decide +kernel
theorem dX8_edge_6 : decode cX8_edge 6 = .ok (.sipush 9999, 3) := by decide +kernel
theorem dX8_edge_9 : decode cX8_edge 9 = .ok (.if_icmp .le 5, 3) := by decide +kernel
theorem dX8_edge_12 : decode cX8_edge 12 = .ok (.iconst (-1), 1) := by decide +kernel
theorem dX8_edge_13 : decode cX8_edge 13 = .ok (.ireturn, 1) := by decide +kernel
theorem dX8_edge_14 : decode cX8_edge 14 = .ok (.aload_n 0, 1) := by decide +kernel
theorem dX8_edge_15 : decode cX8_edge 15 = .ok (.getfield 19, 3) := by decide +kernel
theorem dX8_edge_18 : decode cX8_edge 18 = .ok (.aload_n 0, 1) := by decide +kernel
theorem dX8_edge_19 : decode cX8_edge 19 = .ok (.getfield 10, 3) := by decide +kernel
theorem dX8_edge_22 : decode cX8_edge 22 = .ok (.invokevirtual 47, 3) := by decide +kernel
theorem dX8_edge_25 : decode cX8_edge 25 = .ok (.aload_n 0, 1) := by decide +kernel
theorem dX8_edge_26 : decode cX8_edge 26 = .ok (.getfield 10, 3) := by decide +kernel
theorem dX8_edge_29 : decode cX8_edge 29 = .ok (.iload_n 1, 1) := by decide +kernel
theorem dX8_edge_30 : decode cX8_edge 30 = .ok (.invokevirtual 115, 3) := by decide +kernel
theorem dX8_edge_33 : decode cX8_edge 33 = .ok (.aload_n 0, 1) := by decide +kernel
theorem dX8_edge_34 : decode cX8_edge 34 = .ok (.getfield 10, 3) := by decide +kernel
theorem dX8_edge_37 : decode cX8_edge 37 = .ok (.getfield 118, 3) := by decide +kernel
theorem dX8_edge_40 : decode cX8_edge 40 = .ok (.getfield 122, 3) := by decide +kernel
theorem dX8_edge_43 : decode cX8_edge 43 = .ok (.ireturn, 1) := by decide +kernel
theorem dX8_begins_0 : decode cX8_begins 0 = .ok (.aload_n 0, 1) := by decide +kernel
theorem dX8_begins_1 : decode cX8_begins 1 = .ok (.getfield 19, 3) := by decide +kernel
theorem dX8_begins_4 : decode cX8_begins 4 = .ok (.aload_n 0, 1) := by decide +kernel
theorem dX8_begins_5 : decode cX8_begins 5 = .ok (.getfield 10, 3) := by decide +kernel
theorem dX8_begins_8 : decode cX8_begins 8 = .ok (.invokevirtual 47, 3) := by decide +kernel
theorem dX8_begins_11 : decode cX8_begins 11 = .ok (.aload_n 0, 1) := by decide +kernel
theorem dX8_begins_12 : decode cX8_begins 12 = .ok (.getfield 10, 3) := by decide +kernel
theorem dX8_begins_15 : decode cX8_begins 15 = .ok (.getfield 118, 3) := by decide +kernel
theorem dX8_begins_18 : decode cX8_begins 18 = .ok (.getfield 127, 3) := by decide +kernel
theorem dX8_begins_21 : decode cX8_begins 21 = .ok (.istore_n 1, 1) := by decide +kernel
theorem dX8_begins_22 : decode cX8_begins 22 = .ok (.aload_n 0, 1) := by decide +kernel
theorem dX8_begins_23 : decode cX8_begins 23 = .ok (.getfield 10, 3) := by decide +kernel
theorem dX8_begins_26 : decode cX8_begins 26 = .ok (.getfield 118, 3) := by decide +kernel
theorem dX8_begins_29 : decode cX8_begins 29 = .ok (.invokevirtual 130, 3) := by decide +kernel
theorem dX8_begins_32 : decode cX8_begins 32 = .ok (.iload_n 1, 1) := by decide +kernel
theorem dX8_begins_33 : decode cX8_begins 33 = .ok (.ireturn, 1) := by decide +kernel
theorem dX8_reader_0 : decode cX8_reader 0 = .ok (.aload_n 0, 1) := by decide +kernel
theorem dX8_reader_1 : decode cX8_reader 1 = .ok (.getfield 10, 3) := by decide +kernel
theorem dX8_reader_4 : decode cX8_reader 4 = .ok (.getfield 118, 3) := by decide +kernel
theorem dX8_reader_7 : decode cX8_reader 7 = .ok (.astore_n 2, 1) := by decide +kernel
theorem dX8_reader_8 : decode cX8_reader 8 = .ok (.iload_n 1, 1) := by decide +kernel
theorem dX8_reader_9 : decode cX8_reader 9 = .ok (.tableswitch 87 0 7 #[47, 52, 57, 62, 67, 72, 77, 82], 47) := by decide +kernel
theorem dX8_reader_56 : decode cX8_reader 56 = .ok (.aload_n 2, 1) := by decide +kernel
theorem dX8_reader_57 : decode cX8_reader 57 = .ok (.getfield 133, 3) := by decide +kernel
theorem dX8_reader_60 : decode cX8_reader 60 = .ok (.ireturn, 1) := by decide +kernel
theorem dX8_reader_61 : decode cX8_reader 61 = .ok (.aload_n 2, 1) := by decide +kernel
theorem dX8_reader_62 : decode cX8_reader 62 = .ok (.getfield 136, 3) := by decide +kernel
theorem dX8_reader_65 : decode cX8_reader 65 = .ok (.ireturn, 1) := by decide +kernel
theorem dX8_reader_66 : decode cX8_reader 66 = .ok (.aload_n 2, 1) := by decide +kernel
theorem dX8_reader_67 : decode cX8_reader 67 = .ok (.getfield 122, 3) := by decide +kernel
theorem dX8_reader_70 : decode cX8_reader 70 = .ok (.ireturn, 1) := by decide +kernel
theorem dX8_reader_71 : decode cX8_reader 71 = .ok (.aload_n 2, 1) := by decide +kernel
theorem dX8_reader_72 : decode cX8_reader 72 = .ok (.getfield 127, 3) := by decide +kernel
theorem dX8_reader_75 : decode cX8_reader 75 = .ok (.ireturn, 1) := by decide +kernel
theorem dX8_reader_76 : decode cX8_reader 76 = .ok (.aload_n 2, 1) := by decide +kernel
theorem dX8_reader_77 : decode cX8_reader 77 = .ok (.getfield 139, 3) := by decide +kernel
theorem dX8_reader_80 : decode cX8_reader 80 = .ok (.ireturn, 1) := by decide +kernel
theorem dX8_reader_81 : decode cX8_reader 81 = .ok (.aload_n 2, 1) := by decide +kernel
theorem dX8_reader_82 : decode cX8_reader 82 = .ok (.getfield 142, 3) := by decide +kernel
theorem dX8_reader_85 : decode cX8_reader 85 = .ok (.ireturn, 1) := by decide +kernel
theorem dX8_reader_86 : decode cX8_reader 86 = .ok (.aload_n 2, 1) := by decide +kernel
theorem dX8_reader_87 : decode cX8_reader 87 = .ok (.getfield 145, 3) := by decide +kernel
theorem dX8_reader_90 : decode cX8_reader 90 = .ok (.ireturn, 1) := by decide +kernel
theorem dX8_reader_91 : decode cX8_reader 91 = .ok (.aload_n 2, 1) := by decide +kernel
theorem dX8_reader_92 : decode cX8_reader 92 = .ok (.getfield 148, 3) := by decide +kernel
theorem dX8_reader_95 : decode cX8_reader 95 = .ok (.ireturn, 1) := by decide +kernel
theorem dX8_reader_96 : decode cX8_reader 96 = .ok (.iconst (-1), 1) := by decide +kernel
theorem dX8_reader_97 : decode cX8_reader 97 = .ok (.ireturn, 1) := by decide +kernel
theorem dX8_reading_0 : decode cX8_reading 0 = .ok (.aload_n 0, 1) := by decide +kernel
theorem dX8_reading_1 : decode cX8_reading 1 = .ok (.getfield 10, 3) := by decide +kernel
theorem dX8_reading_4 : decode cX8_reading 4 = .ok (.getfield 118, 3) := by decide +kernel
theorem dX8_reading_7 : decode cX8_reading 7 = .ok (.astore_n 2, 1) := by decide +kernel
theorem dX8_reading_8 : decode cX8_reading 8 = .ok (.iload_n 1, 1) := by decide +kernel
theorem dX8_reading_9 : decode cX8_reading 9 = .ok (.ifCond .lt 8, 3) := by decide +kernel
theorem dX8_reading_12 : decode cX8_reading 12 = .ok (.iload_n 1, 1) := by decide +kernel
theorem dX8_reading_13 : decode cX8_reading 13 = .ok (.iconst 3, 1) := by decide +kernel
theorem dX8_reading_14 : decode cX8_reading 14 = .ok (.if_icmp .le 6, 3) := by decide +kernel
theorem dX8_reading_17 : decode cX8_reading 17 = .ok (.ldc 151, 2) := by decide +kernel
theorem dX8_reading_19 : decode cX8_reading 19 = .ok (.ireturn, 1) := by decide +kernel
theorem dX8_reading_20 : decode cX8_reading 20 = .ok (.aload_n 2, 1) := by decide +kernel
theorem dX8_reading_21 : decode cX8_reading 21 = .ok (.invokevirtual 152, 3) := by decide +kernel
theorem dX8_reading_24 : decode cX8_reading 24 = .ok (.ifCond .ne 6, 3) := by decide +kernel
theorem dX8_reading_27 : decode cX8_reading 27 = .ok (.bipush (-9), 2) := by decide +kernel
theorem dX8_reading_29 : decode cX8_reading 29 = .ok (.ireturn, 1) := by decide +kernel
theorem dX8_reading_30 : decode cX8_reading 30 = .ok (.iload_n 1, 1) := by decide +kernel
theorem dX8_reading_31 : decode cX8_reading 31 = .ok (.tableswitch 40 0 2 #[25, 30, 35], 25) := by decide +kernel
theorem dX8_reading_56 : decode cX8_reading 56 = .ok (.aload_n 2, 1) := by decide +kernel
theorem dX8_reading_57 : decode cX8_reading 57 = .ok (.getfield 156, 3) := by decide +kernel
theorem dX8_reading_60 : decode cX8_reading 60 = .ok (.ireturn, 1) := by decide +kernel
theorem dX8_reading_61 : decode cX8_reading 61 = .ok (.aload_n 2, 1) := by decide +kernel
theorem dX8_reading_62 : decode cX8_reading 62 = .ok (.getfield 159, 3) := by decide +kernel
theorem dX8_reading_65 : decode cX8_reading 65 = .ok (.ireturn, 1) := by decide +kernel
theorem dX8_reading_66 : decode cX8_reading 66 = .ok (.aload_n 2, 1) := by decide +kernel
theorem dX8_reading_67 : decode cX8_reading 67 = .ok (.getfield 162, 3) := by decide +kernel
theorem dX8_reading_70 : decode cX8_reading 70 = .ok (.ireturn, 1) := by decide +kernel
theorem dX8_reading_71 : decode cX8_reading 71 = .ok (.aload_n 2, 1) := by decide +kernel
theorem dX8_reading_72 : decode cX8_reading 72 = .ok (.getfield 165, 3) := by decide +kernel
theorem dX8_reading_75 : decode cX8_reading 75 = .ok (.ireturn, 1) := by decide +kernel
theorem dX8_misses_0 : decode cX8_misses 0 = .ok (.aload_n 0, 1) := by decide +kernel
theorem dX8_misses_1 : decode cX8_misses 1 = .ok (.getfield 19, 3) := by decide +kernel
theorem dX8_misses_4 : decode cX8_misses 4 = .ok (.aload_n 0, 1) := by decide +kernel
theorem dX8_misses_5 : decode cX8_misses 5 = .ok (.getfield 10, 3) := by decide +kernel
theorem dX8_misses_8 : decode cX8_misses 8 = .ok (.invokevirtual 47, 3) := by decide +kernel
theorem dX8_misses_11 : decode cX8_misses 11 = .ok (.aload_n 0, 1) := by decide +kernel
theorem dX8_misses_12 : decode cX8_misses 12 = .ok (.getfield 10, 3) := by decide +kernel
theorem dX8_misses_15 : decode cX8_misses 15 = .ok (.invokevirtual 168, 3) := by decide +kernel
theorem dX8_misses_18 : decode cX8_misses 18 = .ok (.aload_n 0, 1) := by decide +kernel
theorem dX8_misses_19 : decode cX8_misses 19 = .ok (.getfield 10, 3) := by decide +kernel
theorem dX8_misses_22 : decode cX8_misses 22 = .ok (.getfield 171, 3) := by decide +kernel
theorem dX8_misses_25 : decode cX8_misses 25 = .ok (.getfield 175, 3) := by decide +kernel
theorem dX8_misses_28 : decode cX8_misses 28 = .ok (.ireturn, 1) := by decide +kernel
theorem dX8_holds_0 : decode cX8_holds 0 = .ok (.iload_n 1, 1) := by decide +kernel
theorem dX8_holds_1 : decode cX8_holds 1 = .ok (.ifCond .lt 9, 3) := by decide +kernel
theorem dX8_holds_4 : decode cX8_holds 4 = .ok (.iload_n 1, 1) := by decide +kernel
theorem dX8_holds_5 : decode cX8_holds 5 = .ok (.bipush 99, 2) := by decide +kernel
theorem dX8_holds_7 : decode cX8_holds 7 = .ok (.if_icmp .le 5, 3) := by decide +kernel
theorem dX8_holds_10 : decode cX8_holds 10 = .ok (.iconst (-1), 1) := by decide +kernel
theorem dX8_holds_11 : decode cX8_holds 11 = .ok (.ireturn, 1) := by decide +kernel
theorem dX8_holds_12 : decode cX8_holds 12 = .ok (.iload_n 1, 1) := by decide +kernel
theorem dX8_holds_13 : decode cX8_holds 13 = .ok (.aload_n 0, 1) := by decide +kernel
theorem dX8_holds_14 : decode cX8_holds 14 = .ok (.getfield 10, 3) := by decide +kernel
theorem dX8_holds_17 : decode cX8_holds 17 = .ok (.getfield 171, 3) := by decide +kernel
theorem dX8_holds_20 : decode cX8_holds 20 = .ok (.getfield 178, 3) := by decide +kernel
theorem dX8_holds_23 : decode cX8_holds 23 = .ok (.if_icmp .ne 6, 3) := by decide +kernel
theorem dX8_holds_26 : decode cX8_holds 26 = .ok (.bipush (-2), 2) := by decide +kernel
theorem dX8_holds_28 : decode cX8_holds 28 = .ok (.ireturn, 1) := by decide +kernel
theorem dX8_holds_29 : decode cX8_holds 29 = .ok (.aload_n 0, 1) := by decide +kernel
theorem dX8_holds_30 : decode cX8_holds 30 = .ok (.getfield 19, 3) := by decide +kernel
theorem dX8_holds_33 : decode cX8_holds 33 = .ok (.aload_n 0, 1) := by decide +kernel
theorem dX8_holds_34 : decode cX8_holds 34 = .ok (.getfield 10, 3) := by decide +kernel
theorem dX8_holds_37 : decode cX8_holds 37 = .ok (.invokevirtual 47, 3) := by decide +kernel
theorem dX8_holds_40 : decode cX8_holds 40 = .ok (.aload_n 0, 1) := by decide +kernel
theorem dX8_holds_41 : decode cX8_holds 41 = .ok (.getfield 10, 3) := by decide +kernel
theorem dX8_holds_44 : decode cX8_holds 44 = .ok (.getfield 171, 3) := by decide +kernel
theorem dX8_holds_47 : decode cX8_holds 47 = .ok (.getfield 178, 3) := by decide +kernel
theorem dX8_holds_50 : decode cX8_holds 50 = .ok (.istore_n 2, 1) := by decide +kernel
theorem dX8_holds_51 : decode cX8_holds 51 = .ok (.aload_n 0, 1) := by decide +kernel
theorem dX8_holds_52 : decode cX8_holds 52 = .ok (.getfield 10, 3) := by decide +kernel
theorem dX8_holds_55 : decode cX8_holds 55 = .ok (.getfield 171, 3) := by decide +kernel
theorem dX8_holds_58 : decode cX8_holds 58 = .ok (.iload_n 1, 1) := by decide +kernel
theorem dX8_holds_59 : decode cX8_holds 59 = .ok (.putfield 178, 3) := by decide +kernel
theorem dX8_holds_62 : decode cX8_holds 62 = .ok (.iload_n 2, 1) := by decide +kernel
theorem dX8_holds_63 : decode cX8_holds 63 = .ok (.ireturn, 1) := by decide +kernel
theorem dX8_wheel_0 : decode cX8_wheel 0 = .ok (.aload_n 0, 1) := by decide +kernel
theorem dX8_wheel_1 : decode cX8_wheel 1 = .ok (.getfield 10, 3) := by decide +kernel
theorem dX8_wheel_4 : decode cX8_wheel 4 = .ok (.getfield 171, 3) := by decide +kernel
theorem dX8_wheel_7 : decode cX8_wheel 7 = .ok (.astore_n 2, 1) := by decide +kernel
theorem dX8_wheel_8 : decode cX8_wheel 8 = .ok (.iload_n 1, 1) := by decide +kernel
theorem dX8_wheel_9 : decode cX8_wheel 9 = .ok (.tableswitch 74 0 4 #[35, 40, 45, 50, 55], 35) := by decide +kernel
theorem dX8_wheel_44 : decode cX8_wheel 44 = .ok (.aload_n 2, 1) := by decide +kernel
theorem dX8_wheel_45 : decode cX8_wheel 45 = .ok (.getfield 175, 3) := by decide +kernel
theorem dX8_wheel_48 : decode cX8_wheel 48 = .ok (.ireturn, 1) := by decide +kernel
theorem dX8_wheel_49 : decode cX8_wheel 49 = .ok (.aload_n 2, 1) := by decide +kernel
theorem dX8_wheel_50 : decode cX8_wheel 50 = .ok (.getfield 181, 3) := by decide +kernel
theorem dX8_wheel_53 : decode cX8_wheel 53 = .ok (.ireturn, 1) := by decide +kernel
theorem dX8_wheel_54 : decode cX8_wheel 54 = .ok (.aload_n 2, 1) := by decide +kernel
theorem dX8_wheel_55 : decode cX8_wheel 55 = .ok (.getfield 182, 3) := by decide +kernel
theorem dX8_wheel_58 : decode cX8_wheel 58 = .ok (.ireturn, 1) := by decide +kernel
theorem dX8_wheel_59 : decode cX8_wheel 59 = .ok (.aload_n 2, 1) := by decide +kernel
theorem dX8_wheel_60 : decode cX8_wheel 60 = .ok (.getfield 178, 3) := by decide +kernel
theorem dX8_wheel_63 : decode cX8_wheel 63 = .ok (.ireturn, 1) := by decide +kernel
theorem dX8_wheel_64 : decode cX8_wheel 64 = .ok (.aload_n 0, 1) := by decide +kernel
theorem dX8_wheel_65 : decode cX8_wheel 65 = .ok (.getfield 10, 3) := by decide +kernel
theorem dX8_wheel_68 : decode cX8_wheel 68 = .ok (.getfield 118, 3) := by decide +kernel
theorem dX8_wheel_71 : decode cX8_wheel 71 = .ok (.invokevirtual 185, 3) := by decide +kernel
theorem dX8_wheel_74 : decode cX8_wheel 74 = .ok (.ifCond .eq 7, 3) := by decide +kernel
theorem dX8_wheel_77 : decode cX8_wheel 77 = .ok (.iconst 1, 1) := by decide +kernel
theorem dX8_wheel_78 : decode cX8_wheel 78 = .ok (.goto 4, 3) := by decide +kernel
theorem dX8_wheel_81 : decode cX8_wheel 81 = .ok (.iconst 0, 1) := by decide +kernel
theorem dX8_wheel_82 : decode cX8_wheel 82 = .ok (.ireturn, 1) := by decide +kernel
theorem dX8_wheel_83 : decode cX8_wheel 83 = .ok (.ldc 151, 2) := by decide +kernel
theorem dX8_wheel_85 : decode cX8_wheel 85 = .ok (.ireturn, 1) := by decide +kernel
theorem dX8_offsets_0 : decode cX8_offsets 0 = .ok (.aload_n 0, 1) := by decide +kernel
theorem dX8_offsets_1 : decode cX8_offsets 1 = .ok (.getfield 10, 3) := by decide +kernel
theorem dX8_offsets_4 : decode cX8_offsets 4 = .ok (.iload_n 1, 1) := by decide +kernel
theorem dX8_offsets_5 : decode cX8_offsets 5 = .ok (.invokevirtual 188, 3) := by decide +kernel
theorem dX8_offsets_8 : decode cX8_offsets 8 = .ok (.astore_n 3, 1) := by decide +kernel
theorem dX8_offsets_9 : decode cX8_offsets 9 = .ok (.aload_n 3, 1) := by decide +kernel
theorem dX8_offsets_10 : decode cX8_offsets 10 = .ok (.ifnull 15, 3) := by decide +kernel
theorem dX8_offsets_13 : decode cX8_offsets 13 = .ok (.iload_n 2, 1) := by decide +kernel
theorem dX8_offsets_14 : decode cX8_offsets 14 = .ok (.ldc 192, 2) := by decide +kernel
theorem dX8_offsets_16 : decode cX8_offsets 16 = .ok (.if_icmp .lt 9, 3) := by decide +kernel
theorem dX8_offsets_19 : decode cX8_offsets 19 = .ok (.iload_n 2, 1) := by decide +kernel
theorem dX8_offsets_20 : decode cX8_offsets 20 = .ok (.ldc 193, 2) := by decide +kernel
theorem dX8_offsets_22 : decode cX8_offsets 22 = .ok (.if_icmp .le 5, 3) := by decide +kernel
theorem dX8_offsets_25 : decode cX8_offsets 25 = .ok (.iconst (-1), 1) := by decide +kernel
theorem dX8_offsets_26 : decode cX8_offsets 26 = .ok (.ireturn, 1) := by decide +kernel
theorem dX8_offsets_27 : decode cX8_offsets 27 = .ok (.iload_n 2, 1) := by decide +kernel
theorem dX8_offsets_28 : decode cX8_offsets 28 = .ok (.aload_n 3, 1) := by decide +kernel
theorem dX8_offsets_29 : decode cX8_offsets 29 = .ok (.getfield 194, 3) := by decide +kernel
theorem dX8_offsets_32 : decode cX8_offsets 32 = .ok (.if_icmp .ne 6, 3) := by decide +kernel
theorem dX8_offsets_35 : decode cX8_offsets 35 = .ok (.bipush (-2), 2) := by decide +kernel
theorem dX8_offsets_37 : decode cX8_offsets 37 = .ok (.ireturn, 1) := by decide +kernel
theorem dX8_offsets_38 : decode cX8_offsets 38 = .ok (.aload_n 0, 1) := by decide +kernel
theorem dX8_offsets_39 : decode cX8_offsets 39 = .ok (.getfield 19, 3) := by decide +kernel
theorem dX8_offsets_42 : decode cX8_offsets 42 = .ok (.aload_n 0, 1) := by decide +kernel
theorem dX8_offsets_43 : decode cX8_offsets 43 = .ok (.getfield 10, 3) := by decide +kernel
theorem dX8_offsets_46 : decode cX8_offsets 46 = .ok (.invokevirtual 47, 3) := by decide +kernel
theorem dX8_offsets_49 : decode cX8_offsets 49 = .ok (.aload_n 3, 1) := by decide +kernel
theorem dX8_offsets_50 : decode cX8_offsets 50 = .ok (.iload_n 2, 1) := by decide +kernel
theorem dX8_offsets_51 : decode cX8_offsets 51 = .ok (.putfield 194, 3) := by decide +kernel
theorem dX8_offsets_54 : decode cX8_offsets 54 = .ok (.iconst 1, 1) := by decide +kernel
theorem dX8_offsets_55 : decode cX8_offsets 55 = .ok (.ireturn, 1) := by decide +kernel
theorem dX8_chases_0 : decode cX8_chases 0 = .ok (.aload_n 0, 1) := by decide +kernel
theorem dX8_chases_1 : decode cX8_chases 1 = .ok (.getfield 10, 3) := by decide +kernel
theorem dX8_chases_4 : decode cX8_chases 4 = .ok (.iload_n 1, 1) := by decide +kernel
theorem dX8_chases_5 : decode cX8_chases 5 = .ok (.invokevirtual 188, 3) := by decide +kernel
theorem dX8_chases_8 : decode cX8_chases 8 = .ok (.astore_n 3, 1) := by decide +kernel
theorem dX8_chases_9 : decode cX8_chases 9 = .ok (.aload_n 3, 1) := by decide +kernel
theorem dX8_chases_10 : decode cX8_chases 10 = .ok (.ifnull 15, 3) := by decide +kernel
theorem dX8_chases_13 : decode cX8_chases 13 = .ok (.iload_n 2, 1) := by decide +kernel
theorem dX8_chases_14 : decode cX8_chases 14 = .ok (.iconst 1, 1) := by decide +kernel
theorem dX8_chases_15 : decode cX8_chases 15 = .ok (.if_icmp .lt 10, 3) := by decide +kernel
theorem dX8_chases_18 : decode cX8_chases 18 = .ok (.iload_n 2, 1) := by decide +kernel
theorem dX8_chases_19 : decode cX8_chases 19 = .ok (.sipush 1000, 3) := by decide +kernel
theorem dX8_chases_22 : decode cX8_chases 22 = .ok (.if_icmp .le 5, 3) := by decide +kernel
theorem dX8_chases_25 : decode cX8_chases 25 = .ok (.iconst (-1), 1) := by decide +kernel
theorem dX8_chases_26 : decode cX8_chases 26 = .ok (.ireturn, 1) := by decide +kernel
theorem dX8_chases_27 : decode cX8_chases 27 = .ok (.aload_n 0, 1) := by decide +kernel
theorem dX8_chases_28 : decode cX8_chases 28 = .ok (.getfield 19, 3) := by decide +kernel
theorem dX8_chases_31 : decode cX8_chases 31 = .ok (.aload_n 0, 1) := by decide +kernel
theorem dX8_chases_32 : decode cX8_chases 32 = .ok (.getfield 10, 3) := by decide +kernel
theorem dX8_chases_35 : decode cX8_chases 35 = .ok (.invokevirtual 47, 3) := by decide +kernel
theorem dX8_chases_38 : decode cX8_chases 38 = .ok (.iconst 0, 1) := by decide +kernel
theorem dX8_chases_39 : decode cX8_chases 39 = .ok (.istore 4, 2) := by decide +kernel
theorem dX8_chases_41 : decode cX8_chases 41 = .ok (.iload 4, 2) := by decide +kernel
theorem dX8_chases_43 : decode cX8_chases 43 = .ok (.iload_n 2, 1) := by decide +kernel
theorem dX8_chases_44 : decode cX8_chases 44 = .ok (.if_icmp .ge 30, 3) := by decide +kernel
theorem dX8_chases_47 : decode cX8_chases 47 = .ok (.aload_n 3, 1) := by decide +kernel
theorem dX8_chases_48 : decode cX8_chases 48 = .ok (.aload_n 0, 1) := by decide +kernel
theorem dX8_chases_49 : decode cX8_chases 49 = .ok (.getfield 10, 3) := by decide +kernel
theorem dX8_chases_52 : decode cX8_chases 52 = .ok (.getfield 171, 3) := by decide +kernel
theorem dX8_chases_55 : decode cX8_chases 55 = .ok (.getfield 175, 3) := by decide +kernel
theorem dX8_chases_58 : decode cX8_chases 58 = .ok (.aload_n 0, 1) := by decide +kernel
theorem dX8_chases_59 : decode cX8_chases 59 = .ok (.getfield 10, 3) := by decide +kernel
theorem dX8_chases_62 : decode cX8_chases 62 = .ok (.invokevirtual 197, 3) := by decide +kernel
theorem dX8_chases_65 : decode cX8_chases 65 = .ok (.invokevirtual 200, 3) := by decide +kernel
theorem dX8_chases_68 : decode cX8_chases 68 = .ok (.iinc 4 1, 3) := by decide +kernel
theorem dX8_chases_71 : decode cX8_chases 71 = .ok (.goto (-30), 3) := by decide +kernel
theorem dX8_chases_74 : decode cX8_chases 74 = .ok (.aload_n 3, 1) := by decide +kernel
theorem dX8_chases_75 : decode cX8_chases 75 = .ok (.getfield 204, 3) := by decide +kernel
theorem dX8_chases_78 : decode cX8_chases 78 = .ok (.ireturn, 1) := by decide +kernel
theorem dX8_chaser_0 : decode cX8_chaser 0 = .ok (.aload_n 0, 1) := by decide +kernel
theorem dX8_chaser_1 : decode cX8_chaser 1 = .ok (.getfield 10, 3) := by decide +kernel
theorem dX8_chaser_4 : decode cX8_chaser 4 = .ok (.iload_n 1, 1) := by decide +kernel
theorem dX8_chaser_5 : decode cX8_chaser 5 = .ok (.invokevirtual 188, 3) := by decide +kernel
theorem dX8_chaser_8 : decode cX8_chaser 8 = .ok (.astore_n 3, 1) := by decide +kernel
theorem dX8_chaser_9 : decode cX8_chaser 9 = .ok (.aload_n 3, 1) := by decide +kernel
theorem dX8_chaser_10 : decode cX8_chaser 10 = .ok (.ifnonnull 6, 3) := by decide +kernel
theorem dX8_chaser_13 : decode cX8_chaser 13 = .ok (.ldc 151, 2) := by decide +kernel
theorem dX8_chaser_15 : decode cX8_chaser 15 = .ok (.ireturn, 1) := by decide +kernel
theorem dX8_chaser_16 : decode cX8_chaser 16 = .ok (.iload_n 2, 1) := by decide +kernel
theorem dX8_chaser_17 : decode cX8_chaser 17 = .ok (.tableswitch 68 0 3 #[31, 36, 41, 46], 31) := by decide +kernel
theorem dX8_chaser_48 : decode cX8_chaser 48 = .ok (.aload_n 3, 1) := by decide +kernel
theorem dX8_chaser_49 : decode cX8_chaser 49 = .ok (.getfield 204, 3) := by decide +kernel
theorem dX8_chaser_52 : decode cX8_chaser 52 = .ok (.ireturn, 1) := by decide +kernel
theorem dX8_chaser_53 : decode cX8_chaser 53 = .ok (.aload_n 3, 1) := by decide +kernel
theorem dX8_chaser_54 : decode cX8_chaser 54 = .ok (.getfield 207, 3) := by decide +kernel
theorem dX8_chaser_57 : decode cX8_chaser 57 = .ok (.ireturn, 1) := by decide +kernel
theorem dX8_chaser_58 : decode cX8_chaser 58 = .ok (.aload_n 3, 1) := by decide +kernel
theorem dX8_chaser_59 : decode cX8_chaser 59 = .ok (.getfield 194, 3) := by decide +kernel
theorem dX8_chaser_62 : decode cX8_chaser 62 = .ok (.ireturn, 1) := by decide +kernel
theorem dX8_chaser_63 : decode cX8_chaser 63 = .ok (.aload_n 3, 1) := by decide +kernel
theorem dX8_chaser_64 : decode cX8_chaser 64 = .ok (.aload_n 0, 1) := by decide +kernel
theorem dX8_chaser_65 : decode cX8_chaser 65 = .ok (.getfield 10, 3) := by decide +kernel
theorem dX8_chaser_68 : decode cX8_chaser 68 = .ok (.getfield 171, 3) := by decide +kernel
theorem dX8_chaser_71 : decode cX8_chaser 71 = .ok (.getfield 175, 3) := by decide +kernel
theorem dX8_chaser_74 : decode cX8_chaser 74 = .ok (.aload_n 0, 1) := by decide +kernel
theorem dX8_chaser_75 : decode cX8_chaser 75 = .ok (.getfield 10, 3) := by decide +kernel
theorem dX8_chaser_78 : decode cX8_chaser 78 = .ok (.invokevirtual 197, 3) := by decide +kernel
theorem dX8_chaser_81 : decode cX8_chaser 81 = .ok (.invokevirtual 210, 3) := by decide +kernel
theorem dX8_chaser_84 : decode cX8_chaser 84 = .ok (.ireturn, 1) := by decide +kernel
theorem dX8_chaser_85 : decode cX8_chaser 85 = .ok (.ldc 151, 2) := by decide +kernel
theorem dX8_chaser_87 : decode cX8_chaser 87 = .ok (.ireturn, 1) := by decide +kernel
theorem dX8_there_0 : decode cX8_there 0 = .ok (.aload_n 0, 1) := by decide +kernel
theorem dX8_there_1 : decode cX8_there 1 = .ok (.getfield 10, 3) := by decide +kernel
theorem dX8_there_4 : decode cX8_there 4 = .ok (.iload_n 1, 1) := by decide +kernel
theorem dX8_there_5 : decode cX8_there 5 = .ok (.invokevirtual 188, 3) := by decide +kernel
theorem dX8_there_8 : decode cX8_there 8 = .ok (.astore_n 2, 1) := by decide +kernel
theorem dX8_there_9 : decode cX8_there 9 = .ok (.aload_n 2, 1) := by decide +kernel
theorem dX8_there_10 : decode cX8_there 10 = .ok (.ifnonnull 5, 3) := by decide +kernel
theorem dX8_there_13 : decode cX8_there 13 = .ok (.iconst (-1), 1) := by decide +kernel
theorem dX8_there_14 : decode cX8_there 14 = .ok (.ireturn, 1) := by decide +kernel
theorem dX8_there_15 : decode cX8_there 15 = .ok (.aload_n 0, 1) := by decide +kernel
theorem dX8_there_16 : decode cX8_there 16 = .ok (.getfield 30, 3) := by decide +kernel
theorem dX8_there_19 : decode cX8_there 19 = .ok (.aload_n 2, 1) := by decide +kernel
theorem dX8_there_20 : decode cX8_there 20 = .ok (.invokevirtual 213, 3) := by decide +kernel
theorem dX8_there_23 : decode cX8_there 23 = .ok (.iconst 0, 1) := by decide +kernel
theorem dX8_there_24 : decode cX8_there 24 = .ok (.istore_n 3, 1) := by decide +kernel
theorem dX8_there_25 : decode cX8_there 25 = .ok (.iload_n 3, 1) := by decide +kernel
theorem dX8_there_26 : decode cX8_there 26 = .ok (.sipush 3000, 3) := by decide +kernel
theorem dX8_there_29 : decode cX8_there 29 = .ok (.if_icmp .gt 62, 3) := by decide +kernel
theorem dX8_there_32 : decode cX8_there 32 = .ok (.aload_n 0, 1) := by decide +kernel
theorem dX8_there_33 : decode cX8_there 33 = .ok (.getfield 30, 3) := by decide +kernel
theorem dX8_there_36 : decode cX8_there 36 = .ok (.aload_n 0, 1) := by decide +kernel
theorem dX8_there_37 : decode cX8_there 37 = .ok (.getfield 10, 3) := by decide +kernel
theorem dX8_there_40 : decode cX8_there 40 = .ok (.getfield 171, 3) := by decide +kernel
theorem dX8_there_43 : decode cX8_there 43 = .ok (.getfield 175, 3) := by decide +kernel
theorem dX8_there_46 : decode cX8_there 46 = .ok (.aload_n 0, 1) := by decide +kernel
theorem dX8_there_47 : decode cX8_there 47 = .ok (.getfield 10, 3) := by decide +kernel
theorem dX8_there_50 : decode cX8_there 50 = .ok (.invokevirtual 197, 3) := by decide +kernel
theorem dX8_there_53 : decode cX8_there 53 = .ok (.invokevirtual 217, 3) := by decide +kernel
theorem dX8_there_56 : decode cX8_there 56 = .ok (.ifCond .eq 5, 3) := by decide +kernel
theorem dX8_there_59 : decode cX8_there 59 = .ok (.iload_n 3, 1) := by decide +kernel
theorem dX8_there_60 : decode cX8_there 60 = .ok (.ireturn, 1) := by decide +kernel
theorem dX8_there_61 : decode cX8_there 61 = .ok (.aload_n 0, 1) := by decide +kernel
theorem dX8_there_62 : decode cX8_there 62 = .ok (.getfield 30, 3) := by decide +kernel
theorem dX8_there_65 : decode cX8_there 65 = .ok (.aload_n 0, 1) := by decide +kernel
theorem dX8_there_66 : decode cX8_there 66 = .ok (.getfield 10, 3) := by decide +kernel
theorem dX8_there_69 : decode cX8_there 69 = .ok (.getfield 171, 3) := by decide +kernel
theorem dX8_there_72 : decode cX8_there 72 = .ok (.getfield 175, 3) := by decide +kernel
theorem dX8_there_75 : decode cX8_there 75 = .ok (.aload_n 0, 1) := by decide +kernel
theorem dX8_there_76 : decode cX8_there 76 = .ok (.getfield 10, 3) := by decide +kernel
theorem dX8_there_79 : decode cX8_there 79 = .ok (.invokevirtual 197, 3) := by decide +kernel
theorem dX8_there_82 : decode cX8_there 82 = .ok (.invokevirtual 200, 3) := by decide +kernel
theorem dX8_there_85 : decode cX8_there 85 = .ok (.iinc 3 1, 3) := by decide +kernel
theorem dX8_there_88 : decode cX8_there 88 = .ok (.goto (-63), 3) := by decide +kernel
theorem dX8_there_91 : decode cX8_there 91 = .ok (.bipush (-9), 2) := by decide +kernel
theorem dX8_there_93 : decode cX8_there 93 = .ok (.ireturn, 1) := by decide +kernel
theorem dX8_undo_0 : decode cX8_undo 0 = .ok (.aload_n 0, 1) := by decide +kernel
theorem dX8_undo_1 : decode cX8_undo 1 = .ok (.getfield 19, 3) := by decide +kernel
theorem dX8_undo_4 : decode cX8_undo 4 = .ok (.aload_n 0, 1) := by decide +kernel
theorem dX8_undo_5 : decode cX8_undo 5 = .ok (.getfield 10, 3) := by decide +kernel
theorem dX8_undo_8 : decode cX8_undo 8 = .ok (.invokevirtual 221, 3) := by decide +kernel
theorem dX8_undo_11 : decode cX8_undo 11 = .ok (.ifCond .eq 13, 3) := by decide +kernel
theorem dX8_undo_14 : decode cX8_undo 14 = .ok (.aload_n 0, 1) := by decide +kernel
theorem dX8_undo_15 : decode cX8_undo 15 = .ok (.getfield 19, 3) := by decide +kernel
theorem dX8_undo_18 : decode cX8_undo 18 = .ok (.getfield 225, 3) := by decide +kernel
theorem dX8_undo_21 : decode cX8_undo 21 = .ok (.goto 5, 3) := by decide +kernel
theorem dX8_undo_24 : decode cX8_undo 24 = .ok (.bipush (-2), 2) := by decide +kernel
theorem dX8_undo_26 : decode cX8_undo 26 = .ok (.ireturn, 1) := by decide +kernel
theorem dX8_sees_0 : decode cX8_sees 0 = .ok (.iload_n 1, 1) := by decide +kernel
theorem dX8_sees_1 : decode cX8_sees 1 = .ok (.invokestatic 63, 3) := by decide +kernel
theorem dX8_sees_4 : decode cX8_sees 4 = .ok (.ifCond .eq 13, 3) := by decide +kernel
theorem dX8_sees_7 : decode cX8_sees 7 = .ok (.iload_n 2, 1) := by decide +kernel
theorem dX8_sees_8 : decode cX8_sees 8 = .ok (.ifCond .ge 11, 3) := by decide +kernel
theorem dX8_sees_11 : decode cX8_sees 11 = .ok (.iload_n 2, 1) := by decide +kernel
theorem dX8_sees_12 : decode cX8_sees 12 = .ok (.bipush (-9), 2) := by decide +kernel
theorem dX8_sees_14 : decode cX8_sees 14 = .ok (.if_icmp .eq 5, 3) := by decide +kernel
theorem dX8_sees_17 : decode cX8_sees 17 = .ok (.iconst (-1), 1) := by decide +kernel
theorem dX8_sees_18 : decode cX8_sees 18 = .ok (.ireturn, 1) := by decide +kernel
theorem dX8_sees_19 : decode cX8_sees 19 = .ok (.aload_n 0, 1) := by decide +kernel
theorem dX8_sees_20 : decode cX8_sees 20 = .ok (.getfield 228, 3) := by decide +kernel
theorem dX8_sees_23 : decode cX8_sees 23 = .ok (.ifCond .lt 12, 3) := by decide +kernel
theorem dX8_sees_26 : decode cX8_sees 26 = .ok (.aload_n 0, 1) := by decide +kernel
theorem dX8_sees_27 : decode cX8_sees 27 = .ok (.getfield 228, 3) := by decide +kernel
theorem dX8_sees_30 : decode cX8_sees 30 = .ok (.bipush 6, 2) := by decide +kernel
theorem dX8_sees_32 : decode cX8_sees 32 = .ok (.if_icmp .lt 6, 3) := by decide +kernel
theorem dX8_sees_35 : decode cX8_sees 35 = .ok (.bipush (-3), 2) := by decide +kernel
theorem dX8_sees_37 : decode cX8_sees 37 = .ok (.ireturn, 1) := by decide +kernel
theorem dX8_sees_38 : decode cX8_sees 38 = .ok (.aload_n 0, 1) := by decide +kernel
theorem dX8_sees_39 : decode cX8_sees 39 = .ok (.getfield 34, 3) := by decide +kernel
theorem dX8_sees_42 : decode cX8_sees 42 = .ok (.aload_n 0, 1) := by decide +kernel
theorem dX8_sees_43 : decode cX8_sees 43 = .ok (.getfield 228, 3) := by decide +kernel
theorem dX8_sees_46 : decode cX8_sees 46 = .ok (.iload_n 1, 1) := by decide +kernel
theorem dX8_sees_47 : decode cX8_sees 47 = .ok (.iastore, 1) := by decide +kernel
theorem dX8_sees_48 : decode cX8_sees 48 = .ok (.aload_n 0, 1) := by decide +kernel
theorem dX8_sees_49 : decode cX8_sees 49 = .ok (.getfield 38, 3) := by decide +kernel
theorem dX8_sees_52 : decode cX8_sees 52 = .ok (.aload_n 0, 1) := by decide +kernel
theorem dX8_sees_53 : decode cX8_sees 53 = .ok (.getfield 228, 3) := by decide +kernel
theorem dX8_sees_56 : decode cX8_sees 56 = .ok (.iload_n 2, 1) := by decide +kernel
theorem dX8_sees_57 : decode cX8_sees 57 = .ok (.iastore, 1) := by decide +kernel
theorem dX8_sees_58 : decode cX8_sees 58 = .ok (.aload_n 0, 1) := by decide +kernel
theorem dX8_sees_59 : decode cX8_sees 59 = .ok (.dup, 1) := by decide +kernel
theorem dX8_sees_60 : decode cX8_sees 60 = .ok (.getfield 228, 3) := by decide +kernel
theorem dX8_sees_63 : decode cX8_sees 63 = .ok (.iconst 1, 1) := by decide +kernel
theorem dX8_sees_64 : decode cX8_sees 64 = .ok (.iadd, 1) := by decide +kernel
theorem dX8_sees_65 : decode cX8_sees 65 = .ok (.putfield 228, 3) := by decide +kernel
theorem dX8_sees_68 : decode cX8_sees 68 = .ok (.aload_n 0, 1) := by decide +kernel
theorem dX8_sees_69 : decode cX8_sees 69 = .ok (.getfield 228, 3) := by decide +kernel
theorem dX8_sees_72 : decode cX8_sees 72 = .ok (.ireturn, 1) := by decide +kernel
theorem dX8_forget_0 : decode cX8_forget 0 = .ok (.aload_n 0, 1) := by decide +kernel
theorem dX8_forget_1 : decode cX8_forget 1 = .ok (.getfield 228, 3) := by decide +kernel
theorem dX8_forget_4 : decode cX8_forget 4 = .ok (.istore_n 1, 1) := by decide +kernel
theorem dX8_forget_5 : decode cX8_forget 5 = .ok (.aload_n 0, 1) := by decide +kernel
theorem dX8_forget_6 : decode cX8_forget 6 = .ok (.iconst 0, 1) := by decide +kernel
theorem dX8_forget_7 : decode cX8_forget 7 = .ok (.putfield 228, 3) := by decide +kernel
theorem dX8_forget_10 : decode cX8_forget 10 = .ok (.iload_n 1, 1) := by decide +kernel
theorem dX8_forget_11 : decode cX8_forget 11 = .ok (.ireturn, 1) := by decide +kernel
theorem dX8_unseen_0 : decode cX8_unseen 0 = .ok (.iconst 0, 1) := by decide +kernel
theorem dX8_unseen_1 : decode cX8_unseen 1 = .ok (.istore_n 1, 1) := by decide +kernel
theorem dX8_unseen_2 : decode cX8_unseen 2 = .ok (.iconst 0, 1) := by decide +kernel
theorem dX8_unseen_3 : decode cX8_unseen 3 = .ok (.istore_n 2, 1) := by decide +kernel
theorem dX8_unseen_4 : decode cX8_unseen 4 = .ok (.iload_n 2, 1) := by decide +kernel
theorem dX8_unseen_5 : decode cX8_unseen 5 = .ok (.iconst 4, 1) := by decide +kernel
theorem dX8_unseen_6 : decode cX8_unseen 6 = .ok (.if_icmp .ge 23, 3) := by decide +kernel
theorem dX8_unseen_9 : decode cX8_unseen 9 = .ok (.aload_n 0, 1) := by decide +kernel
theorem dX8_unseen_10 : decode cX8_unseen 10 = .ok (.iload_n 2, 1) := by decide +kernel
theorem dX8_unseen_11 : decode cX8_unseen 11 = .ok (.invokevirtual 231, 3) := by decide +kernel
theorem dX8_unseen_14 : decode cX8_unseen 14 = .ok (.ifCond .eq 9, 3) := by decide +kernel
theorem dX8_unseen_17 : decode cX8_unseen 17 = .ok (.iload_n 1, 1) := by decide +kernel
theorem dX8_unseen_18 : decode cX8_unseen 18 = .ok (.iconst 1, 1) := by decide +kernel
theorem dX8_unseen_19 : decode cX8_unseen 19 = .ok (.iload_n 2, 1) := by decide +kernel
theorem dX8_unseen_20 : decode cX8_unseen 20 = .ok (.ishl, 1) := by decide +kernel
theorem dX8_unseen_21 : decode cX8_unseen 21 = .ok (.ior, 1) := by decide +kernel
theorem dX8_unseen_22 : decode cX8_unseen 22 = .ok (.istore_n 1, 1) := by decide +kernel
theorem dX8_unseen_23 : decode cX8_unseen 23 = .ok (.iinc 2 1, 3) := by decide +kernel
theorem dX8_unseen_26 : decode cX8_unseen 26 = .ok (.goto (-22), 3) := by decide +kernel
theorem dX8_unseen_29 : decode cX8_unseen 29 = .ok (.iload_n 1, 1) := by decide +kernel
theorem dX8_unseen_30 : decode cX8_unseen 30 = .ok (.ireturn, 1) := by decide +kernel
theorem dX8_keep_0 : decode cX8_keep 0 = .ok (.iload_n 1, 1) := by decide +kernel
theorem dX8_keep_1 : decode cX8_keep 1 = .ok (.ifCond .lt 12, 3) := by decide +kernel
theorem dX8_keep_4 : decode cX8_keep 4 = .ok (.iload_n 1, 1) := by decide +kernel
theorem dX8_keep_5 : decode cX8_keep 5 = .ok (.aload_n 0, 1) := by decide +kernel
theorem dX8_keep_6 : decode cX8_keep 6 = .ok (.getfield 23, 3) := by decide +kernel
theorem dX8_keep_9 : decode cX8_keep 9 = .ok (.arraylength, 1) := by decide +kernel
theorem dX8_keep_10 : decode cX8_keep 10 = .ok (.if_icmp .lt 5, 3) := by decide +kernel
theorem dX8_keep_13 : decode cX8_keep 13 = .ok (.iconst (-1), 1) := by decide +kernel
theorem dX8_keep_14 : decode cX8_keep 14 = .ok (.ireturn, 1) := by decide +kernel
theorem dX8_keep_15 : decode cX8_keep 15 = .ok (.aload_n 0, 1) := by decide +kernel
theorem dX8_keep_16 : decode cX8_keep 16 = .ok (.getfield 23, 3) := by decide +kernel
theorem dX8_keep_19 : decode cX8_keep 19 = .ok (.iload_n 1, 1) := by decide +kernel
theorem dX8_keep_20 : decode cX8_keep 20 = .ok (.aaload, 1) := by decide +kernel
theorem dX8_keep_21 : decode cX8_keep 21 = .ok (.astore_n 2, 1) := by decide +kernel
theorem dX8_keep_22 : decode cX8_keep 22 = .ok (.aload_n 2, 1) := by decide +kernel
theorem dX8_keep_23 : decode cX8_keep 23 = .ok (.ifnonnull 18, 3) := by decide +kernel
theorem dX8_keep_26 : decode cX8_keep 26 = .ok (.new 7, 3) := by decide +kernel
theorem dX8_keep_29 : decode cX8_keep 29 = .ok (.dup, 1) := by decide +kernel
theorem dX8_keep_30 : decode cX8_keep 30 = .ok (.invokespecial 9, 3) := by decide +kernel
theorem dX8_keep_33 : decode cX8_keep 33 = .ok (.astore_n 2, 1) := by decide +kernel
theorem dX8_keep_34 : decode cX8_keep 34 = .ok (.aload_n 0, 1) := by decide +kernel
theorem dX8_keep_35 : decode cX8_keep 35 = .ok (.getfield 23, 3) := by decide +kernel
theorem dX8_keep_38 : decode cX8_keep 38 = .ok (.iload_n 1, 1) := by decide +kernel
theorem dX8_keep_39 : decode cX8_keep 39 = .ok (.aload_n 2, 1) := by decide +kernel
theorem dX8_keep_40 : decode cX8_keep 40 = .ok (.aastore, 1) := by decide +kernel
theorem dX8_keep_41 : decode cX8_keep 41 = .ok (.aload_n 2, 1) := by decide +kernel
theorem dX8_keep_42 : decode cX8_keep 42 = .ok (.aload_n 0, 1) := by decide +kernel
theorem dX8_keep_43 : decode cX8_keep 43 = .ok (.getfield 10, 3) := by decide +kernel
theorem dX8_keep_46 : decode cX8_keep 46 = .ok (.invokevirtual 234, 3) := by decide +kernel
theorem dX8_keep_49 : decode cX8_keep 49 = .ok (.aload_n 0, 1) := by decide +kernel
theorem dX8_keep_50 : decode cX8_keep 50 = .ok (.getfield 10, 3) := by decide +kernel
theorem dX8_keep_53 : decode cX8_keep 53 = .ok (.getfield 78, 3) := by decide +kernel
theorem dX8_keep_56 : decode cX8_keep 56 = .ok (.getfield 82, 3) := by decide +kernel
theorem dX8_keep_59 : decode cX8_keep 59 = .ok (.ireturn, 1) := by decide +kernel
theorem dX8_back_0 : decode cX8_back 0 = .ok (.iload_n 1, 1) := by decide +kernel
theorem dX8_back_1 : decode cX8_back 1 = .ok (.ifCond .lt 12, 3) := by decide +kernel
theorem dX8_back_4 : decode cX8_back 4 = .ok (.iload_n 1, 1) := by decide +kernel
theorem dX8_back_5 : decode cX8_back 5 = .ok (.aload_n 0, 1) := by decide +kernel
theorem dX8_back_6 : decode cX8_back 6 = .ok (.getfield 23, 3) := by decide +kernel
theorem dX8_back_9 : decode cX8_back 9 = .ok (.arraylength, 1) := by decide +kernel
theorem dX8_back_10 : decode cX8_back 10 = .ok (.if_icmp .lt 5, 3) := by decide +kernel
theorem dX8_back_13 : decode cX8_back 13 = .ok (.iconst (-1), 1) := by decide +kernel
theorem dX8_back_14 : decode cX8_back 14 = .ok (.ireturn, 1) := by decide +kernel
theorem dX8_back_15 : decode cX8_back 15 = .ok (.aload_n 0, 1) := by decide +kernel
theorem dX8_back_16 : decode cX8_back 16 = .ok (.getfield 23, 3) := by decide +kernel
theorem dX8_back_19 : decode cX8_back 19 = .ok (.iload_n 1, 1) := by decide +kernel
theorem dX8_back_20 : decode cX8_back 20 = .ok (.aaload, 1) := by decide +kernel
theorem dX8_back_21 : decode cX8_back 21 = .ok (.astore_n 2, 1) := by decide +kernel
theorem dX8_back_22 : decode cX8_back 22 = .ok (.aload_n 2, 1) := by decide +kernel
theorem dX8_back_23 : decode cX8_back 23 = .ok (.ifnonnull 6, 3) := by decide +kernel
theorem dX8_back_26 : decode cX8_back 26 = .ok (.bipush (-2), 2) := by decide +kernel
theorem dX8_back_28 : decode cX8_back 28 = .ok (.ireturn, 1) := by decide +kernel
theorem dX8_back_29 : decode cX8_back 29 = .ok (.aload_n 0, 1) := by decide +kernel
theorem dX8_back_30 : decode cX8_back 30 = .ok (.getfield 10, 3) := by decide +kernel
theorem dX8_back_33 : decode cX8_back 33 = .ok (.aload_n 2, 1) := by decide +kernel
theorem dX8_back_34 : decode cX8_back 34 = .ok (.invokevirtual 234, 3) := by decide +kernel
theorem dX8_back_37 : decode cX8_back 37 = .ok (.aload_n 0, 1) := by decide +kernel
theorem dX8_back_38 : decode cX8_back 38 = .ok (.getfield 19, 3) := by decide +kernel
theorem dX8_back_41 : decode cX8_back 41 = .ok (.iconst 0, 1) := by decide +kernel
theorem dX8_back_42 : decode cX8_back 42 = .ok (.putfield 225, 3) := by decide +kernel
theorem dX8_back_45 : decode cX8_back 45 = .ok (.aload_n 0, 1) := by decide +kernel
theorem dX8_back_46 : decode cX8_back 46 = .ok (.getfield 10, 3) := by decide +kernel
theorem dX8_back_49 : decode cX8_back 49 = .ok (.getfield 78, 3) := by decide +kernel
theorem dX8_back_52 : decode cX8_back 52 = .ok (.getfield 82, 3) := by decide +kernel
theorem dX8_back_55 : decode cX8_back 55 = .ok (.ireturn, 1) := by decide +kernel
theorem dX8_count_0 : decode cX8_count 0 = .ok (.iload_n 1, 1) := by decide +kernel
theorem dX8_count_1 : decode cX8_count 1 = .ok (.tableswitch 105 0 6 #[43, 51, 59, 70, 81, 92, 97], 43) := by decide +kernel
theorem dX8_count_44 : decode cX8_count 44 = .ok (.aload_n 0, 1) := by decide +kernel
theorem dX8_count_45 : decode cX8_count 45 = .ok (.getfield 10, 3) := by decide +kernel
theorem dX8_count_48 : decode cX8_count 48 = .ok (.getfield 43, 3) := by decide +kernel
theorem dX8_count_51 : decode cX8_count 51 = .ok (.ireturn, 1) := by decide +kernel
theorem dX8_count_52 : decode cX8_count 52 = .ok (.aload_n 0, 1) := by decide +kernel
theorem dX8_count_53 : decode cX8_count 53 = .ok (.getfield 10, 3) := by decide +kernel
theorem dX8_count_56 : decode cX8_count 56 = .ok (.invokevirtual 197, 3) := by decide +kernel
theorem dX8_count_59 : decode cX8_count 59 = .ok (.ireturn, 1) := by decide +kernel
theorem dX8_count_60 : decode cX8_count 60 = .ok (.aload_n 0, 1) := by decide +kernel
theorem dX8_count_61 : decode cX8_count 61 = .ok (.getfield 10, 3) := by decide +kernel
theorem dX8_count_64 : decode cX8_count 64 = .ok (.getfield 78, 3) := by decide +kernel
theorem dX8_count_67 : decode cX8_count 67 = .ok (.getfield 82, 3) := by decide +kernel
theorem dX8_count_70 : decode cX8_count 70 = .ok (.ireturn, 1) := by decide +kernel
theorem dX8_count_71 : decode cX8_count 71 = .ok (.aload_n 0, 1) := by decide +kernel
theorem dX8_count_72 : decode cX8_count 72 = .ok (.getfield 10, 3) := by decide +kernel
theorem dX8_count_75 : decode cX8_count 75 = .ok (.getfield 78, 3) := by decide +kernel
theorem dX8_count_78 : decode cX8_count 78 = .ok (.invokevirtual 89, 3) := by decide +kernel
theorem dX8_count_81 : decode cX8_count 81 = .ok (.ireturn, 1) := by decide +kernel
theorem dX8_count_82 : decode cX8_count 82 = .ok (.aload_n 0, 1) := by decide +kernel
theorem dX8_count_83 : decode cX8_count 83 = .ok (.getfield 10, 3) := by decide +kernel
theorem dX8_count_86 : decode cX8_count 86 = .ok (.getfield 78, 3) := by decide +kernel
theorem dX8_count_89 : decode cX8_count 89 = .ok (.getfield 93, 3) := by decide +kernel
theorem dX8_count_92 : decode cX8_count 92 = .ok (.ireturn, 1) := by decide +kernel
theorem dX8_count_93 : decode cX8_count 93 = .ok (.aload_n 0, 1) := by decide +kernel
theorem dX8_count_94 : decode cX8_count 94 = .ok (.getfield 228, 3) := by decide +kernel
theorem dX8_count_97 : decode cX8_count 97 = .ok (.ireturn, 1) := by decide +kernel
theorem dX8_count_98 : decode cX8_count 98 = .ok (.aload_n 0, 1) := by decide +kernel
theorem dX8_count_99 : decode cX8_count 99 = .ok (.getfield 19, 3) := by decide +kernel
theorem dX8_count_102 : decode cX8_count 102 = .ok (.getfield 225, 3) := by decide +kernel
theorem dX8_count_105 : decode cX8_count 105 = .ok (.ireturn, 1) := by decide +kernel
theorem dX8_count_106 : decode cX8_count 106 = .ok (.iconst (-1), 1) := by decide +kernel
theorem dX8_count_107 : decode cX8_count 107 = .ok (.ireturn, 1) := by decide +kernel
theorem dX8_isFrame_0 : decode cX8_isFrame 0 = .ok (.iload_n 1, 1) := by decide +kernel
theorem dX8_isFrame_1 : decode cX8_isFrame 1 = .ok (.ifCond .lt 18, 3) := by decide +kernel
theorem dX8_isFrame_4 : decode cX8_isFrame 4 = .ok (.iload_n 1, 1) := by decide +kernel
theorem dX8_isFrame_5 : decode cX8_isFrame 5 = .ok (.aload_n 0, 1) := by decide +kernel
theorem dX8_isFrame_6 : decode cX8_isFrame 6 = .ok (.getfield 10, 3) := by decide +kernel
theorem dX8_isFrame_9 : decode cX8_isFrame 9 = .ok (.invokevirtual 197, 3) := by decide +kernel
theorem dX8_isFrame_12 : decode cX8_isFrame 12 = .ok (.if_icmp .ge 7, 3) := by decide +kernel
theorem dX8_isFrame_15 : decode cX8_isFrame 15 = .ok (.iconst 1, 1) := by decide +kernel
theorem dX8_isFrame_16 : decode cX8_isFrame 16 = .ok (.goto 4, 3) := by decide +kernel
theorem dX8_isFrame_19 : decode cX8_isFrame 19 = .ok (.iconst 0, 1) := by decide +kernel
theorem dX8_isFrame_20 : decode cX8_isFrame 20 = .ok (.ireturn, 1) := by decide +kernel
theorem dX8_isNumber_0 : decode cX8_isNumber 0 = .ok (.iload_n 0, 1) := by decide +kernel
theorem dX8_isNumber_1 : decode cX8_isNumber 1 = .ok (.ifCond .lt 13, 3) := by decide +kernel
theorem dX8_isNumber_4 : decode cX8_isNumber 4 = .ok (.iload_n 0, 1) := by decide +kernel
theorem dX8_isNumber_5 : decode cX8_isNumber 5 = .ok (.ldc 236, 2) := by decide +kernel
theorem dX8_isNumber_7 : decode cX8_isNumber 7 = .ok (.if_icmp .gt 7, 3) := by decide +kernel
theorem dX8_isNumber_10 : decode cX8_isNumber 10 = .ok (.iconst 1, 1) := by decide +kernel
theorem dX8_isNumber_11 : decode cX8_isNumber 11 = .ok (.goto 4, 3) := by decide +kernel
theorem dX8_isNumber_14 : decode cX8_isNumber 14 = .ok (.iconst 0, 1) := by decide +kernel
theorem dX8_isNumber_15 : decode cX8_isNumber 15 = .ok (.ireturn, 1) := by decide +kernel
theorem dX8_agrees_0 : decode cX8_agrees 0 = .ok (.iconst 0, 1) := by decide +kernel
theorem dX8_agrees_1 : decode cX8_agrees 1 = .ok (.istore_n 2, 1) := by decide +kernel
theorem dX8_agrees_2 : decode cX8_agrees 2 = .ok (.iload_n 2, 1) := by decide +kernel
theorem dX8_agrees_3 : decode cX8_agrees 3 = .ok (.aload_n 0, 1) := by decide +kernel
theorem dX8_agrees_4 : decode cX8_agrees 4 = .ok (.getfield 228, 3) := by decide +kernel
theorem dX8_agrees_7 : decode cX8_agrees 7 = .ok (.if_icmp .ge 36, 3) := by decide +kernel
theorem dX8_agrees_10 : decode cX8_agrees 10 = .ok (.iload_n 2, 1) := by decide +kernel
theorem dX8_agrees_11 : decode cX8_agrees 11 = .ok (.bipush 6, 2) := by decide +kernel
theorem dX8_agrees_13 : decode cX8_agrees 13 = .ok (.if_icmp .ge 30, 3) := by decide +kernel
theorem dX8_agrees_16 : decode cX8_agrees 16 = .ok (.iload_n 1, 1) := by decide +kernel
theorem dX8_agrees_17 : decode cX8_agrees 17 = .ok (.aload_n 0, 1) := by decide +kernel
theorem dX8_agrees_18 : decode cX8_agrees 18 = .ok (.getfield 34, 3) := by decide +kernel
theorem dX8_agrees_21 : decode cX8_agrees 21 = .ok (.iload_n 2, 1) := by decide +kernel
theorem dX8_agrees_22 : decode cX8_agrees 22 = .ok (.iaload, 1) := by decide +kernel
theorem dX8_agrees_23 : decode cX8_agrees 23 = .ok (.invokestatic 66, 3) := by decide +kernel
theorem dX8_agrees_26 : decode cX8_agrees 26 = .ok (.aload_n 0, 1) := by decide +kernel
theorem dX8_agrees_27 : decode cX8_agrees 27 = .ok (.getfield 38, 3) := by decide +kernel
theorem dX8_agrees_30 : decode cX8_agrees 30 = .ok (.iload_n 2, 1) := by decide +kernel
theorem dX8_agrees_31 : decode cX8_agrees 31 = .ok (.iaload, 1) := by decide +kernel
theorem dX8_agrees_32 : decode cX8_agrees 32 = .ok (.if_icmp .eq 5, 3) := by decide +kernel
theorem dX8_agrees_35 : decode cX8_agrees 35 = .ok (.iconst 0, 1) := by decide +kernel
theorem dX8_agrees_36 : decode cX8_agrees 36 = .ok (.ireturn, 1) := by decide +kernel
theorem dX8_agrees_37 : decode cX8_agrees 37 = .ok (.iinc 2 1, 3) := by decide +kernel
theorem dX8_agrees_40 : decode cX8_agrees 40 = .ok (.goto (-38), 3) := by decide +kernel
theorem dX8_agrees_43 : decode cX8_agrees 43 = .ok (.iconst 1, 1) := by decide +kernel
theorem dX8_agrees_44 : decode cX8_agrees 44 = .ok (.ireturn, 1) := by decide +kernel
