theorem dX0_init_0 : decode cX0_init 0 = .ok (.aload_n 0, 1) := by decide +kernel
theorem dX0_init_1 : decode cX0_init 1 = .ok (.invokespecial 1, 3) := by decide +kernel
theorem dX0_init_4 : decode cX0_init 4 = .ok (.aload_n 0, 1) := by decide +kernel
theorem dX0_init_5 : decode cX0_init 5 = .ok (.iconst 0, 1) := by decide +kernel
theorem dX0_init_6 : decode cX0_init 6 = .ok (.putfield 7, 3) := by decide +kernel
theorem dX0_init_9 : decode cX0_init 9 = .ok (.aload_n 0, 1) := by decide +kernel
theorem dX0_init_10 : decode cX0_init 10 = .ok (.iconst 1, 1) := by decide +kernel
theorem dX0_init_11 : decode cX0_init 11 = .ok (.putfield 13, 3) := by decide +kernel
theorem dX0_init_14 : decode cX0_init 14 = .ok (.return_, 1) := by decide +kernel
theorem dX0_assign_0 : decode cX0_assign 0 = .ok (.iload_n 1, 1) := by decide +kernel
theorem dX0_assign_1 : decode cX0_assign 1 = .ok (.iload_n 2, 1) := by decide +kernel
theorem dX0_assign_2 : decode cX0_assign 2 = .ok (.invokestatic 16, 3) := by decide +kernel
theorem dX0_assign_5 : decode cX0_assign 5 = .ok (.istore_n 3, 1) := by decide +kernel
theorem dX0_assign_6 : decode cX0_assign 6 = .ok (.iload_n 3, 1) := by decide +kernel
theorem dX0_assign_7 : decode cX0_assign 7 = .ok (.iconst 1, 1) := by decide +kernel
theorem dX0_assign_8 : decode cX0_assign 8 = .ok (.if_icmp .ge 4, 3) := by decide +kernel
theorem dX0_assign_11 : decode cX0_assign 11 = .ok (.return_, 1) := by decide +kernel
theorem dX0_assign_12 : decode cX0_assign 12 = .ok (.aload_n 0, 1) := by decide +kernel
theorem dX0_assign_13 : decode cX0_assign 13 = .ok (.iload_n 1, 1) := by decide +kernel
theorem dX0_assign_14 : decode cX0_assign 14 = .ok (.iload_n 3, 1) := by decide +kernel
theorem dX0_assign_15 : decode cX0_assign 15 = .ok (.idiv, 1) := by decide +kernel
theorem dX0_assign_16 : decode cX0_assign 16 = .ok (.putfield 7, 3) := by decide +kernel
theorem dX0_assign_19 : decode cX0_assign 19 = .ok (.aload_n 0, 1) := by decide +kernel
theorem dX0_assign_20 : decode cX0_assign 20 = .ok (.iload_n 2, 1) := by decide +kernel
theorem dX0_assign_21 : decode cX0_assign 21 = .ok (.iload_n 3, 1) := by decide +kernel
theorem dX0_assign_22 : decode cX0_assign 22 = .ok (.idiv, 1) := by decide +kernel
theorem dX0_assign_23 : decode cX0_assign 23 = .ok (.putfield 13, 3) := by decide +kernel
theorem dX0_assign_26 : decode cX0_assign 26 = .ok (.return_, 1) := by decide +kernel
theorem dX0_isBelow_0 : decode cX0_isBelow 0 = .ok (.aload_n 0, 1) := by decide +kernel
theorem dX0_isBelow_1 : decode cX0_isBelow 1 = .ok (.getfield 7, 3) := by decide +kernel
theorem dX0_isBelow_4 : decode cX0_isBelow 4 = .ok (.i2l, 1) := by decide +kernel
theorem dX0_isBelow_5 : decode cX0_isBelow 5 = .ok (.iload_n 2, 1) := by decide +kernel
theorem dX0_isBelow_6 : decode cX0_isBelow 6 = .ok (.i2l, 1) := by decide +kernel
theorem dX0_isBelow_7 : decode cX0_isBelow 7 = .ok (.lmul, 1) := by decide +kernel
theorem dX0_isBelow_8 : decode cX0_isBelow 8 = .ok (.iload_n 1, 1) := by decide +kernel
theorem dX0_isBelow_9 : decode cX0_isBelow 9 = .ok (.i2l, 1) := by decide +kernel
theorem dX0_isBelow_10 : decode cX0_isBelow 10 = .ok (.aload_n 0, 1) := by decide +kernel
theorem dX0_isBelow_11 : decode cX0_isBelow 11 = .ok (.getfield 13, 3) := by decide +kernel
theorem dX0_isBelow_14 : decode cX0_isBelow 14 = .ok (.i2l, 1) := by decide +kernel
theorem dX0_isBelow_15 : decode cX0_isBelow 15 = .ok (.lmul, 1) := by decide +kernel
theorem dX0_isBelow_16 : decode cX0_isBelow 16 = .ok (.lcmp, 1) := by decide +kernel
theorem dX0_isBelow_17 : decode cX0_isBelow 17 = .ok (.ifCond .ge 7, 3) := by decide +kernel
theorem dX0_isBelow_20 : decode cX0_isBelow 20 = .ok (.iconst 1, 1) := by decide +kernel
theorem dX0_isBelow_21 : decode cX0_isBelow 21 = .ok (.goto 4, 3) := by decide +kernel
theorem dX0_isBelow_24 : decode cX0_isBelow 24 = .ok (.iconst 0, 1) := by decide +kernel
theorem dX0_isBelow_25 : decode cX0_isBelow 25 = .ok (.ireturn, 1) := by decide +kernel
theorem dX0_part_0 : decode cX0_part 0 = .ok (.iload_n 1, 1) := by decide +kernel
theorem dX0_part_1 : decode cX0_part 1 = .ok (.ifCond .ne 10, 3) := by decide +kernel
theorem dX0_part_4 : decode cX0_part 4 = .ok (.aload_n 0, 1) := by decide +kernel
theorem dX0_part_5 : decode cX0_part 5 = .ok (.getfield 7, 3) := by decide +kernel
theorem dX0_part_8 : decode cX0_part 8 = .ok (.goto 7, 3) := by decide +kernel
theorem dX0_part_11 : decode cX0_part 11 = .ok (.aload_n 0, 1) := by decide +kernel
theorem dX0_part_12 : decode cX0_part 12 = .ok (.getfield 13, 3) := by decide +kernel
theorem dX0_part_15 : decode cX0_part 15 = .ok (.ireturn, 1) := by decide +kernel
theorem dX0_commonDivisor_0 : decode cX0_commonDivisor 0 = .ok (.iload_n 0, 1) := by decide +kernel
theorem dX0_commonDivisor_1 : decode cX0_commonDivisor 1 = .ok (.istore_n 2, 1) := by decide +kernel
theorem dX0_commonDivisor_2 : decode cX0_commonDivisor 2 = .ok (.iload_n 1, 1) := by decide +kernel
theorem dX0_commonDivisor_3 : decode cX0_commonDivisor 3 = .ok (.istore_n 3, 1) := by decide +kernel
theorem dX0_commonDivisor_4 : decode cX0_commonDivisor 4 = .ok (.iconst 0, 1) := by decide +kernel
theorem dX0_commonDivisor_5 : decode cX0_commonDivisor 5 = .ok (.istore 4, 2) := by decide +kernel
theorem dX0_commonDivisor_7 : decode cX0_commonDivisor 7 = .ok (.iload 4, 2) := by decide +kernel
theorem dX0_commonDivisor_9 : decode cX0_commonDivisor 9 = .ok (.bipush 64, 2) := by decide +kernel
theorem dX0_commonDivisor_11 : decode cX0_commonDivisor 11 = .ok (.if_icmp .ge 23, 3) := by decide +kernel
theorem dX0_commonDivisor_14 : decode cX0_commonDivisor 14 = .ok (.iload_n 3, 1) := by decide +kernel
theorem dX0_commonDivisor_15 : decode cX0_commonDivisor 15 = .ok (.ifCond .eq 19, 3) := by decide +kernel
theorem dX0_commonDivisor_18 : decode cX0_commonDivisor 18 = .ok (.iload_n 2, 1) := by decide +kernel
theorem dX0_commonDivisor_19 : decode cX0_commonDivisor 19 = .ok (.iload_n 3, 1) := by decide +kernel
theorem dX0_commonDivisor_20 : decode cX0_commonDivisor 20 = .ok (.irem, 1) := by decide +kernel
theorem dX0_commonDivisor_21 : decode cX0_commonDivisor 21 = .ok (.istore 5, 2) := by decide +kernel
theorem dX0_commonDivisor_23 : decode cX0_commonDivisor 23 = .ok (.iload_n 3, 1) := by decide +kernel
theorem dX0_commonDivisor_24 : decode cX0_commonDivisor 24 = .ok (.istore_n 2, 1) := by decide +kernel
theorem dX0_commonDivisor_25 : decode cX0_commonDivisor 25 = .ok (.iload 5, 2) := by decide +kernel
theorem dX0_commonDivisor_27 : decode cX0_commonDivisor 27 = .ok (.istore_n 3, 1) := by decide +kernel
theorem dX0_commonDivisor_28 : decode cX0_commonDivisor 28 = .ok (.iinc 4 1, 3) := by decide +kernel
theorem dX0_commonDivisor_31 : decode cX0_commonDivisor 31 = .ok (.goto (-24), 3) := by decide +kernel
theorem dX0_commonDivisor_34 : decode cX0_commonDivisor 34 = .ok (.iload_n 2, 1) := by decide +kernel
theorem dX0_commonDivisor_35 : decode cX0_commonDivisor 35 = .ok (.ireturn, 1) := by decide +kernel
theorem dX1_init_0 : decode cX1_init 0 = .ok (.aload_n 0, 1) := by decide +kernel
theorem dX1_init_1 : decode cX1_init 1 = .ok (.invokespecial 3, 3) := by decide +kernel
theorem dX1_init_4 : decode cX1_init 4 = .ok (.aload_n 0, 1) := by decide +kernel
theorem dX1_init_5 : decode cX1_init 5 = .ok (.new 9, 3) := by decide +kernel
theorem dX1_init_8 : decode cX1_init 8 = .ok (.dup, 1) := by decide +kernel
theorem dX1_init_9 : decode cX1_init 9 = .ok (.bipush 10, 2) := by decide +kernel
theorem dX1_init_11 : decode cX1_init 11 = .ok (.invokespecial 11, 3) := by decide +kernel
theorem dX1_init_14 : decode cX1_init 14 = .ok (.putfield 14, 3) := by decide +kernel
theorem dX1_init_17 : decode cX1_init 17 = .ok (.aload_n 0, 1) := by decide +kernel
theorem dX1_init_18 : decode cX1_init 18 = .ok (.iconst 0, 1) := by decide +kernel
theorem dX1_init_19 : decode cX1_init 19 = .ok (.putfield 20, 3) := by decide +kernel
theorem dX1_init_22 : decode cX1_init 22 = .ok (.aload_n 0, 1) := by decide +kernel
theorem dX1_init_23 : decode cX1_init 23 = .ok (.iconst 0, 1) := by decide +kernel
theorem dX1_init_24 : decode cX1_init 24 = .ok (.putfield 24, 3) := by decide +kernel
theorem dX1_init_27 : decode cX1_init 27 = .ok (.return_, 1) := by decide +kernel
theorem dX1_wipe_0 : decode cX1_wipe 0 = .ok (.aload_n 0, 1) := by decide +kernel
theorem dX1_wipe_1 : decode cX1_wipe 1 = .ok (.iconst 0, 1) := by decide +kernel
theorem dX1_wipe_2 : decode cX1_wipe 2 = .ok (.putfield 24, 3) := by decide +kernel
theorem dX1_wipe_5 : decode cX1_wipe 5 = .ok (.return_, 1) := by decide +kernel
theorem dX1_push_0 : decode cX1_push 0 = .ok (.aload_n 0, 1) := by decide +kernel
theorem dX1_push_1 : decode cX1_push 1 = .ok (.getfield 14, 3) := by decide +kernel
theorem dX1_push_4 : decode cX1_push 4 = .ok (.aload_n 0, 1) := by decide +kernel
theorem dX1_push_5 : decode cX1_push 5 = .ok (.getfield 20, 3) := by decide +kernel
theorem dX1_push_8 : decode cX1_push 8 = .ok (.aload_n 1, 1) := by decide +kernel
theorem dX1_push_9 : decode cX1_push 9 = .ok (.invokevirtual 27, 3) := by decide +kernel
theorem dX1_push_12 : decode cX1_push 12 = .ok (.aload_n 0, 1) := by decide +kernel
theorem dX1_push_13 : decode cX1_push 13 = .ok (.aload_n 0, 1) := by decide +kernel
theorem dX1_push_14 : decode cX1_push 14 = .ok (.getfield 20, 3) := by decide +kernel
theorem dX1_push_17 : decode cX1_push 17 = .ok (.iconst 1, 1) := by decide +kernel
theorem dX1_push_18 : decode cX1_push 18 = .ok (.iadd, 1) := by decide +kernel
theorem dX1_push_19 : decode cX1_push 19 = .ok (.bipush 10, 2) := by decide +kernel
theorem dX1_push_21 : decode cX1_push 21 = .ok (.if_icmp .ge 12, 3) := by decide +kernel
theorem dX1_push_24 : decode cX1_push 24 = .ok (.aload_n 0, 1) := by decide +kernel
theorem dX1_push_25 : decode cX1_push 25 = .ok (.getfield 20, 3) := by decide +kernel
theorem dX1_push_28 : decode cX1_push 28 = .ok (.iconst 1, 1) := by decide +kernel
theorem dX1_push_29 : decode cX1_push 29 = .ok (.iadd, 1) := by decide +kernel
theorem dX1_push_30 : decode cX1_push 30 = .ok (.goto 4, 3) := by decide +kernel
theorem dX1_push_33 : decode cX1_push 33 = .ok (.iconst 0, 1) := by decide +kernel
theorem dX1_push_34 : decode cX1_push 34 = .ok (.putfield 20, 3) := by decide +kernel
theorem dX1_push_37 : decode cX1_push 37 = .ok (.aload_n 0, 1) := by decide +kernel
theorem dX1_push_38 : decode cX1_push 38 = .ok (.aload_n 0, 1) := by decide +kernel
theorem dX1_push_39 : decode cX1_push 39 = .ok (.getfield 24, 3) := by decide +kernel
theorem dX1_push_42 : decode cX1_push 42 = .ok (.iconst 1, 1) := by decide +kernel
theorem dX1_push_43 : decode cX1_push 43 = .ok (.iadd, 1) := by decide +kernel
theorem dX1_push_44 : decode cX1_push 44 = .ok (.bipush 10, 2) := by decide +kernel
theorem dX1_push_46 : decode cX1_push 46 = .ok (.invokestatic 31, 3) := by decide +kernel
theorem dX1_push_49 : decode cX1_push 49 = .ok (.putfield 24, 3) := by decide +kernel
theorem dX1_push_52 : decode cX1_push 52 = .ok (.return_, 1) := by decide +kernel
theorem dX1_pop_0 : decode cX1_pop 0 = .ok (.aload_n 0, 1) := by decide +kernel
theorem dX1_pop_1 : decode cX1_pop 1 = .ok (.getfield 24, 3) := by decide +kernel
theorem dX1_pop_4 : decode cX1_pop 4 = .ok (.ifCond .ne 4, 3) := by decide +kernel
theorem dX1_pop_7 : decode cX1_pop 7 = .ok (.return_, 1) := by decide +kernel
theorem dX1_pop_8 : decode cX1_pop 8 = .ok (.aload_n 0, 1) := by decide +kernel
theorem dX1_pop_9 : decode cX1_pop 9 = .ok (.aload_n 0, 1) := by decide +kernel
theorem dX1_pop_10 : decode cX1_pop 10 = .ok (.getfield 20, 3) := by decide +kernel
theorem dX1_pop_13 : decode cX1_pop 13 = .ok (.ifCond .le 12, 3) := by decide +kernel
theorem dX1_pop_16 : decode cX1_pop 16 = .ok (.aload_n 0, 1) := by decide +kernel
theorem dX1_pop_17 : decode cX1_pop 17 = .ok (.getfield 20, 3) := by decide +kernel
theorem dX1_pop_20 : decode cX1_pop 20 = .ok (.iconst 1, 1) := by decide +kernel
theorem dX1_pop_21 : decode cX1_pop 21 = .ok (.isub, 1) := by decide +kernel
theorem dX1_pop_22 : decode cX1_pop 22 = .ok (.goto 5, 3) := by decide +kernel
theorem dX1_pop_25 : decode cX1_pop 25 = .ok (.bipush 9, 2) := by decide +kernel
theorem dX1_pop_27 : decode cX1_pop 27 = .ok (.putfield 20, 3) := by decide +kernel
theorem dX1_pop_30 : decode cX1_pop 30 = .ok (.aload_n 0, 1) := by decide +kernel
theorem dX1_pop_31 : decode cX1_pop 31 = .ok (.dup, 1) := by decide +kernel
theorem dX1_pop_32 : decode cX1_pop 32 = .ok (.getfield 24, 3) := by decide +kernel
theorem dX1_pop_35 : decode cX1_pop 35 = .ok (.iconst 1, 1) := by decide +kernel
theorem dX1_pop_36 : decode cX1_pop 36 = .ok (.isub, 1) := by decide +kernel
theorem dX1_pop_37 : decode cX1_pop 37 = .ok (.putfield 24, 3) := by decide +kernel
theorem dX1_pop_40 : decode cX1_pop 40 = .ok (.aload_n 0, 1) := by decide +kernel
theorem dX1_pop_41 : decode cX1_pop 41 = .ok (.getfield 14, 3) := by decide +kernel
theorem dX1_pop_44 : decode cX1_pop 44 = .ok (.aload_n 0, 1) := by decide +kernel
theorem dX1_pop_45 : decode cX1_pop 45 = .ok (.getfield 20, 3) := by decide +kernel
theorem dX1_pop_48 : decode cX1_pop 48 = .ok (.aload_n 1, 1) := by decide +kernel
theorem dX1_pop_49 : decode cX1_pop 49 = .ok (.invokevirtual 37, 3) := by decide +kernel
theorem dX1_pop_52 : decode cX1_pop 52 = .ok (.return_, 1) := by decide +kernel
theorem dX2_init_0 : decode cX2_init 0 = .ok (.aload_n 0, 1) := by decide +kernel
theorem dX2_init_1 : decode cX2_init 1 = .ok (.invokespecial 3, 3) := by decide +kernel
theorem dX2_init_4 : decode cX2_init 4 = .ok (.aload_n 0, 1) := by decide +kernel
theorem dX2_init_5 : decode cX2_init 5 = .ok (.aload_n 1, 1) := by decide +kernel
theorem dX2_init_6 : decode cX2_init 6 = .ok (.putfield 9, 3) := by decide +kernel
theorem dX2_init_9 : decode cX2_init 9 = .ok (.aload_n 0, 1) := by decide +kernel
theorem dX2_init_10 : decode cX2_init 10 = .ok (.bipush 14, 2) := by decide +kernel
theorem dX2_init_12 : decode cX2_init 12 = .ok (.newarray .int, 2) := by decide +kernel
theorem dX2_init_14 : decode cX2_init 14 = .ok (.putfield 15, 3) := by decide +kernel
theorem dX2_init_17 : decode cX2_init 17 = .ok (.aload_n 0, 1) := by decide +kernel
theorem dX2_init_18 : decode cX2_init 18 = .ok (.sipush 196, 3) := by decide +kernel
theorem dX2_init_21 : decode cX2_init 21 = .ok (.newarray .int, 2) := by decide +kernel
theorem dX2_init_23 : decode cX2_init 23 = .ok (.putfield 19, 3) := by decide +kernel
theorem dX2_init_26 : decode cX2_init 26 = .ok (.aload_n 0, 1) := by decide +kernel
theorem dX2_init_27 : decode cX2_init 27 = .ok (.iconst 0, 1) := by decide +kernel
theorem dX2_init_28 : decode cX2_init 28 = .ok (.putfield 22, 3) := by decide +kernel
theorem dX2_init_31 : decode cX2_init 31 = .ok (.return_, 1) := by decide +kernel
theorem dX2_measureAll_0 : decode cX2_measureAll 0 = .ok (.aload_n 0, 1) := by decide +kernel
theorem dX2_measureAll_1 : decode cX2_measureAll 1 = .ok (.iconst 0, 1) := by decide +kernel
theorem dX2_measureAll_2 : decode cX2_measureAll 2 = .ok (.putfield 22, 3) := by decide +kernel
theorem dX2_measureAll_5 : decode cX2_measureAll 5 = .ok (.iconst 0, 1) := by decide +kernel
theorem dX2_measureAll_6 : decode cX2_measureAll 6 = .ok (.istore_n 1, 1) := by decide +kernel
theorem dX2_measureAll_7 : decode cX2_measureAll 7 = .ok (.iload_n 1, 1) := by decide +kernel
theorem dX2_measureAll_8 : decode cX2_measureAll 8 = .ok (.aload_n 0, 1) := by decide +kernel
theorem dX2_measureAll_9 : decode cX2_measureAll 9 = .ok (.getfield 9, 3) := by decide +kernel
theorem dX2_measureAll_12 : decode cX2_measureAll 12 = .ok (.getfield 26, 3) := by decide +kernel
theorem dX2_measureAll_15 : decode cX2_measureAll 15 = .ok (.if_icmp .ge 69, 3) := by decide +kernel
theorem dX2_measureAll_18 : decode cX2_measureAll 18 = .ok (.iload_n 1, 1) := by decide +kernel
theorem dX2_measureAll_19 : decode cX2_measureAll 19 = .ok (.bipush 14, 2) := by decide +kernel
theorem dX2_measureAll_21 : decode cX2_measureAll 21 = .ok (.if_icmp .ge 63, 3) := by decide +kernel
theorem dX2_measureAll_24 : decode cX2_measureAll 24 = .ok (.aload_n 0, 1) := by decide +kernel
theorem dX2_measureAll_25 : decode cX2_measureAll 25 = .ok (.getfield 9, 3) := by decide +kernel
theorem dX2_measureAll_28 : decode cX2_measureAll 28 = .ok (.iload_n 1, 1) := by decide +kernel
theorem dX2_measureAll_29 : decode cX2_measureAll 29 = .ok (.invokevirtual 31, 3) := by decide +kernel
theorem dX2_measureAll_32 : decode cX2_measureAll 32 = .ok (.ifCond .eq 13, 3) := by decide +kernel
theorem dX2_measureAll_35 : decode cX2_measureAll 35 = .ok (.aload_n 0, 1) := by decide +kernel
theorem dX2_measureAll_36 : decode cX2_measureAll 36 = .ok (.dup, 1) := by decide +kernel
theorem dX2_measureAll_37 : decode cX2_measureAll 37 = .ok (.getfield 22, 3) := by decide +kernel
theorem dX2_measureAll_40 : decode cX2_measureAll 40 = .ok (.iconst 1, 1) := by decide +kernel
theorem dX2_measureAll_41 : decode cX2_measureAll 41 = .ok (.iadd, 1) := by decide +kernel
theorem dX2_measureAll_42 : decode cX2_measureAll 42 = .ok (.putfield 22, 3) := by decide +kernel
theorem dX2_measureAll_45 : decode cX2_measureAll 45 = .ok (.aload_n 0, 1) := by decide +kernel
theorem dX2_measureAll_46 : decode cX2_measureAll 46 = .ok (.getfield 15, 3) := by decide +kernel
theorem dX2_measureAll_49 : decode cX2_measureAll 49 = .ok (.iload_n 1, 1) := by decide +kernel
theorem dX2_measureAll_50 : decode cX2_measureAll 50 = .ok (.aload_n 0, 1) := by decide +kernel
theorem dX2_measureAll_51 : decode cX2_measureAll 51 = .ok (.getfield 9, 3) := by decide +kernel
theorem dX2_measureAll_54 : decode cX2_measureAll 54 = .ok (.iload_n 1, 1) := by decide +kernel
theorem dX2_measureAll_55 : decode cX2_measureAll 55 = .ok (.invokevirtual 35, 3) := by decide +kernel
theorem dX2_measureAll_58 : decode cX2_measureAll 58 = .ok (.ifCond .eq 12, 3) := by decide +kernel
theorem dX2_measureAll_61 : decode cX2_measureAll 61 = .ok (.aload_n 0, 1) := by decide +kernel
theorem dX2_measureAll_62 : decode cX2_measureAll 62 = .ok (.getfield 22, 3) := by decide +kernel
theorem dX2_measureAll_65 : decode cX2_measureAll 65 = .ok (.iconst 1, 1) := by decide +kernel
theorem dX2_measureAll_66 : decode cX2_measureAll 66 = .ok (.isub, 1) := by decide +kernel
theorem dX2_measureAll_67 : decode cX2_measureAll 67 = .ok (.goto 5, 3) := by decide +kernel
theorem dX2_measureAll_70 : decode cX2_measureAll 70 = .ok (.bipush (-9), 2) := by decide +kernel
theorem dX2_measureAll_72 : decode cX2_measureAll 72 = .ok (.iastore, 1) := by decide +kernel
theorem dX2_measureAll_73 : decode cX2_measureAll 73 = .ok (.aload_n 0, 1) := by decide +kernel
theorem dX2_measureAll_74 : decode cX2_measureAll 74 = .ok (.iload_n 1, 1) := by decide +kernel
theorem dX2_measureAll_75 : decode cX2_measureAll 75 = .ok (.invokevirtual 38, 3) := by decide +kernel
theorem dX2_measureAll_78 : decode cX2_measureAll 78 = .ok (.iinc 1 1, 3) := by decide +kernel
theorem dX2_measureAll_81 : decode cX2_measureAll 81 = .ok (.goto (-74), 3) := by decide +kernel
theorem dX2_measureAll_84 : decode cX2_measureAll 84 = .ok (.return_, 1) := by decide +kernel
theorem dX2_measureNeedsFrom_0 : decode cX2_measureNeedsFrom 0 = .ok (.aload_n 0, 1) := by decide +kernel
theorem dX2_measureNeedsFrom_1 : decode cX2_measureNeedsFrom 1 = .ok (.getfield 9, 3) := by decide +kernel
theorem dX2_measureNeedsFrom_4 : decode cX2_measureNeedsFrom 4 = .ok (.iload_n 1, 1) := by decide +kernel
theorem dX2_measureNeedsFrom_5 : decode cX2_measureNeedsFrom 5 = .ok (.invokevirtual 35, 3) := by decide +kernel
theorem dX2_measureNeedsFrom_8 : decode cX2_measureNeedsFrom 8 = .ok (.ifCond .ne 4, 3) := by decide +kernel
theorem dX2_measureNeedsFrom_11 : decode cX2_measureNeedsFrom 11 = .ok (.return_, 1) := by decide +kernel
theorem dX2_measureNeedsFrom_12 : decode cX2_measureNeedsFrom 12 = .ok (.iload_n 1, 1) := by decide +kernel
theorem dX2_measureNeedsFrom_13 : decode cX2_measureNeedsFrom 13 = .ok (.iconst 1, 1) := by decide +kernel
theorem dX2_measureNeedsFrom_14 : decode cX2_measureNeedsFrom 14 = .ok (.iadd, 1) := by decide +kernel
theorem dX2_measureNeedsFrom_15 : decode cX2_measureNeedsFrom 15 = .ok (.istore_n 2, 1) := by decide +kernel
theorem dX2_measureNeedsFrom_16 : decode cX2_measureNeedsFrom 16 = .ok (.iload_n 2, 1) := by decide +kernel
theorem dX2_measureNeedsFrom_17 : decode cX2_measureNeedsFrom 17 = .ok (.bipush 14, 2) := by decide +kernel
theorem dX2_measureNeedsFrom_19 : decode cX2_measureNeedsFrom 19 = .ok (.if_icmp .ge 88, 3) := by decide +kernel
theorem dX2_measureNeedsFrom_22 : decode cX2_measureNeedsFrom 22 = .ok (.aload_n 0, 1) := by decide +kernel
theorem dX2_measureNeedsFrom_23 : decode cX2_measureNeedsFrom 23 = .ok (.getfield 9, 3) := by decide +kernel
theorem dX2_measureNeedsFrom_26 : decode cX2_measureNeedsFrom 26 = .ok (.iload_n 2, 1) := by decide +kernel
theorem dX2_measureNeedsFrom_27 : decode cX2_measureNeedsFrom 27 = .ok (.invokevirtual 35, 3) := by decide +kernel
theorem dX2_measureNeedsFrom_30 : decode cX2_measureNeedsFrom 30 = .ok (.ifCond .eq 77, 3) := by decide +kernel
theorem dX2_measureNeedsFrom_33 : decode cX2_measureNeedsFrom 33 = .ok (.aload_n 0, 1) := by decide +kernel
theorem dX2_measureNeedsFrom_34 : decode cX2_measureNeedsFrom 34 = .ok (.iload_n 1, 1) := by decide +kernel
theorem dX2_measureNeedsFrom_35 : decode cX2_measureNeedsFrom 35 = .ok (.iload_n 2, 1) := by decide +kernel
theorem dX2_measureNeedsFrom_36 : decode cX2_measureNeedsFrom 36 = .ok (.invokevirtual 42, 3) := by decide +kernel
theorem dX2_measureNeedsFrom_39 : decode cX2_measureNeedsFrom 39 = .ok (.istore_n 3, 1) := by decide +kernel
theorem dX2_measureNeedsFrom_40 : decode cX2_measureNeedsFrom 40 = .ok (.aload_n 0, 1) := by decide +kernel
theorem dX2_measureNeedsFrom_41 : decode cX2_measureNeedsFrom 41 = .ok (.iload_n 1, 1) := by decide +kernel
theorem dX2_measureNeedsFrom_42 : decode cX2_measureNeedsFrom 42 = .ok (.iload_n 2, 1) := by decide +kernel
theorem dX2_measureNeedsFrom_43 : decode cX2_measureNeedsFrom 43 = .ok (.invokevirtual 46, 3) := by decide +kernel
theorem dX2_measureNeedsFrom_46 : decode cX2_measureNeedsFrom 46 = .ok (.istore 4, 2) := by decide +kernel
theorem dX2_measureNeedsFrom_48 : decode cX2_measureNeedsFrom 48 = .ok (.iload_n 3, 1) := by decide +kernel
theorem dX2_measureNeedsFrom_49 : decode cX2_measureNeedsFrom 49 = .ok (.bipush (-9), 2) := by decide +kernel
theorem dX2_measureNeedsFrom_51 : decode cX2_measureNeedsFrom 51 = .ok (.if_icmp .eq 12, 3) := by decide +kernel
theorem dX2_measureNeedsFrom_54 : decode cX2_measureNeedsFrom 54 = .ok (.iload 4, 2) := by decide +kernel
theorem dX2_measureNeedsFrom_56 : decode cX2_measureNeedsFrom 56 = .ok (.ifCond .le 7, 3) := by decide +kernel
theorem dX2_measureNeedsFrom_59 : decode cX2_measureNeedsFrom 59 = .ok (.iconst 1, 1) := by decide +kernel
theorem dX2_measureNeedsFrom_60 : decode cX2_measureNeedsFrom 60 = .ok (.goto 4, 3) := by decide +kernel
theorem dX2_measureNeedsFrom_63 : decode cX2_measureNeedsFrom 63 = .ok (.iconst 0, 1) := by decide +kernel
theorem dX2_measureNeedsFrom_64 : decode cX2_measureNeedsFrom 64 = .ok (.istore 5, 2) := by decide +kernel
theorem dX2_measureNeedsFrom_66 : decode cX2_measureNeedsFrom 66 = .ok (.aload_n 0, 1) := by decide +kernel
theorem dX2_measureNeedsFrom_67 : decode cX2_measureNeedsFrom 67 = .ok (.getfield 19, 3) := by decide +kernel
theorem dX2_measureNeedsFrom_70 : decode cX2_measureNeedsFrom 70 = .ok (.iload_n 1, 1) := by decide +kernel
theorem dX2_measureNeedsFrom_71 : decode cX2_measureNeedsFrom 71 = .ok (.bipush 14, 2) := by decide +kernel
theorem dX2_measureNeedsFrom_73 : decode cX2_measureNeedsFrom 73 = .ok (.imul, 1) := by decide +kernel
theorem dX2_measureNeedsFrom_74 : decode cX2_measureNeedsFrom 74 = .ok (.iload_n 2, 1) := by decide +kernel
theorem dX2_measureNeedsFrom_75 : decode cX2_measureNeedsFrom 75 = .ok (.iadd, 1) := by decide +kernel
theorem dX2_measureNeedsFrom_76 : decode cX2_measureNeedsFrom 76 = .ok (.iload 5, 2) := by decide +kernel
theorem dX2_measureNeedsFrom_78 : decode cX2_measureNeedsFrom 78 = .ok (.ifCond .eq 21, 3) := by decide +kernel
theorem dX2_measureNeedsFrom_81 : decode cX2_measureNeedsFrom 81 = .ok (.aload_n 0, 1) := by decide +kernel
theorem dX2_measureNeedsFrom_82 : decode cX2_measureNeedsFrom 82 = .ok (.iload_n 1, 1) := by decide +kernel
theorem dX2_measureNeedsFrom_83 : decode cX2_measureNeedsFrom 83 = .ok (.iload_n 3, 1) := by decide +kernel
theorem dX2_measureNeedsFrom_84 : decode cX2_measureNeedsFrom 84 = .ok (.iload_n 2, 1) := by decide +kernel
theorem dX2_measureNeedsFrom_85 : decode cX2_measureNeedsFrom 85 = .ok (.invokevirtual 49, 3) := by decide +kernel
theorem dX2_measureNeedsFrom_88 : decode cX2_measureNeedsFrom 88 = .ok (.iload 4, 2) := by decide +kernel
theorem dX2_measureNeedsFrom_90 : decode cX2_measureNeedsFrom 90 = .ok (.iadd, 1) := by decide +kernel
theorem dX2_measureNeedsFrom_91 : decode cX2_measureNeedsFrom 91 = .ok (.iconst 1, 1) := by decide +kernel
theorem dX2_measureNeedsFrom_92 : decode cX2_measureNeedsFrom 92 = .ok (.isub, 1) := by decide +kernel
theorem dX2_measureNeedsFrom_93 : decode cX2_measureNeedsFrom 93 = .ok (.iload 4, 2) := by decide +kernel
theorem dX2_measureNeedsFrom_95 : decode cX2_measureNeedsFrom 95 = .ok (.idiv, 1) := by decide +kernel
theorem dX2_measureNeedsFrom_96 : decode cX2_measureNeedsFrom 96 = .ok (.goto 4, 3) := by decide +kernel
theorem dX2_measureNeedsFrom_99 : decode cX2_measureNeedsFrom 99 = .ok (.iconst 0, 1) := by decide +kernel
theorem dX2_measureNeedsFrom_100 : decode cX2_measureNeedsFrom 100 = .ok (.iastore, 1) := by decide +kernel
theorem dX2_measureNeedsFrom_101 : decode cX2_measureNeedsFrom 101 = .ok (.iinc 2 1, 3) := by decide +kernel
theorem dX2_measureNeedsFrom_104 : decode cX2_measureNeedsFrom 104 = .ok (.goto (-88), 3) := by decide +kernel
theorem dX2_measureNeedsFrom_107 : decode cX2_measureNeedsFrom 107 = .ok (.return_, 1) := by decide +kernel
theorem dX2_stretchAt_0 : decode cX2_stretchAt 0 = .ok (.aload_n 0, 1) := by decide +kernel
theorem dX2_stretchAt_1 : decode cX2_stretchAt 1 = .ok (.getfield 9, 3) := by decide +kernel
theorem dX2_stretchAt_4 : decode cX2_stretchAt 4 = .ok (.iload_n 1, 1) := by decide +kernel
theorem dX2_stretchAt_5 : decode cX2_stretchAt 5 = .ok (.invokevirtual 53, 3) := by decide +kernel
theorem dX2_stretchAt_8 : decode cX2_stretchAt 8 = .ok (.ifCond .eq 18, 3) := by decide +kernel
theorem dX2_stretchAt_11 : decode cX2_stretchAt 11 = .ok (.iload_n 1, 1) := by decide +kernel
theorem dX2_stretchAt_12 : decode cX2_stretchAt 12 = .ok (.bipush 14, 2) := by decide +kernel
theorem dX2_stretchAt_14 : decode cX2_stretchAt 14 = .ok (.if_icmp .ge 12, 3) := by decide +kernel
theorem dX2_stretchAt_17 : decode cX2_stretchAt 17 = .ok (.aload_n 0, 1) := by decide +kernel
theorem dX2_stretchAt_18 : decode cX2_stretchAt 18 = .ok (.getfield 15, 3) := by decide +kernel
theorem dX2_stretchAt_21 : decode cX2_stretchAt 21 = .ok (.iload_n 1, 1) := by decide +kernel
theorem dX2_stretchAt_22 : decode cX2_stretchAt 22 = .ok (.iaload, 1) := by decide +kernel
theorem dX2_stretchAt_23 : decode cX2_stretchAt 23 = .ok (.goto 5, 3) := by decide +kernel
theorem dX2_stretchAt_26 : decode cX2_stretchAt 26 = .ok (.bipush (-9), 2) := by decide +kernel
theorem dX2_stretchAt_28 : decode cX2_stretchAt 28 = .ok (.ireturn, 1) := by decide +kernel
theorem dX2_needOf_0 : decode cX2_needOf 0 = .ok (.iload_n 1, 1) := by decide +kernel
theorem dX2_needOf_1 : decode cX2_needOf 1 = .ok (.ifCond .lt 18, 3) := by decide +kernel
theorem dX2_needOf_4 : decode cX2_needOf 4 = .ok (.iload_n 1, 1) := by decide +kernel
theorem dX2_needOf_5 : decode cX2_needOf 5 = .ok (.iload_n 2, 1) := by decide +kernel
theorem dX2_needOf_6 : decode cX2_needOf 6 = .ok (.if_icmp .ge 13, 3) := by decide +kernel
theorem dX2_needOf_9 : decode cX2_needOf 9 = .ok (.iload_n 2, 1) := by decide +kernel
theorem dX2_needOf_10 : decode cX2_needOf 10 = .ok (.bipush 14, 2) := by decide +kernel
theorem dX2_needOf_12 : decode cX2_needOf 12 = .ok (.if_icmp .ge 7, 3) := by decide +kernel
theorem dX2_needOf_15 : decode cX2_needOf 15 = .ok (.iconst 1, 1) := by decide +kernel
theorem dX2_needOf_16 : decode cX2_needOf 16 = .ok (.goto 4, 3) := by decide +kernel
theorem dX2_needOf_19 : decode cX2_needOf 19 = .ok (.iconst 0, 1) := by decide +kernel
theorem dX2_needOf_20 : decode cX2_needOf 20 = .ok (.istore_n 3, 1) := by decide +kernel
theorem dX2_needOf_21 : decode cX2_needOf 21 = .ok (.iload_n 3, 1) := by decide +kernel
theorem dX2_needOf_22 : decode cX2_needOf 22 = .ok (.ifCond .eq 17, 3) := by decide +kernel
theorem dX2_needOf_25 : decode cX2_needOf 25 = .ok (.aload_n 0, 1) := by decide +kernel
theorem dX2_needOf_26 : decode cX2_needOf 26 = .ok (.getfield 19, 3) := by decide +kernel
theorem dX2_needOf_29 : decode cX2_needOf 29 = .ok (.iload_n 1, 1) := by decide +kernel
theorem dX2_needOf_30 : decode cX2_needOf 30 = .ok (.bipush 14, 2) := by decide +kernel
theorem dX2_needOf_32 : decode cX2_needOf 32 = .ok (.imul, 1) := by decide +kernel
theorem dX2_needOf_33 : decode cX2_needOf 33 = .ok (.iload_n 2, 1) := by decide +kernel
theorem dX2_needOf_34 : decode cX2_needOf 34 = .ok (.iadd, 1) := by decide +kernel
theorem dX2_needOf_35 : decode cX2_needOf 35 = .ok (.iaload, 1) := by decide +kernel
theorem dX2_needOf_36 : decode cX2_needOf 36 = .ok (.goto 4, 3) := by decide +kernel
theorem dX2_needOf_39 : decode cX2_needOf 39 = .ok (.iconst 0, 1) := by decide +kernel
theorem dX2_needOf_40 : decode cX2_needOf 40 = .ok (.ireturn, 1) := by decide +kernel
theorem dX2_span_0 : decode cX2_span 0 = .ok (.aload_n 0, 1) := by decide +kernel
theorem dX2_span_1 : decode cX2_span 1 = .ok (.getfield 9, 3) := by decide +kernel
theorem dX2_span_4 : decode cX2_span 4 = .ok (.iload_n 2, 1) := by decide +kernel
theorem dX2_span_5 : decode cX2_span 5 = .ok (.invokevirtual 56, 3) := by decide +kernel
theorem dX2_span_8 : decode cX2_span 8 = .ok (.aload_n 0, 1) := by decide +kernel
theorem dX2_span_9 : decode cX2_span 9 = .ok (.getfield 9, 3) := by decide +kernel
theorem dX2_span_12 : decode cX2_span 12 = .ok (.iload_n 1, 1) := by decide +kernel
theorem dX2_span_13 : decode cX2_span 13 = .ok (.invokevirtual 56, 3) := by decide +kernel
theorem dX2_span_16 : decode cX2_span 16 = .ok (.isub, 1) := by decide +kernel
theorem dX2_span_17 : decode cX2_span 17 = .ok (.ireturn, 1) := by decide +kernel
theorem dX2_offset_0 : decode cX2_offset 0 = .ok (.aload_n 0, 1) := by decide +kernel
theorem dX2_offset_1 : decode cX2_offset 1 = .ok (.getfield 9, 3) := by decide +kernel
theorem dX2_offset_4 : decode cX2_offset 4 = .ok (.iload_n 1, 1) := by decide +kernel
theorem dX2_offset_5 : decode cX2_offset 5 = .ok (.invokevirtual 53, 3) := by decide +kernel
theorem dX2_offset_8 : decode cX2_offset 8 = .ok (.ifCond .eq 25, 3) := by decide +kernel
theorem dX2_offset_11 : decode cX2_offset 11 = .ok (.aload_n 0, 1) := by decide +kernel
theorem dX2_offset_12 : decode cX2_offset 12 = .ok (.getfield 9, 3) := by decide +kernel
theorem dX2_offset_15 : decode cX2_offset 15 = .ok (.iload_n 2, 1) := by decide +kernel
theorem dX2_offset_16 : decode cX2_offset 16 = .ok (.invokevirtual 53, 3) := by decide +kernel
theorem dX2_offset_19 : decode cX2_offset 19 = .ok (.ifCond .eq 14, 3) := by decide +kernel
theorem dX2_offset_22 : decode cX2_offset 22 = .ok (.aload_n 0, 1) := by decide +kernel
theorem dX2_offset_23 : decode cX2_offset 23 = .ok (.getfield 9, 3) := by decide +kernel
theorem dX2_offset_26 : decode cX2_offset 26 = .ok (.iload_n 3, 1) := by decide +kernel
theorem dX2_offset_27 : decode cX2_offset 27 = .ok (.invokevirtual 53, 3) := by decide +kernel
theorem dX2_offset_30 : decode cX2_offset 30 = .ok (.ifCond .ne 5, 3) := by decide +kernel
theorem dX2_offset_33 : decode cX2_offset 33 = .ok (.iconst 0, 1) := by decide +kernel
theorem dX2_offset_34 : decode cX2_offset 34 = .ok (.ireturn, 1) := by decide +kernel
theorem dX2_offset_35 : decode cX2_offset 35 = .ok (.aload_n 0, 1) := by decide +kernel
theorem dX2_offset_36 : decode cX2_offset 36 = .ok (.getfield 9, 3) := by decide +kernel
theorem dX2_offset_39 : decode cX2_offset 39 = .ok (.getfield 60, 3) := by decide +kernel
theorem dX2_offset_42 : decode cX2_offset 42 = .ok (.iload_n 2, 1) := by decide +kernel
theorem dX2_offset_43 : decode cX2_offset 43 = .ok (.iaload, 1) := by decide +kernel
theorem dX2_offset_44 : decode cX2_offset 44 = .ok (.aload_n 0, 1) := by decide +kernel
theorem dX2_offset_45 : decode cX2_offset 45 = .ok (.getfield 9, 3) := by decide +kernel
theorem dX2_offset_48 : decode cX2_offset 48 = .ok (.getfield 60, 3) := by decide +kernel
theorem dX2_offset_51 : decode cX2_offset 51 = .ok (.iload_n 1, 1) := by decide +kernel
theorem dX2_offset_52 : decode cX2_offset 52 = .ok (.iaload, 1) := by decide +kernel
theorem dX2_offset_53 : decode cX2_offset 53 = .ok (.isub, 1) := by decide +kernel
theorem dX2_offset_54 : decode cX2_offset 54 = .ok (.aload_n 0, 1) := by decide +kernel
theorem dX2_offset_55 : decode cX2_offset 55 = .ok (.getfield 9, 3) := by decide +kernel
theorem dX2_offset_58 : decode cX2_offset 58 = .ok (.getfield 63, 3) := by decide +kernel
theorem dX2_offset_61 : decode cX2_offset 61 = .ok (.iload_n 3, 1) := by decide +kernel
theorem dX2_offset_62 : decode cX2_offset 62 = .ok (.iaload, 1) := by decide +kernel
theorem dX2_offset_63 : decode cX2_offset 63 = .ok (.aload_n 0, 1) := by decide +kernel
theorem dX2_offset_64 : decode cX2_offset 64 = .ok (.getfield 9, 3) := by decide +kernel
theorem dX2_offset_67 : decode cX2_offset 67 = .ok (.getfield 63, 3) := by decide +kernel
theorem dX2_offset_70 : decode cX2_offset 70 = .ok (.iload_n 1, 1) := by decide +kernel
theorem dX2_offset_71 : decode cX2_offset 71 = .ok (.iaload, 1) := by decide +kernel
theorem dX2_offset_72 : decode cX2_offset 72 = .ok (.isub, 1) := by decide +kernel
theorem dX2_offset_73 : decode cX2_offset 73 = .ok (.imul, 1) := by decide +kernel
theorem dX2_offset_74 : decode cX2_offset 74 = .ok (.istore 4, 2) := by decide +kernel
theorem dX2_offset_76 : decode cX2_offset 76 = .ok (.aload_n 0, 1) := by decide +kernel
theorem dX2_offset_77 : decode cX2_offset 77 = .ok (.getfield 9, 3) := by decide +kernel
theorem dX2_offset_80 : decode cX2_offset 80 = .ok (.getfield 60, 3) := by decide +kernel
theorem dX2_offset_83 : decode cX2_offset 83 = .ok (.iload_n 3, 1) := by decide +kernel
theorem dX2_offset_84 : decode cX2_offset 84 = .ok (.iaload, 1) := by decide +kernel
theorem dX2_offset_85 : decode cX2_offset 85 = .ok (.aload_n 0, 1) := by decide +kernel
theorem dX2_offset_86 : decode cX2_offset 86 = .ok (.getfield 9, 3) := by decide +kernel
theorem dX2_offset_89 : decode cX2_offset 89 = .ok (.getfield 60, 3) := by decide +kernel
theorem dX2_offset_92 : decode cX2_offset 92 = .ok (.iload_n 1, 1) := by decide +kernel
theorem dX2_offset_93 : decode cX2_offset 93 = .ok (.iaload, 1) := by decide +kernel
theorem dX2_offset_94 : decode cX2_offset 94 = .ok (.isub, 1) := by decide +kernel
theorem dX2_offset_95 : decode cX2_offset 95 = .ok (.aload_n 0, 1) := by decide +kernel
theorem dX2_offset_96 : decode cX2_offset 96 = .ok (.getfield 9, 3) := by decide +kernel
theorem dX2_offset_99 : decode cX2_offset 99 = .ok (.getfield 63, 3) := by decide +kernel
theorem dX2_offset_102 : decode cX2_offset 102 = .ok (.iload_n 2, 1) := by decide +kernel
theorem dX2_offset_103 : decode cX2_offset 103 = .ok (.iaload, 1) := by decide +kernel
theorem dX2_offset_104 : decode cX2_offset 104 = .ok (.aload_n 0, 1) := by decide +kernel
theorem dX2_offset_105 : decode cX2_offset 105 = .ok (.getfield 9, 3) := by decide +kernel
theorem dX2_offset_108 : decode cX2_offset 108 = .ok (.getfield 63, 3) := by decide +kernel
theorem dX2_offset_111 : decode cX2_offset 111 = .ok (.iload_n 1, 1) := by decide +kernel
theorem dX2_offset_112 : decode cX2_offset 112 = .ok (.iaload, 1) := by decide +kernel
theorem dX2_offset_113 : decode cX2_offset 113 = .ok (.isub, 1) := by decide +kernel
theorem dX2_offset_114 : decode cX2_offset 114 = .ok (.imul, 1) := by decide +kernel
theorem dX2_offset_115 : decode cX2_offset 115 = .ok (.istore 5, 2) := by decide +kernel
theorem dX2_offset_117 : decode cX2_offset 117 = .ok (.iload 4, 2) := by decide +kernel
theorem dX2_offset_119 : decode cX2_offset 119 = .ok (.iload 5, 2) := by decide +kernel
theorem dX2_offset_121 : decode cX2_offset 121 = .ok (.isub, 1) := by decide +kernel
theorem dX2_offset_122 : decode cX2_offset 122 = .ok (.invokestatic 66, 3) := by decide +kernel
theorem dX2_offset_125 : decode cX2_offset 125 = .ok (.ireturn, 1) := by decide +kernel
theorem dX2_farthest_0 : decode cX2_farthest 0 = .ok (.bipush (-9), 2) := by decide +kernel
theorem dX2_farthest_2 : decode cX2_farthest 2 = .ok (.istore_n 3, 1) := by decide +kernel
theorem dX2_farthest_3 : decode cX2_farthest 3 = .ok (.iconst (-1), 1) := by decide +kernel
theorem dX2_farthest_4 : decode cX2_farthest 4 = .ok (.istore 4, 2) := by decide +kernel
theorem dX2_farthest_6 : decode cX2_farthest 6 = .ok (.iload_n 1, 1) := by decide +kernel
theorem dX2_farthest_7 : decode cX2_farthest 7 = .ok (.iconst 1, 1) := by decide +kernel
theorem dX2_farthest_8 : decode cX2_farthest 8 = .ok (.iadd, 1) := by decide +kernel
theorem dX2_farthest_9 : decode cX2_farthest 9 = .ok (.istore 5, 2) := by decide +kernel
theorem dX2_farthest_11 : decode cX2_farthest 11 = .ok (.iload 5, 2) := by decide +kernel
theorem dX2_farthest_13 : decode cX2_farthest 13 = .ok (.iload_n 2, 1) := by decide +kernel
theorem dX2_farthest_14 : decode cX2_farthest 14 = .ok (.if_icmp .ge 33, 3) := by decide +kernel
theorem dX2_farthest_17 : decode cX2_farthest 17 = .ok (.aload_n 0, 1) := by decide +kernel
theorem dX2_farthest_18 : decode cX2_farthest 18 = .ok (.iload_n 1, 1) := by decide +kernel
theorem dX2_farthest_19 : decode cX2_farthest 19 = .ok (.iload 5, 2) := by decide +kernel
theorem dX2_farthest_21 : decode cX2_farthest 21 = .ok (.iload_n 2, 1) := by decide +kernel
theorem dX2_farthest_22 : decode cX2_farthest 22 = .ok (.invokevirtual 49, 3) := by decide +kernel
theorem dX2_farthest_25 : decode cX2_farthest 25 = .ok (.istore 6, 2) := by decide +kernel
theorem dX2_farthest_27 : decode cX2_farthest 27 = .ok (.iload 6, 2) := by decide +kernel
theorem dX2_farthest_29 : decode cX2_farthest 29 = .ok (.iload 4, 2) := by decide +kernel
theorem dX2_farthest_31 : decode cX2_farthest 31 = .ok (.if_icmp .le 10, 3) := by decide +kernel
theorem dX2_farthest_34 : decode cX2_farthest 34 = .ok (.iload 6, 2) := by decide +kernel
theorem dX2_farthest_36 : decode cX2_farthest 36 = .ok (.istore 4, 2) := by decide +kernel
theorem dX2_farthest_38 : decode cX2_farthest 38 = .ok (.iload 5, 2) := by decide +kernel
theorem dX2_farthest_40 : decode cX2_farthest 40 = .ok (.istore_n 3, 1) := by decide +kernel
theorem dX2_farthest_41 : decode cX2_farthest 41 = .ok (.iinc 5 1, 3) := by decide +kernel
theorem dX2_farthest_44 : decode cX2_farthest 44 = .ok (.goto (-33), 3) := by decide +kernel
theorem dX2_farthest_47 : decode cX2_farthest 47 = .ok (.iload_n 3, 1) := by decide +kernel
theorem dX2_farthest_48 : decode cX2_farthest 48 = .ok (.ireturn, 1) := by decide +kernel
theorem dX2_firstBeyond_0 : decode cX2_firstBeyond 0 = .ok (.iload_n 3, 1) := by decide +kernel
theorem dX2_firstBeyond_1 : decode cX2_firstBeyond 1 = .ok (.aload_n 0, 1) := by decide +kernel
theorem dX2_firstBeyond_2 : decode cX2_firstBeyond 2 = .ok (.iload_n 1, 1) := by decide +kernel
theorem dX2_firstBeyond_3 : decode cX2_firstBeyond 3 = .ok (.iload_n 2, 1) := by decide +kernel
theorem dX2_firstBeyond_4 : decode cX2_firstBeyond 4 = .ok (.invokevirtual 46, 3) := by decide +kernel
theorem dX2_firstBeyond_7 : decode cX2_firstBeyond 7 = .ok (.imul, 1) := by decide +kernel
theorem dX2_firstBeyond_8 : decode cX2_firstBeyond 8 = .ok (.istore 4, 2) := by decide +kernel
theorem dX2_firstBeyond_10 : decode cX2_firstBeyond 10 = .ok (.iload_n 1, 1) := by decide +kernel
theorem dX2_firstBeyond_11 : decode cX2_firstBeyond 11 = .ok (.iconst 1, 1) := by decide +kernel
theorem dX2_firstBeyond_12 : decode cX2_firstBeyond 12 = .ok (.iadd, 1) := by decide +kernel
theorem dX2_firstBeyond_13 : decode cX2_firstBeyond 13 = .ok (.istore 5, 2) := by decide +kernel
theorem dX2_firstBeyond_15 : decode cX2_firstBeyond 15 = .ok (.iload 5, 2) := by decide +kernel
theorem dX2_firstBeyond_17 : decode cX2_firstBeyond 17 = .ok (.iload_n 2, 1) := by decide +kernel
theorem dX2_firstBeyond_18 : decode cX2_firstBeyond 18 = .ok (.if_icmp .ge 25, 3) := by decide +kernel
theorem dX2_firstBeyond_21 : decode cX2_firstBeyond 21 = .ok (.aload_n 0, 1) := by decide +kernel
theorem dX2_firstBeyond_22 : decode cX2_firstBeyond 22 = .ok (.iload_n 1, 1) := by decide +kernel
theorem dX2_firstBeyond_23 : decode cX2_firstBeyond 23 = .ok (.iload 5, 2) := by decide +kernel
theorem dX2_firstBeyond_25 : decode cX2_firstBeyond 25 = .ok (.iload_n 2, 1) := by decide +kernel
theorem dX2_firstBeyond_26 : decode cX2_firstBeyond 26 = .ok (.invokevirtual 49, 3) := by decide +kernel
theorem dX2_firstBeyond_29 : decode cX2_firstBeyond 29 = .ok (.iload 4, 2) := by decide +kernel
theorem dX2_firstBeyond_31 : decode cX2_firstBeyond 31 = .ok (.if_icmp .le 6, 3) := by decide +kernel
theorem dX2_firstBeyond_34 : decode cX2_firstBeyond 34 = .ok (.iload 5, 2) := by decide +kernel
theorem dX2_firstBeyond_36 : decode cX2_firstBeyond 36 = .ok (.ireturn, 1) := by decide +kernel
theorem dX2_firstBeyond_37 : decode cX2_firstBeyond 37 = .ok (.iinc 5 1, 3) := by decide +kernel
theorem dX2_firstBeyond_40 : decode cX2_firstBeyond 40 = .ok (.goto (-25), 3) := by decide +kernel
theorem dX2_firstBeyond_43 : decode cX2_firstBeyond 43 = .ok (.bipush (-9), 2) := by decide +kernel
theorem dX2_firstBeyond_45 : decode cX2_firstBeyond 45 = .ok (.ireturn, 1) := by decide +kernel
theorem dX2_measureStrip_0 : decode cX2_measureStrip 0 = .ok (.aload_n 3, 1) := by decide +kernel
theorem dX2_measureStrip_1 : decode cX2_measureStrip 1 = .ok (.iconst 0, 1) := by decide +kernel
theorem dX2_measureStrip_2 : decode cX2_measureStrip 2 = .ok (.iconst 1, 1) := by decide +kernel
theorem dX2_measureStrip_3 : decode cX2_measureStrip 3 = .ok (.invokevirtual 71, 3) := by decide +kernel
theorem dX2_measureStrip_6 : decode cX2_measureStrip 6 = .ok (.iload_n 1, 1) := by decide +kernel
theorem dX2_measureStrip_7 : decode cX2_measureStrip 7 = .ok (.istore 4, 2) := by decide +kernel
theorem dX2_measureStrip_9 : decode cX2_measureStrip 9 = .ok (.iload 4, 2) := by decide +kernel
theorem dX2_measureStrip_11 : decode cX2_measureStrip 11 = .ok (.iload_n 2, 1) := by decide +kernel
theorem dX2_measureStrip_12 : decode cX2_measureStrip 12 = .ok (.if_icmp .ge 76, 3) := by decide +kernel
theorem dX2_measureStrip_15 : decode cX2_measureStrip 15 = .ok (.iload 4, 2) := by decide +kernel
theorem dX2_measureStrip_17 : decode cX2_measureStrip 17 = .ok (.iconst 2, 1) := by decide +kernel
theorem dX2_measureStrip_18 : decode cX2_measureStrip 18 = .ok (.iadd, 1) := by decide +kernel
theorem dX2_measureStrip_19 : decode cX2_measureStrip 19 = .ok (.istore 5, 2) := by decide +kernel
theorem dX2_measureStrip_21 : decode cX2_measureStrip 21 = .ok (.iload 5, 2) := by decide +kernel
theorem dX2_measureStrip_23 : decode cX2_measureStrip 23 = .ok (.iload_n 2, 1) := by decide +kernel
theorem dX2_measureStrip_24 : decode cX2_measureStrip 24 = .ok (.if_icmp .gt 58, 3) := by decide +kernel
theorem dX2_measureStrip_27 : decode cX2_measureStrip 27 = .ok (.aload_n 0, 1) := by decide +kernel
theorem dX2_measureStrip_28 : decode cX2_measureStrip 28 = .ok (.iload 4, 2) := by decide +kernel
theorem dX2_measureStrip_30 : decode cX2_measureStrip 30 = .ok (.aload_n 0, 1) := by decide +kernel
theorem dX2_measureStrip_31 : decode cX2_measureStrip 31 = .ok (.iload 4, 2) := by decide +kernel
theorem dX2_measureStrip_33 : decode cX2_measureStrip 33 = .ok (.iload 5, 2) := by decide +kernel
theorem dX2_measureStrip_35 : decode cX2_measureStrip 35 = .ok (.invokevirtual 42, 3) := by decide +kernel
theorem dX2_measureStrip_38 : decode cX2_measureStrip 38 = .ok (.iload 5, 2) := by decide +kernel
theorem dX2_measureStrip_40 : decode cX2_measureStrip 40 = .ok (.invokevirtual 49, 3) := by decide +kernel
theorem dX2_measureStrip_43 : decode cX2_measureStrip 43 = .ok (.istore 6, 2) := by decide +kernel
theorem dX2_measureStrip_45 : decode cX2_measureStrip 45 = .ok (.iconst 2, 1) := by decide +kernel
theorem dX2_measureStrip_46 : decode cX2_measureStrip 46 = .ok (.aload_n 0, 1) := by decide +kernel
theorem dX2_measureStrip_47 : decode cX2_measureStrip 47 = .ok (.iload 4, 2) := by decide +kernel
theorem dX2_measureStrip_49 : decode cX2_measureStrip 49 = .ok (.iload 5, 2) := by decide +kernel
theorem dX2_measureStrip_51 : decode cX2_measureStrip 51 = .ok (.invokevirtual 46, 3) := by decide +kernel
theorem dX2_measureStrip_54 : decode cX2_measureStrip 54 = .ok (.imul, 1) := by decide +kernel
theorem dX2_measureStrip_55 : decode cX2_measureStrip 55 = .ok (.istore 7, 2) := by decide +kernel
theorem dX2_measureStrip_57 : decode cX2_measureStrip 57 = .ok (.aload_n 3, 1) := by decide +kernel
theorem dX2_measureStrip_58 : decode cX2_measureStrip 58 = .ok (.iload 6, 2) := by decide +kernel
theorem dX2_measureStrip_60 : decode cX2_measureStrip 60 = .ok (.iload 7, 2) := by decide +kernel
theorem dX2_measureStrip_62 : decode cX2_measureStrip 62 = .ok (.invokevirtual 77, 3) := by decide +kernel
theorem dX2_measureStrip_65 : decode cX2_measureStrip 65 = .ok (.ifCond .eq 11, 3) := by decide +kernel
theorem dX2_measureStrip_68 : decode cX2_measureStrip 68 = .ok (.aload_n 3, 1) := by decide +kernel
theorem dX2_measureStrip_69 : decode cX2_measureStrip 69 = .ok (.iload 6, 2) := by decide +kernel
theorem dX2_measureStrip_71 : decode cX2_measureStrip 71 = .ok (.iload 7, 2) := by decide +kernel
theorem dX2_measureStrip_73 : decode cX2_measureStrip 73 = .ok (.invokevirtual 71, 3) := by decide +kernel
theorem dX2_measureStrip_76 : decode cX2_measureStrip 76 = .ok (.iinc 5 1, 3) := by decide +kernel
theorem dX2_measureStrip_79 : decode cX2_measureStrip 79 = .ok (.goto (-58), 3) := by decide +kernel
theorem dX2_measureStrip_82 : decode cX2_measureStrip 82 = .ok (.iinc 4 1, 3) := by decide +kernel
theorem dX2_measureStrip_85 : decode cX2_measureStrip 85 = .ok (.goto (-76), 3) := by decide +kernel
theorem dX2_measureStrip_88 : decode cX2_measureStrip 88 = .ok (.return_, 1) := by decide +kernel
theorem dX2_measureValue_0 : decode cX2_measureValue 0 = .ok (.iload_n 1, 1) := by decide +kernel
theorem dX2_measureValue_1 : decode cX2_measureValue 1 = .ok (.iload_n 2, 1) := by decide +kernel
theorem dX2_measureValue_2 : decode cX2_measureValue 2 = .ok (.if_icmp .ne 18, 3) := by decide +kernel
theorem dX2_measureValue_5 : decode cX2_measureValue 5 = .ok (.aload 4, 2) := by decide +kernel
theorem dX2_measureValue_7 : decode cX2_measureValue 7 = .ok (.aload_n 0, 1) := by decide +kernel
theorem dX2_measureValue_8 : decode cX2_measureValue 8 = .ok (.getfield 9, 3) := by decide +kernel
theorem dX2_measureValue_11 : decode cX2_measureValue 11 = .ok (.iload_n 1, 1) := by decide +kernel
theorem dX2_measureValue_12 : decode cX2_measureValue 12 = .ok (.invokevirtual 81, 3) := by decide +kernel
theorem dX2_measureValue_15 : decode cX2_measureValue 15 = .ok (.iconst 1, 1) := by decide +kernel
theorem dX2_measureValue_16 : decode cX2_measureValue 16 = .ok (.invokevirtual 71, 3) := by decide +kernel
theorem dX2_measureValue_19 : decode cX2_measureValue 19 = .ok (.return_, 1) := by decide +kernel
theorem dX2_measureValue_20 : decode cX2_measureValue 20 = .ok (.iload_n 3, 1) := by decide +kernel
theorem dX2_measureValue_21 : decode cX2_measureValue 21 = .ok (.aload_n 0, 1) := by decide +kernel
theorem dX2_measureValue_22 : decode cX2_measureValue 22 = .ok (.getfield 9, 3) := by decide +kernel
theorem dX2_measureValue_25 : decode cX2_measureValue 25 = .ok (.iload_n 1, 1) := by decide +kernel
theorem dX2_measureValue_26 : decode cX2_measureValue 26 = .ok (.invokevirtual 56, 3) := by decide +kernel
theorem dX2_measureValue_29 : decode cX2_measureValue 29 = .ok (.isub, 1) := by decide +kernel
theorem dX2_measureValue_30 : decode cX2_measureValue 30 = .ok (.istore 5, 2) := by decide +kernel
theorem dX2_measureValue_32 : decode cX2_measureValue 32 = .ok (.aload_n 0, 1) := by decide +kernel
theorem dX2_measureValue_33 : decode cX2_measureValue 33 = .ok (.getfield 9, 3) := by decide +kernel
theorem dX2_measureValue_36 : decode cX2_measureValue 36 = .ok (.iload_n 2, 1) := by decide +kernel
theorem dX2_measureValue_37 : decode cX2_measureValue 37 = .ok (.invokevirtual 56, 3) := by decide +kernel
theorem dX2_measureValue_40 : decode cX2_measureValue 40 = .ok (.iload_n 3, 1) := by decide +kernel
theorem dX2_measureValue_41 : decode cX2_measureValue 41 = .ok (.isub, 1) := by decide +kernel
theorem dX2_measureValue_42 : decode cX2_measureValue 42 = .ok (.istore 6, 2) := by decide +kernel
theorem dX2_measureValue_44 : decode cX2_measureValue 44 = .ok (.aload_n 0, 1) := by decide +kernel
theorem dX2_measureValue_45 : decode cX2_measureValue 45 = .ok (.getfield 9, 3) := by decide +kernel
theorem dX2_measureValue_48 : decode cX2_measureValue 48 = .ok (.iload_n 1, 1) := by decide +kernel
theorem dX2_measureValue_49 : decode cX2_measureValue 49 = .ok (.invokevirtual 81, 3) := by decide +kernel
theorem dX2_measureValue_52 : decode cX2_measureValue 52 = .ok (.iload 6, 2) := by decide +kernel
theorem dX2_measureValue_54 : decode cX2_measureValue 54 = .ok (.imul, 1) := by decide +kernel
theorem dX2_measureValue_55 : decode cX2_measureValue 55 = .ok (.aload_n 0, 1) := by decide +kernel
theorem dX2_measureValue_56 : decode cX2_measureValue 56 = .ok (.getfield 9, 3) := by decide +kernel
theorem dX2_measureValue_59 : decode cX2_measureValue 59 = .ok (.iload_n 2, 1) := by decide +kernel
theorem dX2_measureValue_60 : decode cX2_measureValue 60 = .ok (.invokevirtual 81, 3) := by decide +kernel
theorem dX2_measureValue_63 : decode cX2_measureValue 63 = .ok (.iload 5, 2) := by decide +kernel
theorem dX2_measureValue_65 : decode cX2_measureValue 65 = .ok (.imul, 1) := by decide +kernel
theorem dX2_measureValue_66 : decode cX2_measureValue 66 = .ok (.iadd, 1) := by decide +kernel
theorem dX2_measureValue_67 : decode cX2_measureValue 67 = .ok (.istore 7, 2) := by decide +kernel
theorem dX2_measureValue_69 : decode cX2_measureValue 69 = .ok (.aload 4, 2) := by decide +kernel
theorem dX2_measureValue_71 : decode cX2_measureValue 71 = .ok (.iload 7, 2) := by decide +kernel
theorem dX2_measureValue_73 : decode cX2_measureValue 73 = .ok (.aload_n 0, 1) := by decide +kernel
theorem dX2_measureValue_74 : decode cX2_measureValue 74 = .ok (.iload_n 1, 1) := by decide +kernel
theorem dX2_measureValue_75 : decode cX2_measureValue 75 = .ok (.iload_n 2, 1) := by decide +kernel
theorem dX2_measureValue_76 : decode cX2_measureValue 76 = .ok (.invokevirtual 46, 3) := by decide +kernel
theorem dX2_measureValue_79 : decode cX2_measureValue 79 = .ok (.invokevirtual 71, 3) := by decide +kernel
theorem dX2_measureValue_82 : decode cX2_measureValue 82 = .ok (.return_, 1) := by decide +kernel
theorem dX3_init_0 : decode cX3_init 0 = .ok (.aload_n 0, 1) := by decide +kernel
theorem dX3_init_1 : decode cX3_init 1 = .ok (.invokespecial 3, 3) := by decide +kernel
theorem dX3_init_4 : decode cX3_init 4 = .ok (.aload_n 0, 1) := by decide +kernel
theorem dX3_init_5 : decode cX3_init 5 = .ok (.bipush 14, 2) := by decide +kernel
theorem dX3_init_7 : decode cX3_init 7 = .ok (.newarray .int, 2) := by decide +kernel
theorem dX3_init_9 : decode cX3_init 9 = .ok (.putfield 9, 3) := by decide +kernel
theorem dX3_init_12 : decode cX3_init 12 = .ok (.aload_n 0, 1) := by decide +kernel
theorem dX3_init_13 : decode cX3_init 13 = .ok (.bipush 14, 2) := by decide +kernel
theorem dX3_init_15 : decode cX3_init 15 = .ok (.newarray .int, 2) := by decide +kernel
theorem dX3_init_17 : decode cX3_init 17 = .ok (.putfield 15, 3) := by decide +kernel
theorem dX3_init_20 : decode cX3_init 20 = .ok (.aload_n 0, 1) := by decide +kernel
theorem dX3_init_21 : decode cX3_init 21 = .ok (.iconst 0, 1) := by decide +kernel
theorem dX3_init_22 : decode cX3_init 22 = .ok (.putfield 18, 3) := by decide +kernel
theorem dX3_init_25 : decode cX3_init 25 = .ok (.aload_n 0, 1) := by decide +kernel
theorem dX3_init_26 : decode cX3_init 26 = .ok (.iconst 5, 1) := by decide +kernel
theorem dX3_init_27 : decode cX3_init 27 = .ok (.putfield 22, 3) := by decide +kernel
theorem dX3_init_30 : decode cX3_init 30 = .ok (.aload_n 0, 1) := by decide +kernel
theorem dX3_init_31 : decode cX3_init 31 = .ok (.bipush 14, 2) := by decide +kernel
theorem dX3_init_33 : decode cX3_init 33 = .ok (.putfield 25, 3) := by decide +kernel
theorem dX3_init_36 : decode cX3_init 36 = .ok (.return_, 1) := by decide +kernel
theorem dX3_startAnew_0 : decode cX3_startAnew 0 = .ok (.aload_n 0, 1) := by decide +kernel
theorem dX3_startAnew_1 : decode cX3_startAnew 1 = .ok (.iconst 0, 1) := by decide +kernel
theorem dX3_startAnew_2 : decode cX3_startAnew 2 = .ok (.putfield 18, 3) := by decide +kernel
theorem dX3_startAnew_5 : decode cX3_startAnew 5 = .ok (.aload_n 0, 1) := by decide +kernel
theorem dX3_startAnew_6 : decode cX3_startAnew 6 = .ok (.iconst 5, 1) := by decide +kernel
theorem dX3_startAnew_7 : decode cX3_startAnew 7 = .ok (.putfield 22, 3) := by decide +kernel
theorem dX3_startAnew_10 : decode cX3_startAnew 10 = .ok (.aload_n 0, 1) := by decide +kernel
theorem dX3_startAnew_11 : decode cX3_startAnew 11 = .ok (.bipush 14, 2) := by decide +kernel
theorem dX3_startAnew_13 : decode cX3_startAnew 13 = .ok (.putfield 25, 3) := by decide +kernel
theorem dX3_startAnew_16 : decode cX3_startAnew 16 = .ok (.return_, 1) := by decide +kernel
theorem dX3_has_0 : decode cX3_has 0 = .ok (.iload_n 1, 1) := by decide +kernel
theorem dX3_has_1 : decode cX3_has 1 = .ok (.ifCond .lt 15, 3) := by decide +kernel
theorem dX3_has_4 : decode cX3_has 4 = .ok (.iload_n 1, 1) := by decide +kernel
theorem dX3_has_5 : decode cX3_has 5 = .ok (.aload_n 0, 1) := by decide +kernel
theorem dX3_has_6 : decode cX3_has 6 = .ok (.getfield 18, 3) := by decide +kernel
theorem dX3_has_9 : decode cX3_has 9 = .ok (.if_icmp .ge 7, 3) := by decide +kernel
theorem dX3_has_12 : decode cX3_has 12 = .ok (.iconst 1, 1) := by decide +kernel
theorem dX3_has_13 : decode cX3_has 13 = .ok (.goto 4, 3) := by decide +kernel
theorem dX3_has_16 : decode cX3_has 16 = .ok (.iconst 0, 1) := by decide +kernel
theorem dX3_has_17 : decode cX3_has 17 = .ok (.ireturn, 1) := by decide +kernel
theorem dX3_isKnown_0 : decode cX3_isKnown 0 = .ok (.aload_n 0, 1) := by decide +kernel
theorem dX3_isKnown_1 : decode cX3_isKnown 1 = .ok (.iload_n 1, 1) := by decide +kernel
theorem dX3_isKnown_2 : decode cX3_isKnown 2 = .ok (.invokevirtual 28, 3) := by decide +kernel
theorem dX3_isKnown_5 : decode cX3_isKnown 5 = .ok (.ifCond .eq 18, 3) := by decide +kernel
theorem dX3_isKnown_8 : decode cX3_isKnown 8 = .ok (.aload_n 0, 1) := by decide +kernel
theorem dX3_isKnown_9 : decode cX3_isKnown 9 = .ok (.getfield 15, 3) := by decide +kernel
theorem dX3_isKnown_12 : decode cX3_isKnown 12 = .ok (.iload_n 1, 1) := by decide +kernel
theorem dX3_isKnown_13 : decode cX3_isKnown 13 = .ok (.iaload, 1) := by decide +kernel
theorem dX3_isKnown_14 : decode cX3_isKnown 14 = .ok (.bipush (-9), 2) := by decide +kernel
theorem dX3_isKnown_16 : decode cX3_isKnown 16 = .ok (.if_icmp .eq 7, 3) := by decide +kernel
theorem dX3_isKnown_19 : decode cX3_isKnown 19 = .ok (.iconst 1, 1) := by decide +kernel
theorem dX3_isKnown_20 : decode cX3_isKnown 20 = .ok (.goto 4, 3) := by decide +kernel
theorem dX3_isKnown_23 : decode cX3_isKnown 23 = .ok (.iconst 0, 1) := by decide +kernel
theorem dX3_isKnown_24 : decode cX3_isKnown 24 = .ok (.ireturn, 1) := by decide +kernel
theorem dX3_isFirst_0 : decode cX3_isFirst 0 = .ok (.aload_n 0, 1) := by decide +kernel
theorem dX3_isFirst_1 : decode cX3_isFirst 1 = .ok (.iload_n 1, 1) := by decide +kernel
theorem dX3_isFirst_2 : decode cX3_isFirst 2 = .ok (.invokevirtual 32, 3) := by decide +kernel
theorem dX3_isFirst_5 : decode cX3_isFirst 5 = .ok (.ifCond .eq 17, 3) := by decide +kernel
theorem dX3_isFirst_8 : decode cX3_isFirst 8 = .ok (.aload_n 0, 1) := by decide +kernel
theorem dX3_isFirst_9 : decode cX3_isFirst 9 = .ok (.iload_n 1, 1) := by decide +kernel
theorem dX3_isFirst_10 : decode cX3_isFirst 10 = .ok (.iconst 1, 1) := by decide +kernel
theorem dX3_isFirst_11 : decode cX3_isFirst 11 = .ok (.isub, 1) := by decide +kernel
theorem dX3_isFirst_12 : decode cX3_isFirst 12 = .ok (.invokevirtual 32, 3) := by decide +kernel
theorem dX3_isFirst_15 : decode cX3_isFirst 15 = .ok (.ifCond .ne 7, 3) := by decide +kernel
theorem dX3_isFirst_18 : decode cX3_isFirst 18 = .ok (.iconst 1, 1) := by decide +kernel
theorem dX3_isFirst_19 : decode cX3_isFirst 19 = .ok (.goto 4, 3) := by decide +kernel
theorem dX3_isFirst_22 : decode cX3_isFirst 22 = .ok (.iconst 0, 1) := by decide +kernel
theorem dX3_isFirst_23 : decode cX3_isFirst 23 = .ok (.ireturn, 1) := by decide +kernel
theorem dX3_isLast_0 : decode cX3_isLast 0 = .ok (.aload_n 0, 1) := by decide +kernel
theorem dX3_isLast_1 : decode cX3_isLast 1 = .ok (.iload_n 1, 1) := by decide +kernel
theorem dX3_isLast_2 : decode cX3_isLast 2 = .ok (.invokevirtual 32, 3) := by decide +kernel
theorem dX3_isLast_5 : decode cX3_isLast 5 = .ok (.ifCond .eq 17, 3) := by decide +kernel
theorem dX3_isLast_8 : decode cX3_isLast 8 = .ok (.aload_n 0, 1) := by decide +kernel
theorem dX3_isLast_9 : decode cX3_isLast 9 = .ok (.iload_n 1, 1) := by decide +kernel
theorem dX3_isLast_10 : decode cX3_isLast 10 = .ok (.iconst 1, 1) := by decide +kernel
theorem dX3_isLast_11 : decode cX3_isLast 11 = .ok (.iadd, 1) := by decide +kernel
theorem dX3_isLast_12 : decode cX3_isLast 12 = .ok (.invokevirtual 32, 3) := by decide +kernel
theorem dX3_isLast_15 : decode cX3_isLast 15 = .ok (.ifCond .ne 7, 3) := by decide +kernel
theorem dX3_isLast_18 : decode cX3_isLast 18 = .ok (.iconst 1, 1) := by decide +kernel
theorem dX3_isLast_19 : decode cX3_isLast 19 = .ok (.goto 4, 3) := by decide +kernel
theorem dX3_isLast_22 : decode cX3_isLast 22 = .ok (.iconst 0, 1) := by decide +kernel
theorem dX3_isLast_23 : decode cX3_isLast 23 = .ok (.ireturn, 1) := by decide +kernel
theorem dX3_timeAt_0 : decode cX3_timeAt 0 = .ok (.aload_n 0, 1) := by decide +kernel
theorem dX3_timeAt_1 : decode cX3_timeAt 1 = .ok (.iload_n 1, 1) := by decide +kernel
theorem dX3_timeAt_2 : decode cX3_timeAt 2 = .ok (.invokevirtual 28, 3) := by decide +kernel
theorem dX3_timeAt_5 : decode cX3_timeAt 5 = .ok (.ifCond .eq 12, 3) := by decide +kernel
theorem dX3_timeAt_8 : decode cX3_timeAt 8 = .ok (.aload_n 0, 1) := by decide +kernel
theorem dX3_timeAt_9 : decode cX3_timeAt 9 = .ok (.getfield 9, 3) := by decide +kernel
theorem dX3_timeAt_12 : decode cX3_timeAt 12 = .ok (.iload_n 1, 1) := by decide +kernel
theorem dX3_timeAt_13 : decode cX3_timeAt 13 = .ok (.iaload, 1) := by decide +kernel
theorem dX3_timeAt_14 : decode cX3_timeAt 14 = .ok (.goto 5, 3) := by decide +kernel
theorem dX3_timeAt_17 : decode cX3_timeAt 17 = .ok (.bipush (-9), 2) := by decide +kernel
theorem dX3_timeAt_19 : decode cX3_timeAt 19 = .ok (.ireturn, 1) := by decide +kernel
theorem dX3_valueAt_0 : decode cX3_valueAt 0 = .ok (.aload_n 0, 1) := by decide +kernel
theorem dX3_valueAt_1 : decode cX3_valueAt 1 = .ok (.iload_n 1, 1) := by decide +kernel
theorem dX3_valueAt_2 : decode cX3_valueAt 2 = .ok (.invokevirtual 28, 3) := by decide +kernel
theorem dX3_valueAt_5 : decode cX3_valueAt 5 = .ok (.ifCond .eq 12, 3) := by decide +kernel
theorem dX3_valueAt_8 : decode cX3_valueAt 8 = .ok (.aload_n 0, 1) := by decide +kernel
theorem dX3_valueAt_9 : decode cX3_valueAt 9 = .ok (.getfield 15, 3) := by decide +kernel
theorem dX3_valueAt_12 : decode cX3_valueAt 12 = .ok (.iload_n 1, 1) := by decide +kernel
theorem dX3_valueAt_13 : decode cX3_valueAt 13 = .ok (.iaload, 1) := by decide +kernel
theorem dX3_valueAt_14 : decode cX3_valueAt 14 = .ok (.goto 5, 3) := by decide +kernel
theorem dX3_valueAt_17 : decode cX3_valueAt 17 = .ok (.bipush (-9), 2) := by decide +kernel
theorem dX3_valueAt_19 : decode cX3_valueAt 19 = .ok (.ireturn, 1) := by decide +kernel
theorem dX3_isFull_0 : decode cX3_isFull 0 = .ok (.aload_n 0, 1) := by decide +kernel
theorem dX3_isFull_1 : decode cX3_isFull 1 = .ok (.getfield 18, 3) := by decide +kernel
theorem dX3_isFull_4 : decode cX3_isFull 4 = .ok (.bipush 14, 2) := by decide +kernel
theorem dX3_isFull_6 : decode cX3_isFull 6 = .ok (.if_icmp .lt 7, 3) := by decide +kernel
theorem dX3_isFull_9 : decode cX3_isFull 9 = .ok (.iconst 1, 1) := by decide +kernel
theorem dX3_isFull_10 : decode cX3_isFull 10 = .ok (.goto 4, 3) := by decide +kernel
theorem dX3_isFull_13 : decode cX3_isFull 13 = .ok (.iconst 0, 1) := by decide +kernel
theorem dX3_isFull_14 : decode cX3_isFull 14 = .ok (.ireturn, 1) := by decide +kernel
theorem dX3_isLater_0 : decode cX3_isLater 0 = .ok (.aload_n 0, 1) := by decide +kernel
theorem dX3_isLater_1 : decode cX3_isLater 1 = .ok (.getfield 18, 3) := by decide +kernel
theorem dX3_isLater_4 : decode cX3_isLater 4 = .ok (.ifCond .eq 17, 3) := by decide +kernel
theorem dX3_isLater_7 : decode cX3_isLater 7 = .ok (.iload_n 1, 1) := by decide +kernel
theorem dX3_isLater_8 : decode cX3_isLater 8 = .ok (.aload_n 0, 1) := by decide +kernel
theorem dX3_isLater_9 : decode cX3_isLater 9 = .ok (.aload_n 0, 1) := by decide +kernel
theorem dX3_isLater_10 : decode cX3_isLater 10 = .ok (.getfield 18, 3) := by decide +kernel
theorem dX3_isLater_13 : decode cX3_isLater 13 = .ok (.iconst 1, 1) := by decide +kernel
theorem dX3_isLater_14 : decode cX3_isLater 14 = .ok (.isub, 1) := by decide +kernel
theorem dX3_isLater_15 : decode cX3_isLater 15 = .ok (.invokevirtual 35, 3) := by decide +kernel
theorem dX3_isLater_18 : decode cX3_isLater 18 = .ok (.if_icmp .le 7, 3) := by decide +kernel
theorem dX3_isLater_21 : decode cX3_isLater 21 = .ok (.iconst 1, 1) := by decide +kernel
theorem dX3_isLater_22 : decode cX3_isLater 22 = .ok (.goto 4, 3) := by decide +kernel
theorem dX3_isLater_25 : decode cX3_isLater 25 = .ok (.iconst 0, 1) := by decide +kernel
theorem dX3_isLater_26 : decode cX3_isLater 26 = .ok (.ireturn, 1) := by decide +kernel
theorem dX3_append_0 : decode cX3_append 0 = .ok (.aload_n 0, 1) := by decide +kernel
theorem dX3_append_1 : decode cX3_append 1 = .ok (.invokevirtual 39, 3) := by decide +kernel
theorem dX3_append_4 : decode cX3_append 4 = .ok (.ifCond .eq 6, 3) := by decide +kernel
theorem dX3_append_7 : decode cX3_append 7 = .ok (.bipush (-3), 2) := by decide +kernel
theorem dX3_append_9 : decode cX3_append 9 = .ok (.ireturn, 1) := by decide +kernel
theorem dX3_append_10 : decode cX3_append 10 = .ok (.aload_n 0, 1) := by decide +kernel
theorem dX3_append_11 : decode cX3_append 11 = .ok (.getfield 9, 3) := by decide +kernel
theorem dX3_append_14 : decode cX3_append 14 = .ok (.aload_n 0, 1) := by decide +kernel
theorem dX3_append_15 : decode cX3_append 15 = .ok (.getfield 18, 3) := by decide +kernel
theorem dX3_append_18 : decode cX3_append 18 = .ok (.iload_n 1, 1) := by decide +kernel
theorem dX3_append_19 : decode cX3_append 19 = .ok (.iastore, 1) := by decide +kernel
theorem dX3_append_20 : decode cX3_append 20 = .ok (.aload_n 0, 1) := by decide +kernel
theorem dX3_append_21 : decode cX3_append 21 = .ok (.getfield 15, 3) := by decide +kernel
theorem dX3_append_24 : decode cX3_append 24 = .ok (.aload_n 0, 1) := by decide +kernel
theorem dX3_append_25 : decode cX3_append 25 = .ok (.getfield 18, 3) := by decide +kernel
theorem dX3_append_28 : decode cX3_append 28 = .ok (.iload_n 2, 1) := by decide +kernel
theorem dX3_append_29 : decode cX3_append 29 = .ok (.iastore, 1) := by decide +kernel
theorem dX3_append_30 : decode cX3_append 30 = .ok (.aload_n 0, 1) := by decide +kernel
theorem dX3_append_31 : decode cX3_append 31 = .ok (.dup, 1) := by decide +kernel
theorem dX3_append_32 : decode cX3_append 32 = .ok (.getfield 18, 3) := by decide +kernel
theorem dX3_append_35 : decode cX3_append 35 = .ok (.iconst 1, 1) := by decide +kernel
theorem dX3_append_36 : decode cX3_append 36 = .ok (.iadd, 1) := by decide +kernel
theorem dX3_append_37 : decode cX3_append 37 = .ok (.putfield 18, 3) := by decide +kernel
theorem dX3_append_40 : decode cX3_append 40 = .ok (.aload_n 0, 1) := by decide +kernel
theorem dX3_append_41 : decode cX3_append 41 = .ok (.getfield 18, 3) := by decide +kernel
theorem dX3_append_44 : decode cX3_append 44 = .ok (.iconst 1, 1) := by decide +kernel
theorem dX3_append_45 : decode cX3_append 45 = .ok (.isub, 1) := by decide +kernel
theorem dX3_append_46 : decode cX3_append 46 = .ok (.ireturn, 1) := by decide +kernel
theorem dX3_remove_0 : decode cX3_remove 0 = .ok (.aload_n 0, 1) := by decide +kernel
theorem dX3_remove_1 : decode cX3_remove 1 = .ok (.iload_n 1, 1) := by decide +kernel
theorem dX3_remove_2 : decode cX3_remove 2 = .ok (.invokevirtual 28, 3) := by decide +kernel
theorem dX3_remove_5 : decode cX3_remove 5 = .ok (.ifCond .ne 4, 3) := by decide +kernel
theorem dX3_remove_8 : decode cX3_remove 8 = .ok (.return_, 1) := by decide +kernel
theorem dX3_remove_9 : decode cX3_remove 9 = .ok (.iload_n 1, 1) := by decide +kernel
theorem dX3_remove_10 : decode cX3_remove 10 = .ok (.istore_n 2, 1) := by decide +kernel
theorem dX3_remove_11 : decode cX3_remove 11 = .ok (.iload_n 2, 1) := by decide +kernel
theorem dX3_remove_12 : decode cX3_remove 12 = .ok (.iconst 1, 1) := by decide +kernel
theorem dX3_remove_13 : decode cX3_remove 13 = .ok (.iadd, 1) := by decide +kernel
theorem dX3_remove_14 : decode cX3_remove 14 = .ok (.aload_n 0, 1) := by decide +kernel
theorem dX3_remove_15 : decode cX3_remove 15 = .ok (.getfield 18, 3) := by decide +kernel
theorem dX3_remove_18 : decode cX3_remove 18 = .ok (.if_icmp .ge 37, 3) := by decide +kernel
theorem dX3_remove_21 : decode cX3_remove 21 = .ok (.aload_n 0, 1) := by decide +kernel
theorem dX3_remove_22 : decode cX3_remove 22 = .ok (.getfield 9, 3) := by decide +kernel
theorem dX3_remove_25 : decode cX3_remove 25 = .ok (.iload_n 2, 1) := by decide +kernel
theorem dX3_remove_26 : decode cX3_remove 26 = .ok (.aload_n 0, 1) := by decide +kernel
theorem dX3_remove_27 : decode cX3_remove 27 = .ok (.getfield 9, 3) := by decide +kernel
theorem dX3_remove_30 : decode cX3_remove 30 = .ok (.iload_n 2, 1) := by decide +kernel
theorem dX3_remove_31 : decode cX3_remove 31 = .ok (.iconst 1, 1) := by decide +kernel
theorem dX3_remove_32 : decode cX3_remove 32 = .ok (.iadd, 1) := by decide +kernel
theorem dX3_remove_33 : decode cX3_remove 33 = .ok (.iaload, 1) := by decide +kernel
theorem dX3_remove_34 : decode cX3_remove 34 = .ok (.iastore, 1) := by decide +kernel
theorem dX3_remove_35 : decode cX3_remove 35 = .ok (.aload_n 0, 1) := by decide +kernel
theorem dX3_remove_36 : decode cX3_remove 36 = .ok (.getfield 15, 3) := by decide +kernel
theorem dX3_remove_39 : decode cX3_remove 39 = .ok (.iload_n 2, 1) := by decide +kernel
theorem dX3_remove_40 : decode cX3_remove 40 = .ok (.aload_n 0, 1) := by decide +kernel
theorem dX3_remove_41 : decode cX3_remove 41 = .ok (.getfield 15, 3) := by decide +kernel
theorem dX3_remove_44 : decode cX3_remove 44 = .ok (.iload_n 2, 1) := by decide +kernel
theorem dX3_remove_45 : decode cX3_remove 45 = .ok (.iconst 1, 1) := by decide +kernel
theorem dX3_remove_46 : decode cX3_remove 46 = .ok (.iadd, 1) := by decide +kernel
theorem dX3_remove_47 : decode cX3_remove 47 = .ok (.iaload, 1) := by decide +kernel
theorem dX3_remove_48 : decode cX3_remove 48 = .ok (.iastore, 1) := by decide +kernel
theorem dX3_remove_49 : decode cX3_remove 49 = .ok (.iinc 2 1, 3) := by decide +kernel
theorem dX3_remove_52 : decode cX3_remove 52 = .ok (.goto (-41), 3) := by decide +kernel
theorem dX3_remove_55 : decode cX3_remove 55 = .ok (.aload_n 0, 1) := by decide +kernel
theorem dX3_remove_56 : decode cX3_remove 56 = .ok (.dup, 1) := by decide +kernel
theorem dX3_remove_57 : decode cX3_remove 57 = .ok (.getfield 18, 3) := by decide +kernel
theorem dX3_remove_60 : decode cX3_remove 60 = .ok (.iconst 1, 1) := by decide +kernel
theorem dX3_remove_61 : decode cX3_remove 61 = .ok (.isub, 1) := by decide +kernel
theorem dX3_remove_62 : decode cX3_remove 62 = .ok (.putfield 18, 3) := by decide +kernel
theorem dX3_remove_65 : decode cX3_remove 65 = .ok (.return_, 1) := by decide +kernel
theorem dX3_lastUpTo_0 : decode cX3_lastUpTo 0 = .ok (.bipush (-9), 2) := by decide +kernel
theorem dX3_lastUpTo_2 : decode cX3_lastUpTo 2 = .ok (.istore_n 3, 1) := by decide +kernel
theorem dX3_lastUpTo_3 : decode cX3_lastUpTo 3 = .ok (.iconst 0, 1) := by decide +kernel
theorem dX3_lastUpTo_4 : decode cX3_lastUpTo 4 = .ok (.istore 4, 2) := by decide +kernel
theorem dX3_lastUpTo_6 : decode cX3_lastUpTo 6 = .ok (.iload 4, 2) := by decide +kernel
theorem dX3_lastUpTo_8 : decode cX3_lastUpTo 8 = .ok (.aload_n 0, 1) := by decide +kernel
theorem dX3_lastUpTo_9 : decode cX3_lastUpTo 9 = .ok (.getfield 18, 3) := by decide +kernel
theorem dX3_lastUpTo_12 : decode cX3_lastUpTo 12 = .ok (.if_icmp .ge 33, 3) := by decide +kernel
theorem dX3_lastUpTo_15 : decode cX3_lastUpTo 15 = .ok (.iload_n 2, 1) := by decide +kernel
theorem dX3_lastUpTo_16 : decode cX3_lastUpTo 16 = .ok (.iload 4, 2) := by decide +kernel
theorem dX3_lastUpTo_18 : decode cX3_lastUpTo 18 = .ok (.invokestatic 43, 3) := by decide +kernel
theorem dX3_lastUpTo_21 : decode cX3_lastUpTo 21 = .ok (.iconst 1, 1) := by decide +kernel
theorem dX3_lastUpTo_22 : decode cX3_lastUpTo 22 = .ok (.if_icmp .ne 17, 3) := by decide +kernel
theorem dX3_lastUpTo_25 : decode cX3_lastUpTo 25 = .ok (.aload_n 0, 1) := by decide +kernel
theorem dX3_lastUpTo_26 : decode cX3_lastUpTo 26 = .ok (.getfield 9, 3) := by decide +kernel
theorem dX3_lastUpTo_29 : decode cX3_lastUpTo 29 = .ok (.iload 4, 2) := by decide +kernel
theorem dX3_lastUpTo_31 : decode cX3_lastUpTo 31 = .ok (.iaload, 1) := by decide +kernel
theorem dX3_lastUpTo_32 : decode cX3_lastUpTo 32 = .ok (.iload_n 1, 1) := by decide +kernel
theorem dX3_lastUpTo_33 : decode cX3_lastUpTo 33 = .ok (.if_icmp .gt 6, 3) := by decide +kernel
theorem dX3_lastUpTo_36 : decode cX3_lastUpTo 36 = .ok (.iload 4, 2) := by decide +kernel
theorem dX3_lastUpTo_38 : decode cX3_lastUpTo 38 = .ok (.istore_n 3, 1) := by decide +kernel
theorem dX3_lastUpTo_39 : decode cX3_lastUpTo 39 = .ok (.iinc 4 1, 3) := by decide +kernel
theorem dX3_lastUpTo_42 : decode cX3_lastUpTo 42 = .ok (.goto (-36), 3) := by decide +kernel
theorem dX3_lastUpTo_45 : decode cX3_lastUpTo 45 = .ok (.iload_n 3, 1) := by decide +kernel
theorem dX3_lastUpTo_46 : decode cX3_lastUpTo 46 = .ok (.ireturn, 1) := by decide +kernel
theorem dX3_firstFrom_0 : decode cX3_firstFrom 0 = .ok (.iconst 0, 1) := by decide +kernel
theorem dX3_firstFrom_1 : decode cX3_firstFrom 1 = .ok (.istore_n 3, 1) := by decide +kernel
theorem dX3_firstFrom_2 : decode cX3_firstFrom 2 = .ok (.iload_n 3, 1) := by decide +kernel
theorem dX3_firstFrom_3 : decode cX3_firstFrom 3 = .ok (.aload_n 0, 1) := by decide +kernel
theorem dX3_firstFrom_4 : decode cX3_firstFrom 4 = .ok (.getfield 18, 3) := by decide +kernel
theorem dX3_firstFrom_7 : decode cX3_firstFrom 7 = .ok (.if_icmp .ge 30, 3) := by decide +kernel
theorem dX3_firstFrom_10 : decode cX3_firstFrom 10 = .ok (.iload_n 2, 1) := by decide +kernel
theorem dX3_firstFrom_11 : decode cX3_firstFrom 11 = .ok (.iload_n 3, 1) := by decide +kernel
theorem dX3_firstFrom_12 : decode cX3_firstFrom 12 = .ok (.invokestatic 43, 3) := by decide +kernel
theorem dX3_firstFrom_15 : decode cX3_firstFrom 15 = .ok (.iconst 1, 1) := by decide +kernel
theorem dX3_firstFrom_16 : decode cX3_firstFrom 16 = .ok (.if_icmp .ne 15, 3) := by decide +kernel
theorem dX3_firstFrom_19 : decode cX3_firstFrom 19 = .ok (.aload_n 0, 1) := by decide +kernel
theorem dX3_firstFrom_20 : decode cX3_firstFrom 20 = .ok (.getfield 9, 3) := by decide +kernel
theorem dX3_firstFrom_23 : decode cX3_firstFrom 23 = .ok (.iload_n 3, 1) := by decide +kernel
theorem dX3_firstFrom_24 : decode cX3_firstFrom 24 = .ok (.iaload, 1) := by decide +kernel
theorem dX3_firstFrom_25 : decode cX3_firstFrom 25 = .ok (.iload_n 1, 1) := by decide +kernel
theorem dX3_firstFrom_26 : decode cX3_firstFrom 26 = .ok (.if_icmp .lt 5, 3) := by decide +kernel
theorem dX3_firstFrom_29 : decode cX3_firstFrom 29 = .ok (.iload_n 3, 1) := by decide +kernel
theorem dX3_firstFrom_30 : decode cX3_firstFrom 30 = .ok (.ireturn, 1) := by decide +kernel
theorem dX3_firstFrom_31 : decode cX3_firstFrom 31 = .ok (.iinc 3 1, 3) := by decide +kernel
theorem dX3_firstFrom_34 : decode cX3_firstFrom 34 = .ok (.goto (-32), 3) := by decide +kernel
theorem dX3_firstFrom_37 : decode cX3_firstFrom 37 = .ok (.bipush (-9), 2) := by decide +kernel
theorem dX3_firstFrom_39 : decode cX3_firstFrom 39 = .ok (.ireturn, 1) := by decide +kernel
theorem dX3_copy_0 : decode cX3_copy 0 = .ok (.iconst 0, 1) := by decide +kernel
theorem dX3_copy_1 : decode cX3_copy 1 = .ok (.istore_n 2, 1) := by decide +kernel
theorem dX3_copy_2 : decode cX3_copy 2 = .ok (.iload_n 2, 1) := by decide +kernel
theorem dX3_copy_3 : decode cX3_copy 3 = .ok (.bipush 14, 2) := by decide +kernel
theorem dX3_copy_5 : decode cX3_copy 5 = .ok (.if_icmp .ge 33, 3) := by decide +kernel
theorem dX3_copy_8 : decode cX3_copy 8 = .ok (.aload_n 0, 1) := by decide +kernel
theorem dX3_copy_9 : decode cX3_copy 9 = .ok (.getfield 9, 3) := by decide +kernel
theorem dX3_copy_12 : decode cX3_copy 12 = .ok (.iload_n 2, 1) := by decide +kernel
theorem dX3_copy_13 : decode cX3_copy 13 = .ok (.aload_n 1, 1) := by decide +kernel
theorem dX3_copy_14 : decode cX3_copy 14 = .ok (.getfield 9, 3) := by decide +kernel
theorem dX3_copy_17 : decode cX3_copy 17 = .ok (.iload_n 2, 1) := by decide +kernel
theorem dX3_copy_18 : decode cX3_copy 18 = .ok (.iaload, 1) := by decide +kernel
theorem dX3_copy_19 : decode cX3_copy 19 = .ok (.iastore, 1) := by decide +kernel
theorem dX3_copy_20 : decode cX3_copy 20 = .ok (.aload_n 0, 1) := by decide +kernel
theorem dX3_copy_21 : decode cX3_copy 21 = .ok (.getfield 15, 3) := by decide +kernel
theorem dX3_copy_24 : decode cX3_copy 24 = .ok (.iload_n 2, 1) := by decide +kernel
theorem dX3_copy_25 : decode cX3_copy 25 = .ok (.aload_n 1, 1) := by decide +kernel
theorem dX3_copy_26 : decode cX3_copy 26 = .ok (.getfield 15, 3) := by decide +kernel
theorem dX3_copy_29 : decode cX3_copy 29 = .ok (.iload_n 2, 1) := by decide +kernel
theorem dX3_copy_30 : decode cX3_copy 30 = .ok (.iaload, 1) := by decide +kernel
theorem dX3_copy_31 : decode cX3_copy 31 = .ok (.iastore, 1) := by decide +kernel
theorem dX3_copy_32 : decode cX3_copy 32 = .ok (.iinc 2 1, 3) := by decide +kernel
theorem dX3_copy_35 : decode cX3_copy 35 = .ok (.goto (-33), 3) := by decide +kernel
theorem dX3_copy_38 : decode cX3_copy 38 = .ok (.aload_n 0, 1) := by decide +kernel
theorem dX3_copy_39 : decode cX3_copy 39 = .ok (.aload_n 1, 1) := by decide +kernel
theorem dX3_copy_40 : decode cX3_copy 40 = .ok (.getfield 18, 3) := by decide +kernel
theorem dX3_copy_43 : decode cX3_copy 43 = .ok (.putfield 18, 3) := by decide +kernel
theorem dX3_copy_46 : decode cX3_copy 46 = .ok (.aload_n 0, 1) := by decide +kernel
theorem dX3_copy_47 : decode cX3_copy 47 = .ok (.aload_n 1, 1) := by decide +kernel
theorem dX3_copy_48 : decode cX3_copy 48 = .ok (.getfield 22, 3) := by decide +kernel
theorem dX3_copy_51 : decode cX3_copy 51 = .ok (.putfield 22, 3) := by decide +kernel
theorem dX3_copy_54 : decode cX3_copy 54 = .ok (.aload_n 0, 1) := by decide +kernel
theorem dX3_copy_55 : decode cX3_copy 55 = .ok (.aload_n 1, 1) := by decide +kernel
theorem dX3_copy_56 : decode cX3_copy 56 = .ok (.getfield 25, 3) := by decide +kernel
theorem dX3_copy_59 : decode cX3_copy 59 = .ok (.putfield 25, 3) := by decide +kernel
theorem dX3_copy_62 : decode cX3_copy 62 = .ok (.return_, 1) := by decide +kernel
theorem dX4_init_0 : decode cX4_init 0 = .ok (.aload_n 0, 1) := by decide +kernel
theorem dX4_init_1 : decode cX4_init 1 = .ok (.invokespecial 3, 3) := by decide +kernel
theorem dX4_init_4 : decode cX4_init 4 = .ok (.aload_n 0, 1) := by decide +kernel
theorem dX4_init_5 : decode cX4_init 5 = .ok (.aload_n 1, 1) := by decide +kernel
theorem dX4_init_6 : decode cX4_init 6 = .ok (.putfield 9, 3) := by decide +kernel
theorem dX4_init_9 : decode cX4_init 9 = .ok (.aload_n 0, 1) := by decide +kernel
theorem dX4_init_10 : decode cX4_init 10 = .ok (.new 15, 3) := by decide +kernel
theorem dX4_init_13 : decode cX4_init 13 = .ok (.dup, 1) := by decide +kernel
theorem dX4_init_14 : decode cX4_init 14 = .ok (.invokespecial 17, 3) := by decide +kernel
theorem dX4_init_17 : decode cX4_init 17 = .ok (.putfield 18, 3) := by decide +kernel
theorem dX4_init_20 : decode cX4_init 20 = .ok (.return_, 1) := by decide +kernel
theorem dX4_parse_0 : decode cX4_parse 0 = .ok (.aload_n 0, 1) := by decide +kernel
theorem dX4_parse_1 : decode cX4_parse 1 = .ok (.getfield 18, 3) := by decide +kernel
theorem dX4_parse_4 : decode cX4_parse 4 = .ok (.invokevirtual 22, 3) := by decide +kernel
theorem dX4_parse_7 : decode cX4_parse 7 = .ok (.aload_n 0, 1) := by decide +kernel
theorem dX4_parse_8 : decode cX4_parse 8 = .ok (.iconst 0, 1) := by decide +kernel
theorem dX4_parse_9 : decode cX4_parse 9 = .ok (.putfield 25, 3) := by decide +kernel
theorem dX4_parse_12 : decode cX4_parse 12 = .ok (.aload_n 0, 1) := by decide +kernel
theorem dX4_parse_13 : decode cX4_parse 13 = .ok (.iconst 0, 1) := by decide +kernel
theorem dX4_parse_14 : decode cX4_parse 14 = .ok (.putfield 29, 3) := by decide +kernel
theorem dX4_parse_17 : decode cX4_parse 17 = .ok (.aload_n 0, 1) := by decide +kernel
theorem dX4_parse_18 : decode cX4_parse 18 = .ok (.iconst 0, 1) := by decide +kernel
theorem dX4_parse_19 : decode cX4_parse 19 = .ok (.putfield 33, 3) := by decide +kernel
theorem dX4_parse_22 : decode cX4_parse 22 = .ok (.iconst 0, 1) := by decide +kernel
theorem dX4_parse_23 : decode cX4_parse 23 = .ok (.istore_n 1, 1) := by decide +kernel
theorem dX4_parse_24 : decode cX4_parse 24 = .ok (.iload_n 1, 1) := by decide +kernel
theorem dX4_parse_25 : decode cX4_parse 25 = .ok (.bipush 120, 2) := by decide +kernel
theorem dX4_parse_27 : decode cX4_parse 27 = .ok (.if_icmp .gt 119, 3) := by decide +kernel
theorem dX4_parse_30 : decode cX4_parse 30 = .ok (.aload_n 0, 1) := by decide +kernel
theorem dX4_parse_31 : decode cX4_parse 31 = .ok (.invokevirtual 36, 3) := by decide +kernel
theorem dX4_parse_34 : decode cX4_parse 34 = .ok (.iconst 0, 1) := by decide +kernel
theorem dX4_parse_35 : decode cX4_parse 35 = .ok (.istore_n 2, 1) := by decide +kernel
theorem dX4_parse_36 : decode cX4_parse 36 = .ok (.aload_n 0, 1) := by decide +kernel
theorem dX4_parse_37 : decode cX4_parse 37 = .ok (.getfield 39, 3) := by decide +kernel
theorem dX4_parse_40 : decode cX4_parse 40 = .ok (.lookupswitch 88 #[(0, 52), (100, 62), (112, 54), (114, 70), (117, 79)], 52) := by decide +kernel
theorem dX4_parse_92 : decode cX4_parse 92 = .ok (.iload_n 1, 1) := by decide +kernel
theorem dX4_parse_93 : decode cX4_parse 93 = .ok (.ireturn, 1) := by decide +kernel
theorem dX4_parse_94 : decode cX4_parse 94 = .ok (.aload_n 0, 1) := by decide +kernel
theorem dX4_parse_95 : decode cX4_parse 95 = .ok (.invokevirtual 42, 3) := by decide +kernel
theorem dX4_parse_98 : decode cX4_parse 98 = .ok (.istore_n 2, 1) := by decide +kernel
theorem dX4_parse_99 : decode cX4_parse 99 = .ok (.goto 29, 3) := by decide +kernel
theorem dX4_parse_102 : decode cX4_parse 102 = .ok (.aload_n 0, 1) := by decide +kernel
theorem dX4_parse_103 : decode cX4_parse 103 = .ok (.invokevirtual 46, 3) := by decide +kernel
theorem dX4_parse_106 : decode cX4_parse 106 = .ok (.istore_n 2, 1) := by decide +kernel
theorem dX4_parse_107 : decode cX4_parse 107 = .ok (.goto 21, 3) := by decide +kernel
theorem dX4_parse_110 : decode cX4_parse 110 = .ok (.aload_n 0, 1) := by decide +kernel
theorem dX4_parse_111 : decode cX4_parse 111 = .ok (.iconst 1, 1) := by decide +kernel
theorem dX4_parse_112 : decode cX4_parse 112 = .ok (.invokevirtual 49, 3) := by decide +kernel
theorem dX4_parse_115 : decode cX4_parse 115 = .ok (.istore_n 2, 1) := by decide +kernel
theorem dX4_parse_116 : decode cX4_parse 116 = .ok (.goto 12, 3) := by decide +kernel
theorem dX4_parse_119 : decode cX4_parse 119 = .ok (.aload_n 0, 1) := by decide +kernel
theorem dX4_parse_120 : decode cX4_parse 120 = .ok (.iconst 0, 1) := by decide +kernel
theorem dX4_parse_121 : decode cX4_parse 121 = .ok (.invokevirtual 49, 3) := by decide +kernel
theorem dX4_parse_124 : decode cX4_parse 124 = .ok (.istore_n 2, 1) := by decide +kernel
theorem dX4_parse_125 : decode cX4_parse 125 = .ok (.goto 3, 3) := by decide +kernel
theorem dX4_parse_128 : decode cX4_parse 128 = .ok (.iload_n 2, 1) := by decide +kernel
theorem dX4_parse_129 : decode cX4_parse 129 = .ok (.ifCond .ne 11, 3) := by decide +kernel
theorem dX4_parse_132 : decode cX4_parse 132 = .ok (.bipush (-10), 2) := by decide +kernel
theorem dX4_parse_134 : decode cX4_parse 134 = .ok (.aload_n 0, 1) := by decide +kernel
theorem dX4_parse_135 : decode cX4_parse 135 = .ok (.getfield 53, 3) := by decide +kernel
theorem dX4_parse_138 : decode cX4_parse 138 = .ok (.isub, 1) := by decide +kernel
theorem dX4_parse_139 : decode cX4_parse 139 = .ok (.ireturn, 1) := by decide +kernel
theorem dX4_parse_140 : decode cX4_parse 140 = .ok (.iinc 1 1, 3) := by decide +kernel
theorem dX4_parse_143 : decode cX4_parse 143 = .ok (.goto (-119), 3) := by decide +kernel
theorem dX4_parse_146 : decode cX4_parse 146 = .ok (.bipush (-10), 2) := by decide +kernel
theorem dX4_parse_148 : decode cX4_parse 148 = .ok (.aload_n 0, 1) := by decide +kernel
theorem dX4_parse_149 : decode cX4_parse 149 = .ok (.getfield 53, 3) := by decide +kernel
theorem dX4_parse_152 : decode cX4_parse 152 = .ok (.isub, 1) := by decide +kernel
theorem dX4_parse_153 : decode cX4_parse 153 = .ok (.ireturn, 1) := by decide +kernel
theorem dX4_isPromiseItem_0 : decode cX4_isPromiseItem 0 = .ok (.aload_n 0, 1) := by decide +kernel
theorem dX4_isPromiseItem_1 : decode cX4_isPromiseItem 1 = .ok (.getfield 29, 3) := by decide +kernel
theorem dX4_isPromiseItem_4 : decode cX4_isPromiseItem 4 = .ok (.ifCond .ne 13, 3) := by decide +kernel
theorem dX4_isPromiseItem_7 : decode cX4_isPromiseItem 7 = .ok (.aload_n 0, 1) := by decide +kernel
theorem dX4_isPromiseItem_8 : decode cX4_isPromiseItem 8 = .ok (.iconst 0, 1) := by decide +kernel
theorem dX4_isPromiseItem_9 : decode cX4_isPromiseItem 9 = .ok (.bipush 99, 2) := by decide +kernel
theorem dX4_isPromiseItem_11 : decode cX4_isPromiseItem 11 = .ok (.invokevirtual 56, 3) := by decide +kernel
theorem dX4_isPromiseItem_14 : decode cX4_isPromiseItem 14 = .ok (.ifCond .ne 5, 3) := by decide +kernel
theorem dX4_isPromiseItem_17 : decode cX4_isPromiseItem 17 = .ok (.iconst 0, 1) := by decide +kernel
theorem dX4_isPromiseItem_18 : decode cX4_isPromiseItem 18 = .ok (.ireturn, 1) := by decide +kernel
theorem dX4_isPromiseItem_19 : decode cX4_isPromiseItem 19 = .ok (.aload_n 0, 1) := by decide +kernel
theorem dX4_isPromiseItem_20 : decode cX4_isPromiseItem 20 = .ok (.iconst 1, 1) := by decide +kernel
theorem dX4_isPromiseItem_21 : decode cX4_isPromiseItem 21 = .ok (.putfield 29, 3) := by decide +kernel
theorem dX4_isPromiseItem_24 : decode cX4_isPromiseItem 24 = .ok (.aload_n 0, 1) := by decide +kernel
theorem dX4_isPromiseItem_25 : decode cX4_isPromiseItem 25 = .ok (.getfield 18, 3) := by decide +kernel
theorem dX4_isPromiseItem_28 : decode cX4_isPromiseItem 28 = .ok (.aload_n 0, 1) := by decide +kernel
theorem dX4_isPromiseItem_29 : decode cX4_isPromiseItem 29 = .ok (.getfield 60, 3) := by decide +kernel
theorem dX4_isPromiseItem_32 : decode cX4_isPromiseItem 32 = .ok (.putfield 63, 3) := by decide +kernel
theorem dX4_isPromiseItem_35 : decode cX4_isPromiseItem 35 = .ok (.aload_n 0, 1) := by decide +kernel
theorem dX4_isPromiseItem_36 : decode cX4_isPromiseItem 36 = .ok (.invokevirtual 66, 3) := by decide +kernel
theorem dX4_isPromiseItem_39 : decode cX4_isPromiseItem 39 = .ok (.ireturn, 1) := by decide +kernel
theorem dX4_isDelayItem_0 : decode cX4_isDelayItem 0 = .ok (.aload_n 0, 1) := by decide +kernel
theorem dX4_isDelayItem_1 : decode cX4_isDelayItem 1 = .ok (.getfield 33, 3) := by decide +kernel
theorem dX4_isDelayItem_4 : decode cX4_isDelayItem 4 = .ok (.ifCond .ne 13, 3) := by decide +kernel
theorem dX4_isDelayItem_7 : decode cX4_isDelayItem 7 = .ok (.aload_n 0, 1) := by decide +kernel
theorem dX4_isDelayItem_8 : decode cX4_isDelayItem 8 = .ok (.iconst 1, 1) := by decide +kernel
theorem dX4_isDelayItem_9 : decode cX4_isDelayItem 9 = .ok (.bipush 14, 2) := by decide +kernel
theorem dX4_isDelayItem_11 : decode cX4_isDelayItem 11 = .ok (.invokevirtual 56, 3) := by decide +kernel
theorem dX4_isDelayItem_14 : decode cX4_isDelayItem 14 = .ok (.ifCond .ne 5, 3) := by decide +kernel
theorem dX4_isDelayItem_17 : decode cX4_isDelayItem 17 = .ok (.iconst 0, 1) := by decide +kernel
theorem dX4_isDelayItem_18 : decode cX4_isDelayItem 18 = .ok (.ireturn, 1) := by decide +kernel
theorem dX4_isDelayItem_19 : decode cX4_isDelayItem 19 = .ok (.aload_n 0, 1) := by decide +kernel
theorem dX4_isDelayItem_20 : decode cX4_isDelayItem 20 = .ok (.iconst 1, 1) := by decide +kernel
theorem dX4_isDelayItem_21 : decode cX4_isDelayItem 21 = .ok (.putfield 33, 3) := by decide +kernel
theorem dX4_isDelayItem_24 : decode cX4_isDelayItem 24 = .ok (.aload_n 0, 1) := by decide +kernel
theorem dX4_isDelayItem_25 : decode cX4_isDelayItem 25 = .ok (.getfield 18, 3) := by decide +kernel
theorem dX4_isDelayItem_28 : decode cX4_isDelayItem 28 = .ok (.aload_n 0, 1) := by decide +kernel
theorem dX4_isDelayItem_29 : decode cX4_isDelayItem 29 = .ok (.getfield 60, 3) := by decide +kernel
theorem dX4_isDelayItem_32 : decode cX4_isDelayItem 32 = .ok (.putfield 69, 3) := by decide +kernel
theorem dX4_isDelayItem_35 : decode cX4_isDelayItem 35 = .ok (.aload_n 0, 1) := by decide +kernel
theorem dX4_isDelayItem_36 : decode cX4_isDelayItem 36 = .ok (.invokevirtual 66, 3) := by decide +kernel
theorem dX4_isDelayItem_39 : decode cX4_isDelayItem 39 = .ok (.ireturn, 1) := by decide +kernel
theorem dX4_isReadingItem_0 : decode cX4_isReadingItem 0 = .ok (.aload_n 0, 1) := by decide +kernel
theorem dX4_isReadingItem_1 : decode cX4_isReadingItem 1 = .ok (.getfield 18, 3) := by decide +kernel
theorem dX4_isReadingItem_4 : decode cX4_isReadingItem 4 = .ok (.invokevirtual 72, 3) := by decide +kernel
theorem dX4_isReadingItem_7 : decode cX4_isReadingItem 7 = .ok (.ifCond .ne 28, 3) := by decide +kernel
theorem dX4_isReadingItem_10 : decode cX4_isReadingItem 10 = .ok (.aload_n 0, 1) := by decide +kernel
theorem dX4_isReadingItem_11 : decode cX4_isReadingItem 11 = .ok (.iconst 0, 1) := by decide +kernel
theorem dX4_isReadingItem_12 : decode cX4_isReadingItem 12 = .ok (.sipush 999, 3) := by decide +kernel
theorem dX4_isReadingItem_15 : decode cX4_isReadingItem 15 = .ok (.invokevirtual 56, 3) := by decide +kernel
theorem dX4_isReadingItem_18 : decode cX4_isReadingItem 18 = .ok (.ifCond .eq 17, 3) := by decide +kernel
theorem dX4_isReadingItem_21 : decode cX4_isReadingItem 21 = .ok (.aload_n 0, 1) := by decide +kernel
theorem dX4_isReadingItem_22 : decode cX4_isReadingItem 22 = .ok (.getfield 18, 3) := by decide +kernel
theorem dX4_isReadingItem_25 : decode cX4_isReadingItem 25 = .ok (.aload_n 0, 1) := by decide +kernel
theorem dX4_isReadingItem_26 : decode cX4_isReadingItem 26 = .ok (.getfield 60, 3) := by decide +kernel
theorem dX4_isReadingItem_29 : decode cX4_isReadingItem 29 = .ok (.invokevirtual 75, 3) := by decide +kernel
theorem dX4_isReadingItem_32 : decode cX4_isReadingItem 32 = .ok (.ifCond .ne 5, 3) := by decide +kernel
theorem dX4_isReadingItem_35 : decode cX4_isReadingItem 35 = .ok (.iconst 0, 1) := by decide +kernel
theorem dX4_isReadingItem_36 : decode cX4_isReadingItem 36 = .ok (.ireturn, 1) := by decide +kernel
theorem dX4_isReadingItem_37 : decode cX4_isReadingItem 37 = .ok (.aload_n 0, 1) := by decide +kernel
theorem dX4_isReadingItem_38 : decode cX4_isReadingItem 38 = .ok (.getfield 60, 3) := by decide +kernel
theorem dX4_isReadingItem_41 : decode cX4_isReadingItem 41 = .ok (.istore_n 2, 1) := by decide +kernel
theorem dX4_isReadingItem_42 : decode cX4_isReadingItem 42 = .ok (.iload_n 1, 1) := by decide +kernel
theorem dX4_isReadingItem_43 : decode cX4_isReadingItem 43 = .ok (.ifCond .eq 16, 3) := by decide +kernel
theorem dX4_isReadingItem_46 : decode cX4_isReadingItem 46 = .ok (.aload_n 0, 1) := by decide +kernel
theorem dX4_isReadingItem_47 : decode cX4_isReadingItem 47 = .ok (.iconst 0, 1) := by decide +kernel
theorem dX4_isReadingItem_48 : decode cX4_isReadingItem 48 = .ok (.sipush 999, 3) := by decide +kernel
theorem dX4_isReadingItem_51 : decode cX4_isReadingItem 51 = .ok (.invokevirtual 56, 3) := by decide +kernel
theorem dX4_isReadingItem_54 : decode cX4_isReadingItem 54 = .ok (.ifCond .ne 5, 3) := by decide +kernel
theorem dX4_isReadingItem_57 : decode cX4_isReadingItem 57 = .ok (.iconst 0, 1) := by decide +kernel
theorem dX4_isReadingItem_58 : decode cX4_isReadingItem 58 = .ok (.ireturn, 1) := by decide +kernel
theorem dX4_isReadingItem_59 : decode cX4_isReadingItem 59 = .ok (.aload_n 0, 1) := by decide +kernel
theorem dX4_isReadingItem_60 : decode cX4_isReadingItem 60 = .ok (.getfield 18, 3) := by decide +kernel
theorem dX4_isReadingItem_63 : decode cX4_isReadingItem 63 = .ok (.iload_n 2, 1) := by decide +kernel
theorem dX4_isReadingItem_64 : decode cX4_isReadingItem 64 = .ok (.iload_n 1, 1) := by decide +kernel
theorem dX4_isReadingItem_65 : decode cX4_isReadingItem 65 = .ok (.ifCond .eq 10, 3) := by decide +kernel
theorem dX4_isReadingItem_68 : decode cX4_isReadingItem 68 = .ok (.aload_n 0, 1) := by decide +kernel
theorem dX4_isReadingItem_69 : decode cX4_isReadingItem 69 = .ok (.getfield 60, 3) := by decide +kernel
theorem dX4_isReadingItem_72 : decode cX4_isReadingItem 72 = .ok (.goto 5, 3) := by decide +kernel
theorem dX4_isReadingItem_75 : decode cX4_isReadingItem 75 = .ok (.bipush (-9), 2) := by decide +kernel
theorem dX4_isReadingItem_77 : decode cX4_isReadingItem 77 = .ok (.invokevirtual 79, 3) := by decide +kernel
theorem dX4_isReadingItem_80 : decode cX4_isReadingItem 80 = .ok (.pop, 1) := by decide +kernel
theorem dX4_isReadingItem_81 : decode cX4_isReadingItem 81 = .ok (.aload_n 0, 1) := by decide +kernel
theorem dX4_isReadingItem_82 : decode cX4_isReadingItem 82 = .ok (.invokevirtual 66, 3) := by decide +kernel
theorem dX4_isReadingItem_85 : decode cX4_isReadingItem 85 = .ok (.ireturn, 1) := by decide +kernel
theorem dX4_isNumber_0 : decode cX4_isNumber 0 = .ok (.aload_n 0, 1) := by decide +kernel
theorem dX4_isNumber_1 : decode cX4_isNumber 1 = .ok (.invokevirtual 36, 3) := by decide +kernel
theorem dX4_isNumber_4 : decode cX4_isNumber 4 = .ok (.aload_n 0, 1) := by decide +kernel
theorem dX4_isNumber_5 : decode cX4_isNumber 5 = .ok (.getfield 39, 3) := by decide +kernel
theorem dX4_isNumber_8 : decode cX4_isNumber 8 = .ok (.iconst 1, 1) := by decide +kernel
theorem dX4_isNumber_9 : decode cX4_isNumber 9 = .ok (.if_icmp .ne 19, 3) := by decide +kernel
theorem dX4_isNumber_12 : decode cX4_isNumber 12 = .ok (.aload_n 0, 1) := by decide +kernel
theorem dX4_isNumber_13 : decode cX4_isNumber 13 = .ok (.getfield 60, 3) := by decide +kernel
theorem dX4_isNumber_16 : decode cX4_isNumber 16 = .ok (.iload_n 1, 1) := by decide +kernel
theorem dX4_isNumber_17 : decode cX4_isNumber 17 = .ok (.iload_n 2, 1) := by decide +kernel
theorem dX4_isNumber_18 : decode cX4_isNumber 18 = .ok (.invokestatic 83, 3) := by decide +kernel
theorem dX4_isNumber_21 : decode cX4_isNumber 21 = .ok (.ifCond .eq 7, 3) := by decide +kernel
theorem dX4_isNumber_24 : decode cX4_isNumber 24 = .ok (.iconst 1, 1) := by decide +kernel
theorem dX4_isNumber_25 : decode cX4_isNumber 25 = .ok (.goto 4, 3) := by decide +kernel
theorem dX4_isNumber_28 : decode cX4_isNumber 28 = .ok (.iconst 0, 1) := by decide +kernel
theorem dX4_isNumber_29 : decode cX4_isNumber 29 = .ok (.ireturn, 1) := by decide +kernel
theorem dX4_isEnded_0 : decode cX4_isEnded 0 = .ok (.aload_n 0, 1) := by decide +kernel
theorem dX4_isEnded_1 : decode cX4_isEnded 1 = .ok (.invokevirtual 36, 3) := by decide +kernel
theorem dX4_isEnded_4 : decode cX4_isEnded 4 = .ok (.aload_n 0, 1) := by decide +kernel
theorem dX4_isEnded_5 : decode cX4_isEnded 5 = .ok (.getfield 39, 3) := by decide +kernel
theorem dX4_isEnded_8 : decode cX4_isEnded 8 = .ok (.bipush 59, 2) := by decide +kernel
theorem dX4_isEnded_10 : decode cX4_isEnded 10 = .ok (.if_icmp .ne 7, 3) := by decide +kernel
theorem dX4_isEnded_13 : decode cX4_isEnded 13 = .ok (.iconst 1, 1) := by decide +kernel
theorem dX4_isEnded_14 : decode cX4_isEnded 14 = .ok (.goto 4, 3) := by decide +kernel
theorem dX4_isEnded_17 : decode cX4_isEnded 17 = .ok (.iconst 0, 1) := by decide +kernel
theorem dX4_isEnded_18 : decode cX4_isEnded 18 = .ok (.ireturn, 1) := by decide +kernel
theorem dX4_readToken_0 : decode cX4_readToken 0 = .ok (.aload_n 0, 1) := by decide +kernel
theorem dX4_readToken_1 : decode cX4_readToken 1 = .ok (.getfield 25, 3) := by decide +kernel
theorem dX4_readToken_4 : decode cX4_readToken 4 = .ok (.bipush 120, 2) := by decide +kernel
theorem dX4_readToken_6 : decode cX4_readToken 6 = .ok (.if_icmp .ge 30, 3) := by decide +kernel
theorem dX4_readToken_9 : decode cX4_readToken 9 = .ok (.aload_n 0, 1) := by decide +kernel
theorem dX4_readToken_10 : decode cX4_readToken 10 = .ok (.getfield 9, 3) := by decide +kernel
theorem dX4_readToken_13 : decode cX4_readToken 13 = .ok (.aload_n 0, 1) := by decide +kernel
theorem dX4_readToken_14 : decode cX4_readToken 14 = .ok (.getfield 25, 3) := by decide +kernel
theorem dX4_readToken_17 : decode cX4_readToken 17 = .ok (.invokevirtual 87, 3) := by decide +kernel
theorem dX4_readToken_20 : decode cX4_readToken 20 = .ok (.ifCond .eq 16, 3) := by decide +kernel
theorem dX4_readToken_23 : decode cX4_readToken 23 = .ok (.aload_n 0, 1) := by decide +kernel
theorem dX4_readToken_24 : decode cX4_readToken 24 = .ok (.dup, 1) := by decide +kernel
theorem dX4_readToken_25 : decode cX4_readToken 25 = .ok (.getfield 25, 3) := by decide +kernel
theorem dX4_readToken_28 : decode cX4_readToken 28 = .ok (.iconst 1, 1) := by decide +kernel
theorem dX4_readToken_29 : decode cX4_readToken 29 = .ok (.iadd, 1) := by decide +kernel
theorem dX4_readToken_30 : decode cX4_readToken 30 = .ok (.putfield 25, 3) := by decide +kernel
theorem dX4_readToken_33 : decode cX4_readToken 33 = .ok (.goto (-33), 3) := by decide +kernel
theorem dX4_readToken_36 : decode cX4_readToken 36 = .ok (.aload_n 0, 1) := by decide +kernel
theorem dX4_readToken_37 : decode cX4_readToken 37 = .ok (.aload_n 0, 1) := by decide +kernel
theorem dX4_readToken_38 : decode cX4_readToken 38 = .ok (.getfield 25, 3) := by decide +kernel
theorem dX4_readToken_41 : decode cX4_readToken 41 = .ok (.putfield 53, 3) := by decide +kernel
theorem dX4_readToken_44 : decode cX4_readToken 44 = .ok (.aload_n 0, 1) := by decide +kernel
theorem dX4_readToken_45 : decode cX4_readToken 45 = .ok (.getfield 25, 3) := by decide +kernel
theorem dX4_readToken_48 : decode cX4_readToken 48 = .ok (.aload_n 0, 1) := by decide +kernel
theorem dX4_readToken_49 : decode cX4_readToken 49 = .ok (.getfield 9, 3) := by decide +kernel
theorem dX4_readToken_52 : decode cX4_readToken 52 = .ok (.getfield 92, 3) := by decide +kernel
theorem dX4_readToken_55 : decode cX4_readToken 55 = .ok (.if_icmp .lt 11, 3) := by decide +kernel
theorem dX4_readToken_58 : decode cX4_readToken 58 = .ok (.aload_n 0, 1) := by decide +kernel
theorem dX4_readToken_59 : decode cX4_readToken 59 = .ok (.iconst 0, 1) := by decide +kernel
theorem dX4_readToken_60 : decode cX4_readToken 60 = .ok (.putfield 39, 3) := by decide +kernel
theorem dX4_readToken_63 : decode cX4_readToken 63 = .ok (.goto 52, 3) := by decide +kernel
theorem dX4_readToken_66 : decode cX4_readToken 66 = .ok (.aload_n 0, 1) := by decide +kernel
theorem dX4_readToken_67 : decode cX4_readToken 67 = .ok (.getfield 9, 3) := by decide +kernel
theorem dX4_readToken_70 : decode cX4_readToken 70 = .ok (.aload_n 0, 1) := by decide +kernel
theorem dX4_readToken_71 : decode cX4_readToken 71 = .ok (.getfield 25, 3) := by decide +kernel
theorem dX4_readToken_74 : decode cX4_readToken 74 = .ok (.invokevirtual 95, 3) := by decide +kernel
theorem dX4_readToken_77 : decode cX4_readToken 77 = .ok (.ifCond .eq 10, 3) := by decide +kernel
theorem dX4_readToken_80 : decode cX4_readToken 80 = .ok (.aload_n 0, 1) := by decide +kernel
theorem dX4_readToken_81 : decode cX4_readToken 81 = .ok (.invokevirtual 98, 3) := by decide +kernel
theorem dX4_readToken_84 : decode cX4_readToken 84 = .ok (.goto 31, 3) := by decide +kernel
theorem dX4_readToken_87 : decode cX4_readToken 87 = .ok (.aload_n 0, 1) := by decide +kernel
theorem dX4_readToken_88 : decode cX4_readToken 88 = .ok (.aload_n 0, 1) := by decide +kernel
theorem dX4_readToken_89 : decode cX4_readToken 89 = .ok (.getfield 9, 3) := by decide +kernel
theorem dX4_readToken_92 : decode cX4_readToken 92 = .ok (.aload_n 0, 1) := by decide +kernel
theorem dX4_readToken_93 : decode cX4_readToken 93 = .ok (.getfield 25, 3) := by decide +kernel
theorem dX4_readToken_96 : decode cX4_readToken 96 = .ok (.invokevirtual 101, 3) := by decide +kernel
theorem dX4_readToken_99 : decode cX4_readToken 99 = .ok (.invokestatic 105, 3) := by decide +kernel
theorem dX4_readToken_102 : decode cX4_readToken 102 = .ok (.putfield 39, 3) := by decide +kernel
theorem dX4_readToken_105 : decode cX4_readToken 105 = .ok (.aload_n 0, 1) := by decide +kernel
theorem dX4_readToken_106 : decode cX4_readToken 106 = .ok (.dup, 1) := by decide +kernel
theorem dX4_readToken_107 : decode cX4_readToken 107 = .ok (.getfield 25, 3) := by decide +kernel
theorem dX4_readToken_110 : decode cX4_readToken 110 = .ok (.iconst 1, 1) := by decide +kernel
theorem dX4_readToken_111 : decode cX4_readToken 111 = .ok (.iadd, 1) := by decide +kernel
theorem dX4_readToken_112 : decode cX4_readToken 112 = .ok (.putfield 25, 3) := by decide +kernel
theorem dX4_readToken_115 : decode cX4_readToken 115 = .ok (.return_, 1) := by decide +kernel
theorem dX4_kindOf_0 : decode cX4_kindOf 0 = .ok (.iload_n 0, 1) := by decide +kernel
theorem dX4_kindOf_1 : decode cX4_kindOf 1 = .ok (.lookupswitch 53 #[(59, 51), (100, 51), (112, 51), (114, 51), (117, 51)], 51) := by decide +kernel
theorem dX4_kindOf_52 : decode cX4_kindOf 52 = .ok (.iload_n 0, 1) := by decide +kernel
theorem dX4_kindOf_53 : decode cX4_kindOf 53 = .ok (.ireturn, 1) := by decide +kernel
theorem dX4_kindOf_54 : decode cX4_kindOf 54 = .ok (.iconst 2, 1) := by decide +kernel
theorem dX4_kindOf_55 : decode cX4_kindOf 55 = .ok (.ireturn, 1) := by decide +kernel
theorem dX4_readDigits_0 : decode cX4_readDigits 0 = .ok (.aload_n 0, 1) := by decide +kernel
theorem dX4_readDigits_1 : decode cX4_readDigits 1 = .ok (.iconst 0, 1) := by decide +kernel
theorem dX4_readDigits_2 : decode cX4_readDigits 2 = .ok (.putfield 60, 3) := by decide +kernel
theorem dX4_readDigits_5 : decode cX4_readDigits 5 = .ok (.aload_n 0, 1) := by decide +kernel
theorem dX4_readDigits_6 : decode cX4_readDigits 6 = .ok (.getfield 25, 3) := by decide +kernel
theorem dX4_readDigits_9 : decode cX4_readDigits 9 = .ok (.bipush 120, 2) := by decide +kernel
theorem dX4_readDigits_11 : decode cX4_readDigits 11 = .ok (.if_icmp .ge 66, 3) := by decide +kernel
theorem dX4_readDigits_14 : decode cX4_readDigits 14 = .ok (.aload_n 0, 1) := by decide +kernel
theorem dX4_readDigits_15 : decode cX4_readDigits 15 = .ok (.getfield 9, 3) := by decide +kernel
theorem dX4_readDigits_18 : decode cX4_readDigits 18 = .ok (.aload_n 0, 1) := by decide +kernel
theorem dX4_readDigits_19 : decode cX4_readDigits 19 = .ok (.getfield 25, 3) := by decide +kernel
theorem dX4_readDigits_22 : decode cX4_readDigits 22 = .ok (.invokevirtual 95, 3) := by decide +kernel
theorem dX4_readDigits_25 : decode cX4_readDigits 25 = .ok (.ifCond .eq 52, 3) := by decide +kernel
theorem dX4_readDigits_28 : decode cX4_readDigits 28 = .ok (.aload_n 0, 1) := by decide +kernel
theorem dX4_readDigits_29 : decode cX4_readDigits 29 = .ok (.getfield 60, 3) := by decide +kernel
theorem dX4_readDigits_32 : decode cX4_readDigits 32 = .ok (.sipush 9999, 3) := by decide +kernel
theorem dX4_readDigits_35 : decode cX4_readDigits 35 = .ok (.if_icmp .gt 29, 3) := by decide +kernel
theorem dX4_readDigits_38 : decode cX4_readDigits 38 = .ok (.aload_n 0, 1) := by decide +kernel
theorem dX4_readDigits_39 : decode cX4_readDigits 39 = .ok (.aload_n 0, 1) := by decide +kernel
theorem dX4_readDigits_40 : decode cX4_readDigits 40 = .ok (.getfield 60, 3) := by decide +kernel
theorem dX4_readDigits_43 : decode cX4_readDigits 43 = .ok (.bipush 10, 2) := by decide +kernel
theorem dX4_readDigits_45 : decode cX4_readDigits 45 = .ok (.imul, 1) := by decide +kernel
theorem dX4_readDigits_46 : decode cX4_readDigits 46 = .ok (.aload_n 0, 1) := by decide +kernel
theorem dX4_readDigits_47 : decode cX4_readDigits 47 = .ok (.getfield 9, 3) := by decide +kernel
theorem dX4_readDigits_50 : decode cX4_readDigits 50 = .ok (.aload_n 0, 1) := by decide +kernel
theorem dX4_readDigits_51 : decode cX4_readDigits 51 = .ok (.getfield 25, 3) := by decide +kernel
theorem dX4_readDigits_54 : decode cX4_readDigits 54 = .ok (.invokevirtual 101, 3) := by decide +kernel
theorem dX4_readDigits_57 : decode cX4_readDigits 57 = .ok (.bipush 48, 2) := by decide +kernel
theorem dX4_readDigits_59 : decode cX4_readDigits 59 = .ok (.isub, 1) := by decide +kernel
theorem dX4_readDigits_60 : decode cX4_readDigits 60 = .ok (.iadd, 1) := by decide +kernel
theorem dX4_readDigits_61 : decode cX4_readDigits 61 = .ok (.putfield 60, 3) := by decide +kernel
theorem dX4_readDigits_64 : decode cX4_readDigits 64 = .ok (.aload_n 0, 1) := by decide +kernel
theorem dX4_readDigits_65 : decode cX4_readDigits 65 = .ok (.dup, 1) := by decide +kernel
theorem dX4_readDigits_66 : decode cX4_readDigits 66 = .ok (.getfield 25, 3) := by decide +kernel
theorem dX4_readDigits_69 : decode cX4_readDigits 69 = .ok (.iconst 1, 1) := by decide +kernel
theorem dX4_readDigits_70 : decode cX4_readDigits 70 = .ok (.iadd, 1) := by decide +kernel
theorem dX4_readDigits_71 : decode cX4_readDigits 71 = .ok (.putfield 25, 3) := by decide +kernel
theorem dX4_readDigits_74 : decode cX4_readDigits 74 = .ok (.goto (-69), 3) := by decide +kernel
theorem dX4_readDigits_77 : decode cX4_readDigits 77 = .ok (.aload_n 0, 1) := by decide +kernel
theorem dX4_readDigits_78 : decode cX4_readDigits 78 = .ok (.getfield 9, 3) := by decide +kernel
theorem dX4_readDigits_81 : decode cX4_readDigits 81 = .ok (.aload_n 0, 1) := by decide +kernel
theorem dX4_readDigits_82 : decode cX4_readDigits 82 = .ok (.getfield 53, 3) := by decide +kernel
theorem dX4_readDigits_85 : decode cX4_readDigits 85 = .ok (.invokevirtual 101, 3) := by decide +kernel
theorem dX4_readDigits_88 : decode cX4_readDigits 88 = .ok (.bipush 48, 2) := by decide +kernel
theorem dX4_readDigits_90 : decode cX4_readDigits 90 = .ok (.if_icmp .ne 20, 3) := by decide +kernel
theorem dX4_readDigits_93 : decode cX4_readDigits 93 = .ok (.aload_n 0, 1) := by decide +kernel
theorem dX4_readDigits_94 : decode cX4_readDigits 94 = .ok (.getfield 25, 3) := by decide +kernel
theorem dX4_readDigits_97 : decode cX4_readDigits 97 = .ok (.aload_n 0, 1) := by decide +kernel
theorem dX4_readDigits_98 : decode cX4_readDigits 98 = .ok (.getfield 53, 3) := by decide +kernel
theorem dX4_readDigits_101 : decode cX4_readDigits 101 = .ok (.isub, 1) := by decide +kernel
theorem dX4_readDigits_102 : decode cX4_readDigits 102 = .ok (.iconst 1, 1) := by decide +kernel
theorem dX4_readDigits_103 : decode cX4_readDigits 103 = .ok (.if_icmp .le 7, 3) := by decide +kernel
theorem dX4_readDigits_106 : decode cX4_readDigits 106 = .ok (.iconst 1, 1) := by decide +kernel
theorem dX4_readDigits_107 : decode cX4_readDigits 107 = .ok (.goto 4, 3) := by decide +kernel
theorem dX4_readDigits_110 : decode cX4_readDigits 110 = .ok (.iconst 0, 1) := by decide +kernel
theorem dX4_readDigits_111 : decode cX4_readDigits 111 = .ok (.istore_n 1, 1) := by decide +kernel
theorem dX4_readDigits_112 : decode cX4_readDigits 112 = .ok (.aload_n 0, 1) := by decide +kernel
theorem dX4_readDigits_113 : decode cX4_readDigits 113 = .ok (.iload_n 1, 1) := by decide +kernel
theorem dX4_readDigits_114 : decode cX4_readDigits 114 = .ok (.ifCond .ne 13, 3) := by decide +kernel
theorem dX4_readDigits_117 : decode cX4_readDigits 117 = .ok (.aload_n 0, 1) := by decide +kernel
theorem dX4_readDigits_118 : decode cX4_readDigits 118 = .ok (.getfield 60, 3) := by decide +kernel
theorem dX4_readDigits_121 : decode cX4_readDigits 121 = .ok (.sipush 9999, 3) := by decide +kernel
theorem dX4_readDigits_124 : decode cX4_readDigits 124 = .ok (.if_icmp .le 7, 3) := by decide +kernel
theorem dX4_readDigits_127 : decode cX4_readDigits 127 = .ok (.iconst 2, 1) := by decide +kernel
theorem dX4_readDigits_128 : decode cX4_readDigits 128 = .ok (.goto 4, 3) := by decide +kernel
theorem dX4_readDigits_131 : decode cX4_readDigits 131 = .ok (.iconst 1, 1) := by decide +kernel
theorem dX4_readDigits_132 : decode cX4_readDigits 132 = .ok (.putfield 39, 3) := by decide +kernel
theorem dX4_readDigits_135 : decode cX4_readDigits 135 = .ok (.return_, 1) := by decide +kernel
theorem dX5_init_0 : decode cX5_init 0 = .ok (.aload_n 0, 1) := by decide +kernel
theorem dX5_init_1 : decode cX5_init 1 = .ok (.invokespecial 3, 3) := by decide +kernel
theorem dX5_init_4 : decode cX5_init 4 = .ok (.aload_n 0, 1) := by decide +kernel
theorem dX5_init_5 : decode cX5_init 5 = .ok (.iconst 0, 1) := by decide +kernel
theorem dX5_init_6 : decode cX5_init 6 = .ok (.putfield 9, 3) := by decide +kernel
theorem dX5_init_9 : decode cX5_init 9 = .ok (.aload_n 0, 1) := by decide +kernel
theorem dX5_init_10 : decode cX5_init 10 = .ok (.iconst 0, 1) := by decide +kernel
theorem dX5_init_11 : decode cX5_init 11 = .ok (.putfield 15, 3) := by decide +kernel
theorem dX5_init_14 : decode cX5_init 14 = .ok (.aload_n 0, 1) := by decide +kernel
theorem dX5_init_15 : decode cX5_init 15 = .ok (.iconst 0, 1) := by decide +kernel
theorem dX5_init_16 : decode cX5_init 16 = .ok (.putfield 18, 3) := by decide +kernel
theorem dX5_init_19 : decode cX5_init 19 = .ok (.return_, 1) := by decide +kernel
theorem dX5_isFull_0 : decode cX5_isFull 0 = .ok (.aload_n 0, 1) := by decide +kernel
theorem dX5_isFull_1 : decode cX5_isFull 1 = .ok (.getfield 9, 3) := by decide +kernel
theorem dX5_isFull_4 : decode cX5_isFull 4 = .ok (.bipush 6, 2) := by decide +kernel
theorem dX5_isFull_6 : decode cX5_isFull 6 = .ok (.if_icmp .lt 7, 3) := by decide +kernel
theorem dX5_isFull_9 : decode cX5_isFull 9 = .ok (.iconst 1, 1) := by decide +kernel
theorem dX5_isFull_10 : decode cX5_isFull 10 = .ok (.goto 4, 3) := by decide +kernel
theorem dX5_isFull_13 : decode cX5_isFull 13 = .ok (.iconst 0, 1) := by decide +kernel
theorem dX5_isFull_14 : decode cX5_isFull 14 = .ok (.ireturn, 1) := by decide +kernel
theorem dX5_put_0 : decode cX5_put 0 = .ok (.iload_n 2, 1) := by decide +kernel
theorem dX5_put_1 : decode cX5_put 1 = .ok (.iconst 1, 1) := by decide +kernel
theorem dX5_put_2 : decode cX5_put 2 = .ok (.if_icmp .ne 18, 3) := by decide +kernel
theorem dX5_put_5 : decode cX5_put 5 = .ok (.aload_n 0, 1) := by decide +kernel
theorem dX5_put_6 : decode cX5_put 6 = .ok (.dup, 1) := by decide +kernel
theorem dX5_put_7 : decode cX5_put 7 = .ok (.getfield 15, 3) := by decide +kernel
theorem dX5_put_10 : decode cX5_put 10 = .ok (.iconst 1, 1) := by decide +kernel
theorem dX5_put_11 : decode cX5_put 11 = .ok (.iload_n 1, 1) := by decide +kernel
theorem dX5_put_12 : decode cX5_put 12 = .ok (.ishl, 1) := by decide +kernel
theorem dX5_put_13 : decode cX5_put 13 = .ok (.ior, 1) := by decide +kernel
theorem dX5_put_14 : decode cX5_put 14 = .ok (.putfield 15, 3) := by decide +kernel
theorem dX5_put_17 : decode cX5_put 17 = .ok (.goto 15, 3) := by decide +kernel
theorem dX5_put_20 : decode cX5_put 20 = .ok (.aload_n 0, 1) := by decide +kernel
theorem dX5_put_21 : decode cX5_put 21 = .ok (.dup, 1) := by decide +kernel
theorem dX5_put_22 : decode cX5_put 22 = .ok (.getfield 18, 3) := by decide +kernel
theorem dX5_put_25 : decode cX5_put 25 = .ok (.iconst 1, 1) := by decide +kernel
theorem dX5_put_26 : decode cX5_put 26 = .ok (.iload_n 1, 1) := by decide +kernel
theorem dX5_put_27 : decode cX5_put 27 = .ok (.ishl, 1) := by decide +kernel
theorem dX5_put_28 : decode cX5_put 28 = .ok (.ior, 1) := by decide +kernel
theorem dX5_put_29 : decode cX5_put 29 = .ok (.putfield 18, 3) := by decide +kernel
theorem dX5_put_32 : decode cX5_put 32 = .ok (.aload_n 0, 1) := by decide +kernel
theorem dX5_put_33 : decode cX5_put 33 = .ok (.dup, 1) := by decide +kernel
theorem dX5_put_34 : decode cX5_put 34 = .ok (.getfield 9, 3) := by decide +kernel
theorem dX5_put_37 : decode cX5_put 37 = .ok (.iconst 1, 1) := by decide +kernel
theorem dX5_put_38 : decode cX5_put 38 = .ok (.iadd, 1) := by decide +kernel
theorem dX5_put_39 : decode cX5_put 39 = .ok (.putfield 9, 3) := by decide +kernel
theorem dX5_put_42 : decode cX5_put 42 = .ok (.aload_n 0, 1) := by decide +kernel
theorem dX5_put_43 : decode cX5_put 43 = .ok (.getfield 9, 3) := by decide +kernel
theorem dX5_put_46 : decode cX5_put 46 = .ok (.ireturn, 1) := by decide +kernel
theorem dX5_wipe_0 : decode cX5_wipe 0 = .ok (.aload_n 0, 1) := by decide +kernel
theorem dX5_wipe_1 : decode cX5_wipe 1 = .ok (.getfield 9, 3) := by decide +kernel
theorem dX5_wipe_4 : decode cX5_wipe 4 = .ok (.istore_n 1, 1) := by decide +kernel
theorem dX5_wipe_5 : decode cX5_wipe 5 = .ok (.aload_n 0, 1) := by decide +kernel
theorem dX5_wipe_6 : decode cX5_wipe 6 = .ok (.iconst 0, 1) := by decide +kernel
theorem dX5_wipe_7 : decode cX5_wipe 7 = .ok (.putfield 9, 3) := by decide +kernel
theorem dX5_wipe_10 : decode cX5_wipe 10 = .ok (.aload_n 0, 1) := by decide +kernel
theorem dX5_wipe_11 : decode cX5_wipe 11 = .ok (.iconst 0, 1) := by decide +kernel
theorem dX5_wipe_12 : decode cX5_wipe 12 = .ok (.putfield 15, 3) := by decide +kernel
theorem dX5_wipe_15 : decode cX5_wipe 15 = .ok (.aload_n 0, 1) := by decide +kernel
theorem dX5_wipe_16 : decode cX5_wipe 16 = .ok (.iconst 0, 1) := by decide +kernel
theorem dX5_wipe_17 : decode cX5_wipe 17 = .ok (.putfield 18, 3) := by decide +kernel
theorem dX5_wipe_20 : decode cX5_wipe 20 = .ok (.iload_n 1, 1) := by decide +kernel
theorem dX5_wipe_21 : decode cX5_wipe 21 = .ok (.ireturn, 1) := by decide +kernel
theorem dX5_agreesWith_0 : decode cX5_agreesWith 0 = .ok (.iload_n 1, 1) := by decide +kernel
theorem dX5_agreesWith_1 : decode cX5_agreesWith 1 = .ok (.aload_n 0, 1) := by decide +kernel
theorem dX5_agreesWith_2 : decode cX5_agreesWith 2 = .ok (.getfield 15, 3) := by decide +kernel
theorem dX5_agreesWith_5 : decode cX5_agreesWith 5 = .ok (.iand, 1) := by decide +kernel
theorem dX5_agreesWith_6 : decode cX5_agreesWith 6 = .ok (.aload_n 0, 1) := by decide +kernel
theorem dX5_agreesWith_7 : decode cX5_agreesWith 7 = .ok (.getfield 15, 3) := by decide +kernel
theorem dX5_agreesWith_10 : decode cX5_agreesWith 10 = .ok (.if_icmp .ne 16, 3) := by decide +kernel
theorem dX5_agreesWith_13 : decode cX5_agreesWith 13 = .ok (.iload_n 1, 1) := by decide +kernel
theorem dX5_agreesWith_14 : decode cX5_agreesWith 14 = .ok (.aload_n 0, 1) := by decide +kernel
theorem dX5_agreesWith_15 : decode cX5_agreesWith 15 = .ok (.getfield 18, 3) := by decide +kernel
theorem dX5_agreesWith_18 : decode cX5_agreesWith 18 = .ok (.iand, 1) := by decide +kernel
theorem dX5_agreesWith_19 : decode cX5_agreesWith 19 = .ok (.ifCond .ne 7, 3) := by decide +kernel
theorem dX5_agreesWith_22 : decode cX5_agreesWith 22 = .ok (.iconst 1, 1) := by decide +kernel
theorem dX5_agreesWith_23 : decode cX5_agreesWith 23 = .ok (.goto 4, 3) := by decide +kernel
theorem dX5_agreesWith_26 : decode cX5_agreesWith 26 = .ok (.iconst 0, 1) := by decide +kernel
theorem dX5_agreesWith_27 : decode cX5_agreesWith 27 = .ok (.ireturn, 1) := by decide +kernel
theorem dX6_init_0 : decode cX6_init 0 = .ok (.aload_n 0, 1) := by decide +kernel
theorem dX6_init_1 : decode cX6_init 1 = .ok (.invokespecial 5, 3) := by decide +kernel
theorem dX6_init_4 : decode cX6_init 4 = .ok (.aload_n 0, 1) := by decide +kernel
theorem dX6_init_5 : decode cX6_init 5 = .ok (.iload_n 1, 1) := by decide +kernel
theorem dX6_init_6 : decode cX6_init 6 = .ok (.putfield 11, 3) := by decide +kernel
theorem dX6_init_9 : decode cX6_init 9 = .ok (.aload_n 0, 1) := by decide +kernel
theorem dX6_init_10 : decode cX6_init 10 = .ok (.iload_n 1, 1) := by decide +kernel
theorem dX6_init_11 : decode cX6_init 11 = .ok (.bipush 31, 2) := by decide +kernel
theorem dX6_init_13 : decode cX6_init 13 = .ok (.imul, 1) := by decide +kernel
theorem dX6_init_14 : decode cX6_init 14 = .ok (.newarray .int, 2) := by decide +kernel
theorem dX6_init_16 : decode cX6_init 16 = .ok (.putfield 15, 3) := by decide +kernel
theorem dX6_init_19 : decode cX6_init 19 = .ok (.aload_n 0, 1) := by decide +kernel
theorem dX6_init_20 : decode cX6_init 20 = .ok (.iconst 0, 1) := by decide +kernel
theorem dX6_init_21 : decode cX6_init 21 = .ok (.putfield 19, 3) := by decide +kernel
theorem dX6_init_24 : decode cX6_init 24 = .ok (.return_, 1) := by decide +kernel
theorem dX6_wipe_0 : decode cX6_wipe 0 = .ok (.aload_n 0, 1) := by decide +kernel
theorem dX6_wipe_1 : decode cX6_wipe 1 = .ok (.iconst 0, 1) := by decide +kernel
theorem dX6_wipe_2 : decode cX6_wipe 2 = .ok (.putfield 19, 3) := by decide +kernel
theorem dX6_wipe_5 : decode cX6_wipe 5 = .ok (.return_, 1) := by decide +kernel
theorem dX6_holds_0 : decode cX6_holds 0 = .ok (.iload_n 1, 1) := by decide +kernel
theorem dX6_holds_1 : decode cX6_holds 1 = .ok (.ifCond .lt 27, 3) := by decide +kernel
theorem dX6_holds_4 : decode cX6_holds 4 = .ok (.iload_n 1, 1) := by decide +kernel
theorem dX6_holds_5 : decode cX6_holds 5 = .ok (.aload_n 0, 1) := by decide +kernel
theorem dX6_holds_6 : decode cX6_holds 6 = .ok (.getfield 11, 3) := by decide +kernel
theorem dX6_holds_9 : decode cX6_holds 9 = .ok (.if_icmp .ge 19, 3) := by decide +kernel
theorem dX6_holds_12 : decode cX6_holds 12 = .ok (.aload_n 0, 1) := by decide +kernel
theorem dX6_holds_13 : decode cX6_holds 13 = .ok (.getfield 19, 3) := by decide +kernel
theorem dX6_holds_16 : decode cX6_holds 16 = .ok (.iload_n 1, 1) := by decide +kernel
theorem dX6_holds_17 : decode cX6_holds 17 = .ok (.invokestatic 22, 3) := by decide +kernel
theorem dX6_holds_20 : decode cX6_holds 20 = .ok (.iconst 1, 1) := by decide +kernel
theorem dX6_holds_21 : decode cX6_holds 21 = .ok (.if_icmp .ne 7, 3) := by decide +kernel
theorem dX6_holds_24 : decode cX6_holds 24 = .ok (.iconst 1, 1) := by decide +kernel
theorem dX6_holds_25 : decode cX6_holds 25 = .ok (.goto 4, 3) := by decide +kernel
theorem dX6_holds_28 : decode cX6_holds 28 = .ok (.iconst 0, 1) := by decide +kernel
theorem dX6_holds_29 : decode cX6_holds 29 = .ok (.ireturn, 1) := by decide +kernel
theorem dX6_put_0 : decode cX6_put 0 = .ok (.iload_n 1, 1) := by decide +kernel
theorem dX6_put_1 : decode cX6_put 1 = .ok (.ifCond .lt 11, 3) := by decide +kernel
theorem dX6_put_4 : decode cX6_put 4 = .ok (.iload_n 1, 1) := by decide +kernel
theorem dX6_put_5 : decode cX6_put 5 = .ok (.aload_n 0, 1) := by decide +kernel
theorem dX6_put_6 : decode cX6_put 6 = .ok (.getfield 11, 3) := by decide +kernel
theorem dX6_put_9 : decode cX6_put 9 = .ok (.if_icmp .lt 4, 3) := by decide +kernel
theorem dX6_put_12 : decode cX6_put 12 = .ok (.return_, 1) := by decide +kernel
theorem dX6_put_13 : decode cX6_put 13 = .ok (.iload_n 1, 1) := by decide +kernel
theorem dX6_put_14 : decode cX6_put 14 = .ok (.bipush 31, 2) := by decide +kernel
theorem dX6_put_16 : decode cX6_put 16 = .ok (.imul, 1) := by decide +kernel
theorem dX6_put_17 : decode cX6_put 17 = .ok (.istore_n 3, 1) := by decide +kernel
theorem dX6_put_18 : decode cX6_put 18 = .ok (.aload_n 0, 1) := by decide +kernel
theorem dX6_put_19 : decode cX6_put 19 = .ok (.getfield 15, 3) := by decide +kernel
theorem dX6_put_22 : decode cX6_put 22 = .ok (.iload_n 3, 1) := by decide +kernel
theorem dX6_put_23 : decode cX6_put 23 = .ok (.iconst 0, 1) := by decide +kernel
theorem dX6_put_24 : decode cX6_put 24 = .ok (.iadd, 1) := by decide +kernel
theorem dX6_put_25 : decode cX6_put 25 = .ok (.aload_n 2, 1) := by decide +kernel
theorem dX6_put_26 : decode cX6_put 26 = .ok (.getfield 26, 3) := by decide +kernel
theorem dX6_put_29 : decode cX6_put 29 = .ok (.iastore, 1) := by decide +kernel
theorem dX6_put_30 : decode cX6_put 30 = .ok (.aload_n 0, 1) := by decide +kernel
theorem dX6_put_31 : decode cX6_put 31 = .ok (.getfield 15, 3) := by decide +kernel
theorem dX6_put_34 : decode cX6_put 34 = .ok (.iload_n 3, 1) := by decide +kernel
theorem dX6_put_35 : decode cX6_put 35 = .ok (.iconst 1, 1) := by decide +kernel
theorem dX6_put_36 : decode cX6_put 36 = .ok (.iadd, 1) := by decide +kernel
theorem dX6_put_37 : decode cX6_put 37 = .ok (.aload_n 2, 1) := by decide +kernel
theorem dX6_put_38 : decode cX6_put 38 = .ok (.getfield 31, 3) := by decide +kernel
theorem dX6_put_41 : decode cX6_put 41 = .ok (.iastore, 1) := by decide +kernel
theorem dX6_put_42 : decode cX6_put 42 = .ok (.aload_n 0, 1) := by decide +kernel
theorem dX6_put_43 : decode cX6_put 43 = .ok (.getfield 15, 3) := by decide +kernel
theorem dX6_put_46 : decode cX6_put 46 = .ok (.iload_n 3, 1) := by decide +kernel
theorem dX6_put_47 : decode cX6_put 47 = .ok (.iconst 2, 1) := by decide +kernel
theorem dX6_put_48 : decode cX6_put 48 = .ok (.iadd, 1) := by decide +kernel
theorem dX6_put_49 : decode cX6_put 49 = .ok (.aload_n 2, 1) := by decide +kernel
theorem dX6_put_50 : decode cX6_put 50 = .ok (.getfield 34, 3) := by decide +kernel
theorem dX6_put_53 : decode cX6_put 53 = .ok (.iastore, 1) := by decide +kernel
theorem dX6_put_54 : decode cX6_put 54 = .ok (.iconst 0, 1) := by decide +kernel
theorem dX6_put_55 : decode cX6_put 55 = .ok (.istore 4, 2) := by decide +kernel
theorem dX6_put_57 : decode cX6_put 57 = .ok (.iload 4, 2) := by decide +kernel
theorem dX6_put_59 : decode cX6_put 59 = .ok (.bipush 14, 2) := by decide +kernel
theorem dX6_put_61 : decode cX6_put 61 = .ok (.if_icmp .ge 46, 3) := by decide +kernel
theorem dX6_put_64 : decode cX6_put 64 = .ok (.aload_n 0, 1) := by decide +kernel
theorem dX6_put_65 : decode cX6_put 65 = .ok (.getfield 15, 3) := by decide +kernel
theorem dX6_put_68 : decode cX6_put 68 = .ok (.iload_n 3, 1) := by decide +kernel
theorem dX6_put_69 : decode cX6_put 69 = .ok (.iconst 3, 1) := by decide +kernel
theorem dX6_put_70 : decode cX6_put 70 = .ok (.iadd, 1) := by decide +kernel
theorem dX6_put_71 : decode cX6_put 71 = .ok (.iload 4, 2) := by decide +kernel
theorem dX6_put_73 : decode cX6_put 73 = .ok (.iadd, 1) := by decide +kernel
theorem dX6_put_74 : decode cX6_put 74 = .ok (.aload_n 2, 1) := by decide +kernel
theorem dX6_put_75 : decode cX6_put 75 = .ok (.getfield 37, 3) := by decide +kernel
theorem dX6_put_78 : decode cX6_put 78 = .ok (.iload 4, 2) := by decide +kernel
theorem dX6_put_80 : decode cX6_put 80 = .ok (.iaload, 1) := by decide +kernel
theorem dX6_put_81 : decode cX6_put 81 = .ok (.iastore, 1) := by decide +kernel
theorem dX6_put_82 : decode cX6_put 82 = .ok (.aload_n 0, 1) := by decide +kernel
theorem dX6_put_83 : decode cX6_put 83 = .ok (.getfield 15, 3) := by decide +kernel
theorem dX6_put_86 : decode cX6_put 86 = .ok (.iload_n 3, 1) := by decide +kernel
theorem dX6_put_87 : decode cX6_put 87 = .ok (.bipush 17, 2) := by decide +kernel
theorem dX6_put_89 : decode cX6_put 89 = .ok (.iadd, 1) := by decide +kernel
theorem dX6_put_90 : decode cX6_put 90 = .ok (.iload 4, 2) := by decide +kernel
theorem dX6_put_92 : decode cX6_put 92 = .ok (.iadd, 1) := by decide +kernel
theorem dX6_put_93 : decode cX6_put 93 = .ok (.aload_n 2, 1) := by decide +kernel
theorem dX6_put_94 : decode cX6_put 94 = .ok (.getfield 40, 3) := by decide +kernel
theorem dX6_put_97 : decode cX6_put 97 = .ok (.iload 4, 2) := by decide +kernel
theorem dX6_put_99 : decode cX6_put 99 = .ok (.iaload, 1) := by decide +kernel
theorem dX6_put_100 : decode cX6_put 100 = .ok (.iastore, 1) := by decide +kernel
theorem dX6_put_101 : decode cX6_put 101 = .ok (.iinc 4 1, 3) := by decide +kernel
theorem dX6_put_104 : decode cX6_put 104 = .ok (.goto (-47), 3) := by decide +kernel
theorem dX6_put_107 : decode cX6_put 107 = .ok (.aload_n 0, 1) := by decide +kernel
theorem dX6_put_108 : decode cX6_put 108 = .ok (.dup, 1) := by decide +kernel
theorem dX6_put_109 : decode cX6_put 109 = .ok (.getfield 19, 3) := by decide +kernel
theorem dX6_put_112 : decode cX6_put 112 = .ok (.iconst 1, 1) := by decide +kernel
theorem dX6_put_113 : decode cX6_put 113 = .ok (.iload_n 1, 1) := by decide +kernel
theorem dX6_put_114 : decode cX6_put 114 = .ok (.ishl, 1) := by decide +kernel
theorem dX6_put_115 : decode cX6_put 115 = .ok (.ior, 1) := by decide +kernel
theorem dX6_put_116 : decode cX6_put 116 = .ok (.putfield 19, 3) := by decide +kernel
theorem dX6_put_119 : decode cX6_put 119 = .ok (.return_, 1) := by decide +kernel
theorem dX6_take_0 : decode cX6_take 0 = .ok (.aload_n 0, 1) := by decide +kernel
theorem dX6_take_1 : decode cX6_take 1 = .ok (.iload_n 1, 1) := by decide +kernel
theorem dX6_take_2 : decode cX6_take 2 = .ok (.invokevirtual 43, 3) := by decide +kernel
theorem dX6_take_5 : decode cX6_take 5 = .ok (.ifCond .ne 4, 3) := by decide +kernel
theorem dX6_take_8 : decode cX6_take 8 = .ok (.return_, 1) := by decide +kernel
theorem dX6_take_9 : decode cX6_take 9 = .ok (.iload_n 1, 1) := by decide +kernel
theorem dX6_take_10 : decode cX6_take 10 = .ok (.bipush 31, 2) := by decide +kernel
theorem dX6_take_12 : decode cX6_take 12 = .ok (.imul, 1) := by decide +kernel
theorem dX6_take_13 : decode cX6_take 13 = .ok (.istore_n 3, 1) := by decide +kernel
theorem dX6_take_14 : decode cX6_take 14 = .ok (.aload_n 2, 1) := by decide +kernel
theorem dX6_take_15 : decode cX6_take 15 = .ok (.aload_n 0, 1) := by decide +kernel
theorem dX6_take_16 : decode cX6_take 16 = .ok (.getfield 15, 3) := by decide +kernel
theorem dX6_take_19 : decode cX6_take 19 = .ok (.iload_n 3, 1) := by decide +kernel
theorem dX6_take_20 : decode cX6_take 20 = .ok (.iconst 0, 1) := by decide +kernel
theorem dX6_take_21 : decode cX6_take 21 = .ok (.iadd, 1) := by decide +kernel
theorem dX6_take_22 : decode cX6_take 22 = .ok (.iaload, 1) := by decide +kernel
theorem dX6_take_23 : decode cX6_take 23 = .ok (.putfield 26, 3) := by decide +kernel
theorem dX6_take_26 : decode cX6_take 26 = .ok (.aload_n 2, 1) := by decide +kernel
theorem dX6_take_27 : decode cX6_take 27 = .ok (.aload_n 0, 1) := by decide +kernel
theorem dX6_take_28 : decode cX6_take 28 = .ok (.getfield 15, 3) := by decide +kernel
theorem dX6_take_31 : decode cX6_take 31 = .ok (.iload_n 3, 1) := by decide +kernel
theorem dX6_take_32 : decode cX6_take 32 = .ok (.iconst 1, 1) := by decide +kernel
theorem dX6_take_33 : decode cX6_take 33 = .ok (.iadd, 1) := by decide +kernel
theorem dX6_take_34 : decode cX6_take 34 = .ok (.iaload, 1) := by decide +kernel
theorem dX6_take_35 : decode cX6_take 35 = .ok (.putfield 31, 3) := by decide +kernel
theorem dX6_take_38 : decode cX6_take 38 = .ok (.aload_n 2, 1) := by decide +kernel
theorem dX6_take_39 : decode cX6_take 39 = .ok (.aload_n 0, 1) := by decide +kernel
theorem dX6_take_40 : decode cX6_take 40 = .ok (.getfield 15, 3) := by decide +kernel
theorem dX6_take_43 : decode cX6_take 43 = .ok (.iload_n 3, 1) := by decide +kernel
theorem dX6_take_44 : decode cX6_take 44 = .ok (.iconst 2, 1) := by decide +kernel
theorem dX6_take_45 : decode cX6_take 45 = .ok (.iadd, 1) := by decide +kernel
theorem dX6_take_46 : decode cX6_take 46 = .ok (.iaload, 1) := by decide +kernel
theorem dX6_take_47 : decode cX6_take 47 = .ok (.putfield 34, 3) := by decide +kernel
theorem dX6_take_50 : decode cX6_take 50 = .ok (.iconst 0, 1) := by decide +kernel
theorem dX6_take_51 : decode cX6_take 51 = .ok (.istore 4, 2) := by decide +kernel
theorem dX6_take_53 : decode cX6_take 53 = .ok (.iload 4, 2) := by decide +kernel
theorem dX6_take_55 : decode cX6_take 55 = .ok (.bipush 14, 2) := by decide +kernel
theorem dX6_take_57 : decode cX6_take 57 = .ok (.if_icmp .ge 46, 3) := by decide +kernel
theorem dX6_take_60 : decode cX6_take 60 = .ok (.aload_n 2, 1) := by decide +kernel
theorem dX6_take_61 : decode cX6_take 61 = .ok (.getfield 37, 3) := by decide +kernel
theorem dX6_take_64 : decode cX6_take 64 = .ok (.iload 4, 2) := by decide +kernel
theorem dX6_take_66 : decode cX6_take 66 = .ok (.aload_n 0, 1) := by decide +kernel
theorem dX6_take_67 : decode cX6_take 67 = .ok (.getfield 15, 3) := by decide +kernel
theorem dX6_take_70 : decode cX6_take 70 = .ok (.iload_n 3, 1) := by decide +kernel
theorem dX6_take_71 : decode cX6_take 71 = .ok (.iconst 3, 1) := by decide +kernel
theorem dX6_take_72 : decode cX6_take 72 = .ok (.iadd, 1) := by decide +kernel
theorem dX6_take_73 : decode cX6_take 73 = .ok (.iload 4, 2) := by decide +kernel
theorem dX6_take_75 : decode cX6_take 75 = .ok (.iadd, 1) := by decide +kernel
theorem dX6_take_76 : decode cX6_take 76 = .ok (.iaload, 1) := by decide +kernel
theorem dX6_take_77 : decode cX6_take 77 = .ok (.iastore, 1) := by decide +kernel
theorem dX6_take_78 : decode cX6_take 78 = .ok (.aload_n 2, 1) := by decide +kernel
theorem dX6_take_79 : decode cX6_take 79 = .ok (.getfield 40, 3) := by decide +kernel
theorem dX6_take_82 : decode cX6_take 82 = .ok (.iload 4, 2) := by decide +kernel
theorem dX6_take_84 : decode cX6_take 84 = .ok (.aload_n 0, 1) := by decide +kernel
theorem dX6_take_85 : decode cX6_take 85 = .ok (.getfield 15, 3) := by decide +kernel
theorem dX6_take_88 : decode cX6_take 88 = .ok (.iload_n 3, 1) := by decide +kernel
theorem dX6_take_89 : decode cX6_take 89 = .ok (.bipush 17, 2) := by decide +kernel
theorem dX6_take_91 : decode cX6_take 91 = .ok (.iadd, 1) := by decide +kernel
theorem dX6_take_92 : decode cX6_take 92 = .ok (.iload 4, 2) := by decide +kernel
theorem dX6_take_94 : decode cX6_take 94 = .ok (.iadd, 1) := by decide +kernel
theorem dX6_take_95 : decode cX6_take 95 = .ok (.iaload, 1) := by decide +kernel
theorem dX6_take_96 : decode cX6_take 96 = .ok (.iastore, 1) := by decide +kernel
theorem dX6_take_97 : decode cX6_take 97 = .ok (.iinc 4 1, 3) := by decide +kernel
theorem dX6_take_100 : decode cX6_take 100 = .ok (.goto (-47), 3) := by decide +kernel
theorem dX6_take_103 : decode cX6_take 103 = .ok (.return_, 1) := by decide +kernel
theorem dX7_init_0 : decode cX7_init 0 = .ok (.aload_n 0, 1) := by decide +kernel
theorem dX7_init_1 : decode cX7_init 1 = .ok (.invokespecial 3, 3) := by decide +kernel
theorem dX7_init_4 : decode cX7_init 4 = .ok (.aload_n 0, 1) := by decide +kernel
theorem dX7_init_5 : decode cX7_init 5 = .ok (.aload_n 1, 1) := by decide +kernel
theorem dX7_init_6 : decode cX7_init 6 = .ok (.putfield 9, 3) := by decide +kernel
theorem dX7_init_9 : decode cX7_init 9 = .ok (.aload_n 0, 1) := by decide +kernel
theorem dX7_init_10 : decode cX7_init 10 = .ok (.aload_n 2, 1) := by decide +kernel
theorem dX7_init_11 : decode cX7_init 11 = .ok (.putfield 15, 3) := by decide +kernel
theorem dX7_init_14 : decode cX7_init 14 = .ok (.aload_n 0, 1) := by decide +kernel
theorem dX7_init_15 : decode cX7_init 15 = .ok (.aload_n 3, 1) := by decide +kernel
theorem dX7_init_16 : decode cX7_init 16 = .ok (.putfield 19, 3) := by decide +kernel
theorem dX7_init_19 : decode cX7_init 19 = .ok (.aload_n 0, 1) := by decide +kernel
theorem dX7_init_20 : decode cX7_init 20 = .ok (.bipush 100, 2) := by decide +kernel
theorem dX7_init_22 : decode cX7_init 22 = .ok (.newarray .int, 2) := by decide +kernel
theorem dX7_init_24 : decode cX7_init 24 = .ok (.putfield 23, 3) := by decide +kernel
theorem dX7_init_27 : decode cX7_init 27 = .ok (.aload_n 0, 1) := by decide +kernel
theorem dX7_init_28 : decode cX7_init 28 = .ok (.iconst 0, 1) := by decide +kernel
theorem dX7_init_29 : decode cX7_init 29 = .ok (.putfield 27, 3) := by decide +kernel
theorem dX7_init_32 : decode cX7_init 32 = .ok (.aload_n 0, 1) := by decide +kernel
theorem dX7_init_33 : decode cX7_init 33 = .ok (.iconst 0, 1) := by decide +kernel
theorem dX7_init_34 : decode cX7_init 34 = .ok (.putfield 31, 3) := by decide +kernel
theorem dX7_init_37 : decode cX7_init 37 = .ok (.aload_n 0, 1) := by decide +kernel
theorem dX7_init_38 : decode cX7_init 38 = .ok (.bipush (-9), 2) := by decide +kernel
theorem dX7_init_40 : decode cX7_init 40 = .ok (.putfield 35, 3) := by decide +kernel
theorem dX7_init_43 : decode cX7_init 43 = .ok (.aload_n 0, 1) := by decide +kernel
theorem dX7_init_44 : decode cX7_init 44 = .ok (.bipush (-9), 2) := by decide +kernel
theorem dX7_init_46 : decode cX7_init 46 = .ok (.putfield 38, 3) := by decide +kernel
theorem dX7_init_49 : decode cX7_init 49 = .ok (.return_, 1) := by decide +kernel
theorem dX7_outdate_0 : decode cX7_outdate 0 = .ok (.aload_n 0, 1) := by decide +kernel
theorem dX7_outdate_1 : decode cX7_outdate 1 = .ok (.iconst 1, 1) := by decide +kernel
theorem dX7_outdate_2 : decode cX7_outdate 2 = .ok (.putfield 27, 3) := by decide +kernel
theorem dX7_outdate_5 : decode cX7_outdate 5 = .ok (.return_, 1) := by decide +kernel
theorem dX7_run_0 : decode cX7_run 0 = .ok (.aload_n 0, 1) := by decide +kernel
theorem dX7_run_1 : decode cX7_run 1 = .ok (.invokevirtual 41, 3) := by decide +kernel
theorem dX7_run_4 : decode cX7_run 4 = .ok (.aload_n 0, 1) := by decide +kernel
theorem dX7_run_5 : decode cX7_run 5 = .ok (.iconst 0, 1) := by decide +kernel
theorem dX7_run_6 : decode cX7_run 6 = .ok (.putfield 31, 3) := by decide +kernel
theorem dX7_run_9 : decode cX7_run 9 = .ok (.aload_n 0, 1) := by decide +kernel
theorem dX7_run_10 : decode cX7_run 10 = .ok (.bipush (-9), 2) := by decide +kernel
theorem dX7_run_12 : decode cX7_run 12 = .ok (.putfield 35, 3) := by decide +kernel
theorem dX7_run_15 : decode cX7_run 15 = .ok (.aload_n 0, 1) := by decide +kernel
theorem dX7_run_16 : decode cX7_run 16 = .ok (.bipush (-9), 2) := by decide +kernel
theorem dX7_run_18 : decode cX7_run 18 = .ok (.putfield 38, 3) := by decide +kernel
theorem dX7_run_21 : decode cX7_run 21 = .ok (.iconst 0, 1) := by decide +kernel
theorem dX7_run_22 : decode cX7_run 22 = .ok (.istore_n 1, 1) := by decide +kernel
theorem dX7_run_23 : decode cX7_run 23 = .ok (.iload_n 1, 1) := by decide +kernel
theorem dX7_run_24 : decode cX7_run 24 = .ok (.bipush 99, 2) := by decide +kernel
theorem dX7_run_26 : decode cX7_run 26 = .ok (.if_icmp .gt 64, 3) := by decide +kernel
theorem dX7_run_29 : decode cX7_run 29 = .ok (.aload_n 0, 1) := by decide +kernel
theorem dX7_run_30 : decode cX7_run 30 = .ok (.getfield 19, 3) := by decide +kernel
theorem dX7_run_33 : decode cX7_run 33 = .ok (.aload_n 0, 1) := by decide +kernel
theorem dX7_run_34 : decode cX7_run 34 = .ok (.getfield 23, 3) := by decide +kernel
theorem dX7_run_37 : decode cX7_run 37 = .ok (.iload_n 1, 1) := by decide +kernel
theorem dX7_run_38 : decode cX7_run 38 = .ok (.iaload, 1) := by decide +kernel
theorem dX7_run_39 : decode cX7_run 39 = .ok (.invokevirtual 44, 3) := by decide +kernel
theorem dX7_run_42 : decode cX7_run 42 = .ok (.ifCond .ne 6, 3) := by decide +kernel
theorem dX7_run_45 : decode cX7_run 45 = .ok (.goto 39, 3) := by decide +kernel
theorem dX7_run_48 : decode cX7_run 48 = .ok (.aload_n 0, 1) := by decide +kernel
theorem dX7_run_49 : decode cX7_run 49 = .ok (.dup, 1) := by decide +kernel
theorem dX7_run_50 : decode cX7_run 50 = .ok (.getfield 31, 3) := by decide +kernel
theorem dX7_run_53 : decode cX7_run 53 = .ok (.iconst 1, 1) := by decide +kernel
theorem dX7_run_54 : decode cX7_run 54 = .ok (.iadd, 1) := by decide +kernel
theorem dX7_run_55 : decode cX7_run 55 = .ok (.putfield 31, 3) := by decide +kernel
theorem dX7_run_58 : decode cX7_run 58 = .ok (.aload_n 0, 1) := by decide +kernel
theorem dX7_run_59 : decode cX7_run 59 = .ok (.aload_n 0, 1) := by decide +kernel
theorem dX7_run_60 : decode cX7_run 60 = .ok (.getfield 35, 3) := by decide +kernel
theorem dX7_run_63 : decode cX7_run 63 = .ok (.bipush (-9), 2) := by decide +kernel
theorem dX7_run_65 : decode cX7_run 65 = .ok (.if_icmp .ne 7, 3) := by decide +kernel
theorem dX7_run_68 : decode cX7_run 68 = .ok (.iload_n 1, 1) := by decide +kernel
theorem dX7_run_69 : decode cX7_run 69 = .ok (.goto 7, 3) := by decide +kernel
theorem dX7_run_72 : decode cX7_run 72 = .ok (.aload_n 0, 1) := by decide +kernel
theorem dX7_run_73 : decode cX7_run 73 = .ok (.getfield 35, 3) := by decide +kernel
theorem dX7_run_76 : decode cX7_run 76 = .ok (.putfield 35, 3) := by decide +kernel
theorem dX7_run_79 : decode cX7_run 79 = .ok (.aload_n 0, 1) := by decide +kernel
theorem dX7_run_80 : decode cX7_run 80 = .ok (.iload_n 1, 1) := by decide +kernel
theorem dX7_run_81 : decode cX7_run 81 = .ok (.putfield 38, 3) := by decide +kernel
theorem dX7_run_84 : decode cX7_run 84 = .ok (.iinc 1 1, 3) := by decide +kernel
theorem dX7_run_87 : decode cX7_run 87 = .ok (.goto (-64), 3) := by decide +kernel
theorem dX7_run_90 : decode cX7_run 90 = .ok (.return_, 1) := by decide +kernel
theorem dX7_swingAllDoors_0 : decode cX7_swingAllDoors 0 = .ok (.aload_n 0, 1) := by decide +kernel
theorem dX7_swingAllDoors_1 : decode cX7_swingAllDoors 1 = .ok (.getfield 27, 3) := by decide +kernel
theorem dX7_swingAllDoors_4 : decode cX7_swingAllDoors 4 = .ok (.ifCond .ne 4, 3) := by decide +kernel
theorem dX7_swingAllDoors_7 : decode cX7_swingAllDoors 7 = .ok (.return_, 1) := by decide +kernel
theorem dX7_swingAllDoors_8 : decode cX7_swingAllDoors 8 = .ok (.aload_n 0, 1) := by decide +kernel
theorem dX7_swingAllDoors_9 : decode cX7_swingAllDoors 9 = .ok (.iconst 0, 1) := by decide +kernel
theorem dX7_swingAllDoors_10 : decode cX7_swingAllDoors 10 = .ok (.putfield 27, 3) := by decide +kernel
theorem dX7_swingAllDoors_13 : decode cX7_swingAllDoors 13 = .ok (.iconst 0, 1) := by decide +kernel
theorem dX7_swingAllDoors_14 : decode cX7_swingAllDoors 14 = .ok (.istore_n 1, 1) := by decide +kernel
theorem dX7_swingAllDoors_15 : decode cX7_swingAllDoors 15 = .ok (.iload_n 1, 1) := by decide +kernel
theorem dX7_swingAllDoors_16 : decode cX7_swingAllDoors 16 = .ok (.bipush 99, 2) := by decide +kernel
theorem dX7_swingAllDoors_18 : decode cX7_swingAllDoors 18 = .ok (.if_icmp .gt 23, 3) := by decide +kernel
theorem dX7_swingAllDoors_21 : decode cX7_swingAllDoors 21 = .ok (.aload_n 0, 1) := by decide +kernel
theorem dX7_swingAllDoors_22 : decode cX7_swingAllDoors 22 = .ok (.getfield 23, 3) := by decide +kernel
theorem dX7_swingAllDoors_25 : decode cX7_swingAllDoors 25 = .ok (.iload_n 1, 1) := by decide +kernel
theorem dX7_swingAllDoors_26 : decode cX7_swingAllDoors 26 = .ok (.aload_n 0, 1) := by decide +kernel
theorem dX7_swingAllDoors_27 : decode cX7_swingAllDoors 27 = .ok (.getfield 15, 3) := by decide +kernel
theorem dX7_swingAllDoors_30 : decode cX7_swingAllDoors 30 = .ok (.iload_n 1, 1) := by decide +kernel
theorem dX7_swingAllDoors_31 : decode cX7_swingAllDoors 31 = .ok (.invokevirtual 50, 3) := by decide +kernel
theorem dX7_swingAllDoors_34 : decode cX7_swingAllDoors 34 = .ok (.iastore, 1) := by decide +kernel
theorem dX7_swingAllDoors_35 : decode cX7_swingAllDoors 35 = .ok (.iinc 1 1, 3) := by decide +kernel
theorem dX7_swingAllDoors_38 : decode cX7_swingAllDoors 38 = .ok (.goto (-23), 3) := by decide +kernel
theorem dX7_swingAllDoors_41 : decode cX7_swingAllDoors 41 = .ok (.return_, 1) := by decide +kernel
theorem dX7_bestReading_0 : decode cX7_bestReading 0 = .ok (.bipush (-9), 2) := by decide +kernel
theorem dX7_bestReading_2 : decode cX7_bestReading 2 = .ok (.istore_n 1, 1) := by decide +kernel
theorem dX7_bestReading_3 : decode cX7_bestReading 3 = .ok (.aload_n 0, 1) := by decide +kernel
theorem dX7_bestReading_4 : decode cX7_bestReading 4 = .ok (.getfield 31, 3) := by decide +kernel
theorem dX7_bestReading_7 : decode cX7_bestReading 7 = .ok (.iconst 1, 1) := by decide +kernel
theorem dX7_bestReading_8 : decode cX7_bestReading 8 = .ok (.iadd, 1) := by decide +kernel
theorem dX7_bestReading_9 : decode cX7_bestReading 9 = .ok (.istore_n 2, 1) := by decide +kernel
theorem dX7_bestReading_10 : decode cX7_bestReading 10 = .ok (.iconst 0, 1) := by decide +kernel
