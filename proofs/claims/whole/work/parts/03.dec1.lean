theorem dX7_bestReading_11 : decode cX7_bestReading 11 = .ok (.istore_n 3, 1) := by decide +kernel
theorem dX7_bestReading_12 : decode cX7_bestReading 12 = .ok (.iload_n 3, 1) := by decide +kernel
theorem dX7_bestReading_13 : decode cX7_bestReading 13 = .ok (.aload_n 0, 1) := by decide +kernel
theorem dX7_bestReading_14 : decode cX7_bestReading 14 = .ok (.getfield 9, 3) := by decide +kernel
theorem dX7_bestReading_17 : decode cX7_bestReading 17 = .ok (.getfield 56, 3) := by decide +kernel
theorem dX7_bestReading_20 : decode cX7_bestReading 20 = .ok (.if_icmp .ge 60, 3) := by decide +kernel
theorem dX7_bestReading_23 : decode cX7_bestReading 23 = .ok (.aload_n 0, 1) := by decide +kernel
theorem dX7_bestReading_24 : decode cX7_bestReading 24 = .ok (.getfield 31, 3) := by decide +kernel
theorem dX7_bestReading_27 : decode cX7_bestReading 27 = .ok (.iconst 1, 1) := by decide +kernel
theorem dX7_bestReading_28 : decode cX7_bestReading 28 = .ok (.if_icmp .le 52, 3) := by decide +kernel
theorem dX7_bestReading_31 : decode cX7_bestReading 31 = .ok (.aload_n 0, 1) := by decide +kernel
theorem dX7_bestReading_32 : decode cX7_bestReading 32 = .ok (.iload_n 3, 1) := by decide +kernel
theorem dX7_bestReading_33 : decode cX7_bestReading 33 = .ok (.invokevirtual 61, 3) := by decide +kernel
theorem dX7_bestReading_36 : decode cX7_bestReading 36 = .ok (.istore 4, 2) := by decide +kernel
theorem dX7_bestReading_38 : decode cX7_bestReading 38 = .ok (.iload 4, 2) := by decide +kernel
theorem dX7_bestReading_40 : decode cX7_bestReading 40 = .ok (.aload_n 0, 1) := by decide +kernel
theorem dX7_bestReading_41 : decode cX7_bestReading 41 = .ok (.getfield 31, 3) := by decide +kernel
theorem dX7_bestReading_44 : decode cX7_bestReading 44 = .ok (.iload 4, 2) := by decide +kernel
theorem dX7_bestReading_46 : decode cX7_bestReading 46 = .ok (.isub, 1) := by decide +kernel
theorem dX7_bestReading_47 : decode cX7_bestReading 47 = .ok (.invokestatic 64, 3) := by decide +kernel
theorem dX7_bestReading_50 : decode cX7_bestReading 50 = .ok (.istore 5, 2) := by decide +kernel
theorem dX7_bestReading_52 : decode cX7_bestReading 52 = .ok (.aload_n 0, 1) := by decide +kernel
theorem dX7_bestReading_53 : decode cX7_bestReading 53 = .ok (.getfield 9, 3) := by decide +kernel
theorem dX7_bestReading_56 : decode cX7_bestReading 56 = .ok (.iload_n 3, 1) := by decide +kernel
theorem dX7_bestReading_57 : decode cX7_bestReading 57 = .ok (.invokevirtual 70, 3) := by decide +kernel
theorem dX7_bestReading_60 : decode cX7_bestReading 60 = .ok (.ifCond .eq 14, 3) := by decide +kernel
theorem dX7_bestReading_63 : decode cX7_bestReading 63 = .ok (.iload 5, 2) := by decide +kernel
theorem dX7_bestReading_65 : decode cX7_bestReading 65 = .ok (.iload_n 2, 1) := by decide +kernel
theorem dX7_bestReading_66 : decode cX7_bestReading 66 = .ok (.if_icmp .ge 8, 3) := by decide +kernel
theorem dX7_bestReading_69 : decode cX7_bestReading 69 = .ok (.iload 5, 2) := by decide +kernel
theorem dX7_bestReading_71 : decode cX7_bestReading 71 = .ok (.istore_n 2, 1) := by decide +kernel
theorem dX7_bestReading_72 : decode cX7_bestReading 72 = .ok (.iload_n 3, 1) := by decide +kernel
theorem dX7_bestReading_73 : decode cX7_bestReading 73 = .ok (.istore_n 1, 1) := by decide +kernel
theorem dX7_bestReading_74 : decode cX7_bestReading 74 = .ok (.iinc 3 1, 3) := by decide +kernel
theorem dX7_bestReading_77 : decode cX7_bestReading 77 = .ok (.goto (-65), 3) := by decide +kernel
theorem dX7_bestReading_80 : decode cX7_bestReading 80 = .ok (.iload_n 1, 1) := by decide +kernel
theorem dX7_bestReading_81 : decode cX7_bestReading 81 = .ok (.ireturn, 1) := by decide +kernel
theorem dX7_countKept_0 : decode cX7_countKept 0 = .ok (.iconst 0, 1) := by decide +kernel
theorem dX7_countKept_1 : decode cX7_countKept 1 = .ok (.istore_n 2, 1) := by decide +kernel
theorem dX7_countKept_2 : decode cX7_countKept 2 = .ok (.iconst 0, 1) := by decide +kernel
theorem dX7_countKept_3 : decode cX7_countKept 3 = .ok (.istore_n 3, 1) := by decide +kernel
theorem dX7_countKept_4 : decode cX7_countKept 4 = .ok (.iload_n 3, 1) := by decide +kernel
theorem dX7_countKept_5 : decode cX7_countKept 5 = .ok (.bipush 99, 2) := by decide +kernel
theorem dX7_countKept_7 : decode cX7_countKept 7 = .ok (.if_icmp .gt 38, 3) := by decide +kernel
theorem dX7_countKept_10 : decode cX7_countKept 10 = .ok (.aload_n 0, 1) := by decide +kernel
theorem dX7_countKept_11 : decode cX7_countKept 11 = .ok (.getfield 19, 3) := by decide +kernel
theorem dX7_countKept_14 : decode cX7_countKept 14 = .ok (.aload_n 0, 1) := by decide +kernel
theorem dX7_countKept_15 : decode cX7_countKept 15 = .ok (.getfield 23, 3) := by decide +kernel
theorem dX7_countKept_18 : decode cX7_countKept 18 = .ok (.iload_n 3, 1) := by decide +kernel
theorem dX7_countKept_19 : decode cX7_countKept 19 = .ok (.iaload, 1) := by decide +kernel
theorem dX7_countKept_20 : decode cX7_countKept 20 = .ok (.invokevirtual 44, 3) := by decide +kernel
theorem dX7_countKept_23 : decode cX7_countKept 23 = .ok (.ifCond .eq 16, 3) := by decide +kernel
theorem dX7_countKept_26 : decode cX7_countKept 26 = .ok (.iload_n 2, 1) := by decide +kernel
theorem dX7_countKept_27 : decode cX7_countKept 27 = .ok (.aload_n 0, 1) := by decide +kernel
theorem dX7_countKept_28 : decode cX7_countKept 28 = .ok (.getfield 23, 3) := by decide +kernel
theorem dX7_countKept_31 : decode cX7_countKept 31 = .ok (.iload_n 3, 1) := by decide +kernel
theorem dX7_countKept_32 : decode cX7_countKept 32 = .ok (.iaload, 1) := by decide +kernel
theorem dX7_countKept_33 : decode cX7_countKept 33 = .ok (.iload_n 1, 1) := by decide +kernel
theorem dX7_countKept_34 : decode cX7_countKept 34 = .ok (.invokestatic 73, 3) := by decide +kernel
theorem dX7_countKept_37 : decode cX7_countKept 37 = .ok (.iadd, 1) := by decide +kernel
theorem dX7_countKept_38 : decode cX7_countKept 38 = .ok (.istore_n 2, 1) := by decide +kernel
theorem dX7_countKept_39 : decode cX7_countKept 39 = .ok (.iinc 3 1, 3) := by decide +kernel
theorem dX7_countKept_42 : decode cX7_countKept 42 = .ok (.goto (-38), 3) := by decide +kernel
theorem dX7_countKept_45 : decode cX7_countKept 45 = .ok (.iload_n 2, 1) := by decide +kernel
theorem dX7_countKept_46 : decode cX7_countKept 46 = .ok (.ireturn, 1) := by decide +kernel
theorem dX8_init_0 : decode cX8_init 0 = .ok (.aload_n 0, 1) := by decide +kernel
theorem dX8_init_1 : decode cX8_init 1 = .ok (.invokespecial 3, 3) := by decide +kernel
theorem dX8_init_4 : decode cX8_init 4 = .ok (.aload_n 0, 1) := by decide +kernel
theorem dX8_init_5 : decode cX8_init 5 = .ok (.bipush 120, 2) := by decide +kernel
theorem dX8_init_7 : decode cX8_init 7 = .ok (.newarray .char, 2) := by decide +kernel
theorem dX8_init_9 : decode cX8_init 9 = .ok (.putfield 9, 3) := by decide +kernel
theorem dX8_init_12 : decode cX8_init 12 = .ok (.aload_n 0, 1) := by decide +kernel
theorem dX8_init_13 : decode cX8_init 13 = .ok (.iconst 0, 1) := by decide +kernel
theorem dX8_init_14 : decode cX8_init 14 = .ok (.putfield 15, 3) := by decide +kernel
theorem dX8_init_17 : decode cX8_init 17 = .ok (.return_, 1) := by decide +kernel
theorem dX8_isFull_0 : decode cX8_isFull 0 = .ok (.aload_n 0, 1) := by decide +kernel
theorem dX8_isFull_1 : decode cX8_isFull 1 = .ok (.getfield 15, 3) := by decide +kernel
theorem dX8_isFull_4 : decode cX8_isFull 4 = .ok (.bipush 120, 2) := by decide +kernel
theorem dX8_isFull_6 : decode cX8_isFull 6 = .ok (.if_icmp .lt 7, 3) := by decide +kernel
theorem dX8_isFull_9 : decode cX8_isFull 9 = .ok (.iconst 1, 1) := by decide +kernel
theorem dX8_isFull_10 : decode cX8_isFull 10 = .ok (.goto 4, 3) := by decide +kernel
theorem dX8_isFull_13 : decode cX8_isFull 13 = .ok (.iconst 0, 1) := by decide +kernel
theorem dX8_isFull_14 : decode cX8_isFull 14 = .ok (.ireturn, 1) := by decide +kernel
theorem dX8_put_0 : decode cX8_put 0 = .ok (.aload_n 0, 1) := by decide +kernel
theorem dX8_put_1 : decode cX8_put 1 = .ok (.invokevirtual 19, 3) := by decide +kernel
theorem dX8_put_4 : decode cX8_put 4 = .ok (.ifCond .eq 6, 3) := by decide +kernel
theorem dX8_put_7 : decode cX8_put 7 = .ok (.bipush (-3), 2) := by decide +kernel
theorem dX8_put_9 : decode cX8_put 9 = .ok (.ireturn, 1) := by decide +kernel
theorem dX8_put_10 : decode cX8_put 10 = .ok (.aload_n 0, 1) := by decide +kernel
theorem dX8_put_11 : decode cX8_put 11 = .ok (.getfield 9, 3) := by decide +kernel
theorem dX8_put_14 : decode cX8_put 14 = .ok (.aload_n 0, 1) := by decide +kernel
theorem dX8_put_15 : decode cX8_put 15 = .ok (.getfield 15, 3) := by decide +kernel
theorem dX8_put_18 : decode cX8_put 18 = .ok (.iload_n 1, 1) := by decide +kernel
theorem dX8_put_19 : decode cX8_put 19 = .ok (.castore, 1) := by decide +kernel
theorem dX8_put_20 : decode cX8_put 20 = .ok (.aload_n 0, 1) := by decide +kernel
theorem dX8_put_21 : decode cX8_put 21 = .ok (.dup, 1) := by decide +kernel
theorem dX8_put_22 : decode cX8_put 22 = .ok (.getfield 15, 3) := by decide +kernel
theorem dX8_put_25 : decode cX8_put 25 = .ok (.iconst 1, 1) := by decide +kernel
theorem dX8_put_26 : decode cX8_put 26 = .ok (.iadd, 1) := by decide +kernel
theorem dX8_put_27 : decode cX8_put 27 = .ok (.putfield 15, 3) := by decide +kernel
theorem dX8_put_30 : decode cX8_put 30 = .ok (.aload_n 0, 1) := by decide +kernel
theorem dX8_put_31 : decode cX8_put 31 = .ok (.getfield 15, 3) := by decide +kernel
theorem dX8_put_34 : decode cX8_put 34 = .ok (.ireturn, 1) := by decide +kernel
theorem dX8_wipe_0 : decode cX8_wipe 0 = .ok (.aload_n 0, 1) := by decide +kernel
theorem dX8_wipe_1 : decode cX8_wipe 1 = .ok (.getfield 15, 3) := by decide +kernel
theorem dX8_wipe_4 : decode cX8_wipe 4 = .ok (.istore_n 1, 1) := by decide +kernel
theorem dX8_wipe_5 : decode cX8_wipe 5 = .ok (.aload_n 0, 1) := by decide +kernel
theorem dX8_wipe_6 : decode cX8_wipe 6 = .ok (.iconst 0, 1) := by decide +kernel
theorem dX8_wipe_7 : decode cX8_wipe 7 = .ok (.putfield 15, 3) := by decide +kernel
theorem dX8_wipe_10 : decode cX8_wipe 10 = .ok (.iload_n 1, 1) := by decide +kernel
theorem dX8_wipe_11 : decode cX8_wipe 11 = .ok (.ireturn, 1) := by decide +kernel
theorem dX8_isDigit_0 : decode cX8_isDigit 0 = .ok (.iload_n 1, 1) := by decide +kernel
theorem dX8_isDigit_1 : decode cX8_isDigit 1 = .ok (.ifCond .lt 37, 3) := by decide +kernel
theorem dX8_isDigit_4 : decode cX8_isDigit 4 = .ok (.iload_n 1, 1) := by decide +kernel
theorem dX8_isDigit_5 : decode cX8_isDigit 5 = .ok (.aload_n 0, 1) := by decide +kernel
theorem dX8_isDigit_6 : decode cX8_isDigit 6 = .ok (.getfield 15, 3) := by decide +kernel
theorem dX8_isDigit_9 : decode cX8_isDigit 9 = .ok (.if_icmp .ge 29, 3) := by decide +kernel
theorem dX8_isDigit_12 : decode cX8_isDigit 12 = .ok (.aload_n 0, 1) := by decide +kernel
theorem dX8_isDigit_13 : decode cX8_isDigit 13 = .ok (.getfield 9, 3) := by decide +kernel
theorem dX8_isDigit_16 : decode cX8_isDigit 16 = .ok (.iload_n 1, 1) := by decide +kernel
theorem dX8_isDigit_17 : decode cX8_isDigit 17 = .ok (.caload, 1) := by decide +kernel
theorem dX8_isDigit_18 : decode cX8_isDigit 18 = .ok (.bipush 48, 2) := by decide +kernel
theorem dX8_isDigit_20 : decode cX8_isDigit 20 = .ok (.if_icmp .lt 18, 3) := by decide +kernel
theorem dX8_isDigit_23 : decode cX8_isDigit 23 = .ok (.aload_n 0, 1) := by decide +kernel
theorem dX8_isDigit_24 : decode cX8_isDigit 24 = .ok (.getfield 9, 3) := by decide +kernel
theorem dX8_isDigit_27 : decode cX8_isDigit 27 = .ok (.iload_n 1, 1) := by decide +kernel
theorem dX8_isDigit_28 : decode cX8_isDigit 28 = .ok (.caload, 1) := by decide +kernel
theorem dX8_isDigit_29 : decode cX8_isDigit 29 = .ok (.bipush 57, 2) := by decide +kernel
theorem dX8_isDigit_31 : decode cX8_isDigit 31 = .ok (.if_icmp .gt 7, 3) := by decide +kernel
theorem dX8_isDigit_34 : decode cX8_isDigit 34 = .ok (.iconst 1, 1) := by decide +kernel
theorem dX8_isDigit_35 : decode cX8_isDigit 35 = .ok (.goto 4, 3) := by decide +kernel
theorem dX8_isDigit_38 : decode cX8_isDigit 38 = .ok (.iconst 0, 1) := by decide +kernel
theorem dX8_isDigit_39 : decode cX8_isDigit 39 = .ok (.ireturn, 1) := by decide +kernel
theorem dX8_isBlank_0 : decode cX8_isBlank 0 = .ok (.iload_n 1, 1) := by decide +kernel
theorem dX8_isBlank_1 : decode cX8_isBlank 1 = .ok (.ifCond .lt 26, 3) := by decide +kernel
theorem dX8_isBlank_4 : decode cX8_isBlank 4 = .ok (.iload_n 1, 1) := by decide +kernel
theorem dX8_isBlank_5 : decode cX8_isBlank 5 = .ok (.aload_n 0, 1) := by decide +kernel
theorem dX8_isBlank_6 : decode cX8_isBlank 6 = .ok (.getfield 15, 3) := by decide +kernel
theorem dX8_isBlank_9 : decode cX8_isBlank 9 = .ok (.if_icmp .ge 18, 3) := by decide +kernel
theorem dX8_isBlank_12 : decode cX8_isBlank 12 = .ok (.aload_n 0, 1) := by decide +kernel
theorem dX8_isBlank_13 : decode cX8_isBlank 13 = .ok (.getfield 9, 3) := by decide +kernel
theorem dX8_isBlank_16 : decode cX8_isBlank 16 = .ok (.iload_n 1, 1) := by decide +kernel
theorem dX8_isBlank_17 : decode cX8_isBlank 17 = .ok (.caload, 1) := by decide +kernel
theorem dX8_isBlank_18 : decode cX8_isBlank 18 = .ok (.bipush 32, 2) := by decide +kernel
theorem dX8_isBlank_20 : decode cX8_isBlank 20 = .ok (.if_icmp .ne 7, 3) := by decide +kernel
theorem dX8_isBlank_23 : decode cX8_isBlank 23 = .ok (.iconst 1, 1) := by decide +kernel
theorem dX8_isBlank_24 : decode cX8_isBlank 24 = .ok (.goto 4, 3) := by decide +kernel
theorem dX8_isBlank_27 : decode cX8_isBlank 27 = .ok (.iconst 0, 1) := by decide +kernel
theorem dX8_isBlank_28 : decode cX8_isBlank 28 = .ok (.ireturn, 1) := by decide +kernel
theorem dX8_letterAt_0 : decode cX8_letterAt 0 = .ok (.iload_n 1, 1) := by decide +kernel
theorem dX8_letterAt_1 : decode cX8_letterAt 1 = .ok (.ifCond .lt 20, 3) := by decide +kernel
theorem dX8_letterAt_4 : decode cX8_letterAt 4 = .ok (.iload_n 1, 1) := by decide +kernel
theorem dX8_letterAt_5 : decode cX8_letterAt 5 = .ok (.aload_n 0, 1) := by decide +kernel
theorem dX8_letterAt_6 : decode cX8_letterAt 6 = .ok (.getfield 15, 3) := by decide +kernel
theorem dX8_letterAt_9 : decode cX8_letterAt 9 = .ok (.if_icmp .ge 12, 3) := by decide +kernel
theorem dX8_letterAt_12 : decode cX8_letterAt 12 = .ok (.aload_n 0, 1) := by decide +kernel
theorem dX8_letterAt_13 : decode cX8_letterAt 13 = .ok (.getfield 9, 3) := by decide +kernel
theorem dX8_letterAt_16 : decode cX8_letterAt 16 = .ok (.iload_n 1, 1) := by decide +kernel
theorem dX8_letterAt_17 : decode cX8_letterAt 17 = .ok (.caload, 1) := by decide +kernel
theorem dX8_letterAt_18 : decode cX8_letterAt 18 = .ok (.goto 4, 3) := by decide +kernel
theorem dX8_letterAt_21 : decode cX8_letterAt 21 = .ok (.iconst 0, 1) := by decide +kernel
theorem dX8_letterAt_22 : decode cX8_letterAt 22 = .ok (.ireturn, 1) := by decide +kernel
theorem dX9_init_0 : decode cX9_init 0 = .ok (.aload_n 0, 1) := by decide +kernel
theorem dX9_init_1 : decode cX9_init 1 = .ok (.invokespecial 3, 3) := by decide +kernel
theorem dX9_init_4 : decode cX9_init 4 = .ok (.aload_n 0, 1) := by decide +kernel
theorem dX9_init_5 : decode cX9_init 5 = .ok (.aload_n 1, 1) := by decide +kernel
theorem dX9_init_6 : decode cX9_init 6 = .ok (.putfield 9, 3) := by decide +kernel
theorem dX9_init_9 : decode cX9_init 9 = .ok (.aload_n 0, 1) := by decide +kernel
theorem dX9_init_10 : decode cX9_init 10 = .ok (.aload_n 2, 1) := by decide +kernel
theorem dX9_init_11 : decode cX9_init 11 = .ok (.putfield 15, 3) := by decide +kernel
theorem dX9_init_14 : decode cX9_init 14 = .ok (.aload_n 0, 1) := by decide +kernel
theorem dX9_init_15 : decode cX9_init 15 = .ok (.bipush 14, 2) := by decide +kernel
theorem dX9_init_17 : decode cX9_init 17 = .ok (.newarray .int, 2) := by decide +kernel
theorem dX9_init_19 : decode cX9_init 19 = .ok (.putfield 19, 3) := by decide +kernel
theorem dX9_init_22 : decode cX9_init 22 = .ok (.aload_n 0, 1) := by decide +kernel
theorem dX9_init_23 : decode cX9_init 23 = .ok (.bipush 14, 2) := by decide +kernel
theorem dX9_init_25 : decode cX9_init 25 = .ok (.newarray .int, 2) := by decide +kernel
theorem dX9_init_27 : decode cX9_init 27 = .ok (.putfield 23, 3) := by decide +kernel
theorem dX9_init_30 : decode cX9_init 30 = .ok (.aload_n 0, 1) := by decide +kernel
theorem dX9_init_31 : decode cX9_init 31 = .ok (.bipush 14, 2) := by decide +kernel
theorem dX9_init_33 : decode cX9_init 33 = .ok (.newarray .int, 2) := by decide +kernel
theorem dX9_init_35 : decode cX9_init 35 = .ok (.putfield 26, 3) := by decide +kernel
theorem dX9_init_38 : decode cX9_init 38 = .ok (.aload_n 0, 1) := by decide +kernel
theorem dX9_init_39 : decode cX9_init 39 = .ok (.bipush 14, 2) := by decide +kernel
theorem dX9_init_41 : decode cX9_init 41 = .ok (.newarray .int, 2) := by decide +kernel
theorem dX9_init_43 : decode cX9_init 43 = .ok (.putfield 29, 3) := by decide +kernel
theorem dX9_init_46 : decode cX9_init 46 = .ok (.aload_n 0, 1) := by decide +kernel
theorem dX9_init_47 : decode cX9_init 47 = .ok (.iconst 0, 1) := by decide +kernel
theorem dX9_init_48 : decode cX9_init 48 = .ok (.putfield 32, 3) := by decide +kernel
theorem dX9_init_51 : decode cX9_init 51 = .ok (.aload_n 0, 1) := by decide +kernel
theorem dX9_init_52 : decode cX9_init 52 = .ok (.iconst 0, 1) := by decide +kernel
theorem dX9_init_53 : decode cX9_init 53 = .ok (.putfield 36, 3) := by decide +kernel
theorem dX9_init_56 : decode cX9_init 56 = .ok (.aload_n 0, 1) := by decide +kernel
theorem dX9_init_57 : decode cX9_init 57 = .ok (.iconst 0, 1) := by decide +kernel
theorem dX9_init_58 : decode cX9_init 58 = .ok (.putfield 40, 3) := by decide +kernel
theorem dX9_init_61 : decode cX9_init 61 = .ok (.aload_n 0, 1) := by decide +kernel
theorem dX9_init_62 : decode cX9_init 62 = .ok (.iconst 0, 1) := by decide +kernel
theorem dX9_init_63 : decode cX9_init 63 = .ok (.putfield 43, 3) := by decide +kernel
theorem dX9_init_66 : decode cX9_init 66 = .ok (.return_, 1) := by decide +kernel
theorem dX9_outdate_0 : decode cX9_outdate 0 = .ok (.aload_n 0, 1) := by decide +kernel
theorem dX9_outdate_1 : decode cX9_outdate 1 = .ok (.iconst 1, 1) := by decide +kernel
theorem dX9_outdate_2 : decode cX9_outdate 2 = .ok (.putfield 32, 3) := by decide +kernel
theorem dX9_outdate_5 : decode cX9_outdate 5 = .ok (.return_, 1) := by decide +kernel
theorem dX9_refresh_0 : decode cX9_refresh 0 = .ok (.aload_n 0, 1) := by decide +kernel
theorem dX9_refresh_1 : decode cX9_refresh 1 = .ok (.getfield 32, 3) := by decide +kernel
theorem dX9_refresh_4 : decode cX9_refresh 4 = .ok (.ifCond .ne 4, 3) := by decide +kernel
theorem dX9_refresh_7 : decode cX9_refresh 7 = .ok (.return_, 1) := by decide +kernel
theorem dX9_refresh_8 : decode cX9_refresh 8 = .ok (.aload_n 0, 1) := by decide +kernel
theorem dX9_refresh_9 : decode cX9_refresh 9 = .ok (.iconst 0, 1) := by decide +kernel
theorem dX9_refresh_10 : decode cX9_refresh 10 = .ok (.putfield 32, 3) := by decide +kernel
theorem dX9_refresh_13 : decode cX9_refresh 13 = .ok (.aload_n 0, 1) := by decide +kernel
theorem dX9_refresh_14 : decode cX9_refresh 14 = .ok (.getfield 15, 3) := by decide +kernel
theorem dX9_refresh_17 : decode cX9_refresh 17 = .ok (.invokevirtual 46, 3) := by decide +kernel
theorem dX9_refresh_20 : decode cX9_refresh 20 = .ok (.aload_n 0, 1) := by decide +kernel
theorem dX9_refresh_21 : decode cX9_refresh 21 = .ok (.invokevirtual 51, 3) := by decide +kernel
theorem dX9_refresh_24 : decode cX9_refresh 24 = .ok (.aload_n 0, 1) := by decide +kernel
theorem dX9_refresh_25 : decode cX9_refresh 25 = .ok (.aload_n 0, 1) := by decide +kernel
theorem dX9_refresh_26 : decode cX9_refresh 26 = .ok (.aload_n 0, 1) := by decide +kernel
theorem dX9_refresh_27 : decode cX9_refresh 27 = .ok (.getfield 9, 3) := by decide +kernel
theorem dX9_refresh_30 : decode cX9_refresh 30 = .ok (.getfield 54, 3) := by decide +kernel
theorem dX9_refresh_33 : decode cX9_refresh 33 = .ok (.invokevirtual 59, 3) := by decide +kernel
theorem dX9_refresh_36 : decode cX9_refresh 36 = .ok (.putfield 40, 3) := by decide +kernel
theorem dX9_refresh_39 : decode cX9_refresh 39 = .ok (.aload_n 0, 1) := by decide +kernel
theorem dX9_refresh_40 : decode cX9_refresh 40 = .ok (.invokevirtual 63, 3) := by decide +kernel
theorem dX9_refresh_43 : decode cX9_refresh 43 = .ok (.aload_n 0, 1) := by decide +kernel
theorem dX9_refresh_44 : decode cX9_refresh 44 = .ok (.aload_n 0, 1) := by decide +kernel
theorem dX9_refresh_45 : decode cX9_refresh 45 = .ok (.invokevirtual 66, 3) := by decide +kernel
theorem dX9_refresh_48 : decode cX9_refresh 48 = .ok (.putfield 43, 3) := by decide +kernel
theorem dX9_refresh_51 : decode cX9_refresh 51 = .ok (.return_, 1) := by decide +kernel
theorem dX9_pieceAt_0 : decode cX9_pieceAt 0 = .ok (.aload_n 0, 1) := by decide +kernel
theorem dX9_pieceAt_1 : decode cX9_pieceAt 1 = .ok (.getfield 9, 3) := by decide +kernel
theorem dX9_pieceAt_4 : decode cX9_pieceAt 4 = .ok (.iload_n 1, 1) := by decide +kernel
theorem dX9_pieceAt_5 : decode cX9_pieceAt 5 = .ok (.invokevirtual 70, 3) := by decide +kernel
theorem dX9_pieceAt_8 : decode cX9_pieceAt 8 = .ok (.ifCond .eq 18, 3) := by decide +kernel
theorem dX9_pieceAt_11 : decode cX9_pieceAt 11 = .ok (.iload_n 1, 1) := by decide +kernel
theorem dX9_pieceAt_12 : decode cX9_pieceAt 12 = .ok (.bipush 14, 2) := by decide +kernel
theorem dX9_pieceAt_14 : decode cX9_pieceAt 14 = .ok (.if_icmp .ge 12, 3) := by decide +kernel
theorem dX9_pieceAt_17 : decode cX9_pieceAt 17 = .ok (.aload_n 0, 1) := by decide +kernel
theorem dX9_pieceAt_18 : decode cX9_pieceAt 18 = .ok (.getfield 19, 3) := by decide +kernel
theorem dX9_pieceAt_21 : decode cX9_pieceAt 21 = .ok (.iload_n 1, 1) := by decide +kernel
theorem dX9_pieceAt_22 : decode cX9_pieceAt 22 = .ok (.iaload, 1) := by decide +kernel
theorem dX9_pieceAt_23 : decode cX9_pieceAt 23 = .ok (.goto 5, 3) := by decide +kernel
theorem dX9_pieceAt_26 : decode cX9_pieceAt 26 = .ok (.bipush (-9), 2) := by decide +kernel
theorem dX9_pieceAt_28 : decode cX9_pieceAt 28 = .ok (.ireturn, 1) := by decide +kernel
theorem dX9_sentAt_0 : decode cX9_sentAt 0 = .ok (.aload_n 0, 1) := by decide +kernel
theorem dX9_sentAt_1 : decode cX9_sentAt 1 = .ok (.getfield 9, 3) := by decide +kernel
theorem dX9_sentAt_4 : decode cX9_sentAt 4 = .ok (.iload_n 1, 1) := by decide +kernel
theorem dX9_sentAt_5 : decode cX9_sentAt 5 = .ok (.invokevirtual 70, 3) := by decide +kernel
theorem dX9_sentAt_8 : decode cX9_sentAt 8 = .ok (.ifCond .eq 18, 3) := by decide +kernel
theorem dX9_sentAt_11 : decode cX9_sentAt 11 = .ok (.iload_n 1, 1) := by decide +kernel
theorem dX9_sentAt_12 : decode cX9_sentAt 12 = .ok (.bipush 14, 2) := by decide +kernel
theorem dX9_sentAt_14 : decode cX9_sentAt 14 = .ok (.if_icmp .ge 12, 3) := by decide +kernel
theorem dX9_sentAt_17 : decode cX9_sentAt 17 = .ok (.aload_n 0, 1) := by decide +kernel
theorem dX9_sentAt_18 : decode cX9_sentAt 18 = .ok (.getfield 23, 3) := by decide +kernel
theorem dX9_sentAt_21 : decode cX9_sentAt 21 = .ok (.iload_n 1, 1) := by decide +kernel
theorem dX9_sentAt_22 : decode cX9_sentAt 22 = .ok (.iaload, 1) := by decide +kernel
theorem dX9_sentAt_23 : decode cX9_sentAt 23 = .ok (.goto 5, 3) := by decide +kernel
theorem dX9_sentAt_26 : decode cX9_sentAt 26 = .ok (.bipush (-9), 2) := by decide +kernel
theorem dX9_sentAt_28 : decode cX9_sentAt 28 = .ok (.ireturn, 1) := by decide +kernel
theorem dX9_cutPieces_0 : decode cX9_cutPieces 0 = .ok (.aload_n 0, 1) := by decide +kernel
theorem dX9_cutPieces_1 : decode cX9_cutPieces 1 = .ok (.iconst 0, 1) := by decide +kernel
theorem dX9_cutPieces_2 : decode cX9_cutPieces 2 = .ok (.putfield 36, 3) := by decide +kernel
theorem dX9_cutPieces_5 : decode cX9_cutPieces 5 = .ok (.iconst 0, 1) := by decide +kernel
theorem dX9_cutPieces_6 : decode cX9_cutPieces 6 = .ok (.istore_n 1, 1) := by decide +kernel
theorem dX9_cutPieces_7 : decode cX9_cutPieces 7 = .ok (.iconst 0, 1) := by decide +kernel
theorem dX9_cutPieces_8 : decode cX9_cutPieces 8 = .ok (.istore_n 2, 1) := by decide +kernel
theorem dX9_cutPieces_9 : decode cX9_cutPieces 9 = .ok (.iload_n 2, 1) := by decide +kernel
theorem dX9_cutPieces_10 : decode cX9_cutPieces 10 = .ok (.aload_n 0, 1) := by decide +kernel
theorem dX9_cutPieces_11 : decode cX9_cutPieces 11 = .ok (.getfield 9, 3) := by decide +kernel
theorem dX9_cutPieces_14 : decode cX9_cutPieces 14 = .ok (.getfield 74, 3) := by decide +kernel
theorem dX9_cutPieces_17 : decode cX9_cutPieces 17 = .ok (.if_icmp .ge 86, 3) := by decide +kernel
theorem dX9_cutPieces_20 : decode cX9_cutPieces 20 = .ok (.iload_n 2, 1) := by decide +kernel
theorem dX9_cutPieces_21 : decode cX9_cutPieces 21 = .ok (.bipush 14, 2) := by decide +kernel
theorem dX9_cutPieces_23 : decode cX9_cutPieces 23 = .ok (.if_icmp .ge 80, 3) := by decide +kernel
theorem dX9_cutPieces_26 : decode cX9_cutPieces 26 = .ok (.aload_n 0, 1) := by decide +kernel
theorem dX9_cutPieces_27 : decode cX9_cutPieces 27 = .ok (.getfield 9, 3) := by decide +kernel
theorem dX9_cutPieces_30 : decode cX9_cutPieces 30 = .ok (.iload_n 2, 1) := by decide +kernel
theorem dX9_cutPieces_31 : decode cX9_cutPieces 31 = .ok (.invokevirtual 77, 3) := by decide +kernel
theorem dX9_cutPieces_34 : decode cX9_cutPieces 34 = .ok (.ifCond .ne 23, 3) := by decide +kernel
theorem dX9_cutPieces_37 : decode cX9_cutPieces 37 = .ok (.aload_n 0, 1) := by decide +kernel
theorem dX9_cutPieces_38 : decode cX9_cutPieces 38 = .ok (.getfield 9, 3) := by decide +kernel
theorem dX9_cutPieces_41 : decode cX9_cutPieces 41 = .ok (.iload_n 2, 1) := by decide +kernel
theorem dX9_cutPieces_42 : decode cX9_cutPieces 42 = .ok (.invokevirtual 80, 3) := by decide +kernel
theorem dX9_cutPieces_45 : decode cX9_cutPieces 45 = .ok (.ifCond .eq 24, 3) := by decide +kernel
theorem dX9_cutPieces_48 : decode cX9_cutPieces 48 = .ok (.aload_n 0, 1) := by decide +kernel
theorem dX9_cutPieces_49 : decode cX9_cutPieces 49 = .ok (.iload_n 1, 1) := by decide +kernel
theorem dX9_cutPieces_50 : decode cX9_cutPieces 50 = .ok (.iload_n 2, 1) := by decide +kernel
theorem dX9_cutPieces_51 : decode cX9_cutPieces 51 = .ok (.invokevirtual 83, 3) := by decide +kernel
theorem dX9_cutPieces_54 : decode cX9_cutPieces 54 = .ok (.ifCond .ne 15, 3) := by decide +kernel
theorem dX9_cutPieces_57 : decode cX9_cutPieces 57 = .ok (.iload_n 2, 1) := by decide +kernel
theorem dX9_cutPieces_58 : decode cX9_cutPieces 58 = .ok (.istore_n 1, 1) := by decide +kernel
theorem dX9_cutPieces_59 : decode cX9_cutPieces 59 = .ok (.aload_n 0, 1) := by decide +kernel
theorem dX9_cutPieces_60 : decode cX9_cutPieces 60 = .ok (.dup, 1) := by decide +kernel
theorem dX9_cutPieces_61 : decode cX9_cutPieces 61 = .ok (.getfield 36, 3) := by decide +kernel
theorem dX9_cutPieces_64 : decode cX9_cutPieces 64 = .ok (.iconst 1, 1) := by decide +kernel
theorem dX9_cutPieces_65 : decode cX9_cutPieces 65 = .ok (.iadd, 1) := by decide +kernel
theorem dX9_cutPieces_66 : decode cX9_cutPieces 66 = .ok (.putfield 36, 3) := by decide +kernel
theorem dX9_cutPieces_69 : decode cX9_cutPieces 69 = .ok (.aload_n 0, 1) := by decide +kernel
theorem dX9_cutPieces_70 : decode cX9_cutPieces 70 = .ok (.getfield 19, 3) := by decide +kernel
theorem dX9_cutPieces_73 : decode cX9_cutPieces 73 = .ok (.iload_n 2, 1) := by decide +kernel
theorem dX9_cutPieces_74 : decode cX9_cutPieces 74 = .ok (.aload_n 0, 1) := by decide +kernel
theorem dX9_cutPieces_75 : decode cX9_cutPieces 75 = .ok (.getfield 9, 3) := by decide +kernel
theorem dX9_cutPieces_78 : decode cX9_cutPieces 78 = .ok (.iload_n 2, 1) := by decide +kernel
theorem dX9_cutPieces_79 : decode cX9_cutPieces 79 = .ok (.invokevirtual 80, 3) := by decide +kernel
theorem dX9_cutPieces_82 : decode cX9_cutPieces 82 = .ok (.ifCond .eq 12, 3) := by decide +kernel
theorem dX9_cutPieces_85 : decode cX9_cutPieces 85 = .ok (.aload_n 0, 1) := by decide +kernel
theorem dX9_cutPieces_86 : decode cX9_cutPieces 86 = .ok (.getfield 36, 3) := by decide +kernel
theorem dX9_cutPieces_89 : decode cX9_cutPieces 89 = .ok (.iconst 1, 1) := by decide +kernel
theorem dX9_cutPieces_90 : decode cX9_cutPieces 90 = .ok (.isub, 1) := by decide +kernel
theorem dX9_cutPieces_91 : decode cX9_cutPieces 91 = .ok (.goto 5, 3) := by decide +kernel
theorem dX9_cutPieces_94 : decode cX9_cutPieces 94 = .ok (.bipush (-9), 2) := by decide +kernel
theorem dX9_cutPieces_96 : decode cX9_cutPieces 96 = .ok (.iastore, 1) := by decide +kernel
theorem dX9_cutPieces_97 : decode cX9_cutPieces 97 = .ok (.iinc 2 1, 3) := by decide +kernel
theorem dX9_cutPieces_100 : decode cX9_cutPieces 100 = .ok (.goto (-91), 3) := by decide +kernel
theorem dX9_cutPieces_103 : decode cX9_cutPieces 103 = .ok (.return_, 1) := by decide +kernel
theorem dX9_fitsStrip_0 : decode cX9_fitsStrip 0 = .ok (.iload_n 1, 1) := by decide +kernel
theorem dX9_fitsStrip_1 : decode cX9_fitsStrip 1 = .ok (.istore_n 3, 1) := by decide +kernel
theorem dX9_fitsStrip_2 : decode cX9_fitsStrip 2 = .ok (.iload_n 3, 1) := by decide +kernel
theorem dX9_fitsStrip_3 : decode cX9_fitsStrip 3 = .ok (.iload_n 2, 1) := by decide +kernel
theorem dX9_fitsStrip_4 : decode cX9_fitsStrip 4 = .ok (.if_icmp .ge 32, 3) := by decide +kernel
theorem dX9_fitsStrip_7 : decode cX9_fitsStrip 7 = .ok (.aload_n 0, 1) := by decide +kernel
theorem dX9_fitsStrip_8 : decode cX9_fitsStrip 8 = .ok (.getfield 15, 3) := by decide +kernel
theorem dX9_fitsStrip_11 : decode cX9_fitsStrip 11 = .ok (.iload_n 3, 1) := by decide +kernel
theorem dX9_fitsStrip_12 : decode cX9_fitsStrip 12 = .ok (.iload_n 2, 1) := by decide +kernel
theorem dX9_fitsStrip_13 : decode cX9_fitsStrip 13 = .ok (.invokevirtual 87, 3) := by decide +kernel
theorem dX9_fitsStrip_16 : decode cX9_fitsStrip 16 = .ok (.iconst 2, 1) := by decide +kernel
theorem dX9_fitsStrip_17 : decode cX9_fitsStrip 17 = .ok (.aload_n 0, 1) := by decide +kernel
theorem dX9_fitsStrip_18 : decode cX9_fitsStrip 18 = .ok (.getfield 9, 3) := by decide +kernel
theorem dX9_fitsStrip_21 : decode cX9_fitsStrip 21 = .ok (.getfield 54, 3) := by decide +kernel
theorem dX9_fitsStrip_24 : decode cX9_fitsStrip 24 = .ok (.imul, 1) := by decide +kernel
theorem dX9_fitsStrip_25 : decode cX9_fitsStrip 25 = .ok (.if_icmp .le 5, 3) := by decide +kernel
theorem dX9_fitsStrip_28 : decode cX9_fitsStrip 28 = .ok (.iconst 0, 1) := by decide +kernel
theorem dX9_fitsStrip_29 : decode cX9_fitsStrip 29 = .ok (.ireturn, 1) := by decide +kernel
theorem dX9_fitsStrip_30 : decode cX9_fitsStrip 30 = .ok (.iinc 3 1, 3) := by decide +kernel
theorem dX9_fitsStrip_33 : decode cX9_fitsStrip 33 = .ok (.goto (-31), 3) := by decide +kernel
theorem dX9_fitsStrip_36 : decode cX9_fitsStrip 36 = .ok (.iconst 1, 1) := by decide +kernel
theorem dX9_fitsStrip_37 : decode cX9_fitsStrip 37 = .ok (.ireturn, 1) := by decide +kernel
theorem dX9_swingDoor_0 : decode cX9_swingDoor 0 = .ok (.iconst 0, 1) := by decide +kernel
theorem dX9_swingDoor_1 : decode cX9_swingDoor 1 = .ok (.istore_n 2, 1) := by decide +kernel
theorem dX9_swingDoor_2 : decode cX9_swingDoor 2 = .ok (.iconst 0, 1) := by decide +kernel
theorem dX9_swingDoor_3 : decode cX9_swingDoor 3 = .ok (.istore_n 3, 1) := by decide +kernel
theorem dX9_swingDoor_4 : decode cX9_swingDoor 4 = .ok (.iconst 0, 1) := by decide +kernel
theorem dX9_swingDoor_5 : decode cX9_swingDoor 5 = .ok (.istore 4, 2) := by decide +kernel
theorem dX9_swingDoor_7 : decode cX9_swingDoor 7 = .ok (.iload 4, 2) := by decide +kernel
theorem dX9_swingDoor_9 : decode cX9_swingDoor 9 = .ok (.aload_n 0, 1) := by decide +kernel
theorem dX9_swingDoor_10 : decode cX9_swingDoor 10 = .ok (.getfield 9, 3) := by decide +kernel
theorem dX9_swingDoor_13 : decode cX9_swingDoor 13 = .ok (.getfield 74, 3) := by decide +kernel
theorem dX9_swingDoor_16 : decode cX9_swingDoor 16 = .ok (.if_icmp .ge 107, 3) := by decide +kernel
theorem dX9_swingDoor_19 : decode cX9_swingDoor 19 = .ok (.aload_n 0, 1) := by decide +kernel
theorem dX9_swingDoor_20 : decode cX9_swingDoor 20 = .ok (.getfield 9, 3) := by decide +kernel
theorem dX9_swingDoor_23 : decode cX9_swingDoor 23 = .ok (.iload 4, 2) := by decide +kernel
theorem dX9_swingDoor_25 : decode cX9_swingDoor 25 = .ok (.invokevirtual 80, 3) := by decide +kernel
theorem dX9_swingDoor_28 : decode cX9_swingDoor 28 = .ok (.ifCond .ne 6, 3) := by decide +kernel
theorem dX9_swingDoor_31 : decode cX9_swingDoor 31 = .ok (.goto 86, 3) := by decide +kernel
theorem dX9_swingDoor_34 : decode cX9_swingDoor 34 = .ok (.aload_n 0, 1) := by decide +kernel
theorem dX9_swingDoor_35 : decode cX9_swingDoor 35 = .ok (.getfield 9, 3) := by decide +kernel
theorem dX9_swingDoor_38 : decode cX9_swingDoor 38 = .ok (.iload 4, 2) := by decide +kernel
theorem dX9_swingDoor_40 : decode cX9_swingDoor 40 = .ok (.invokevirtual 77, 3) := by decide +kernel
theorem dX9_swingDoor_43 : decode cX9_swingDoor 43 = .ok (.ifCond .eq 16, 3) := by decide +kernel
theorem dX9_swingDoor_46 : decode cX9_swingDoor 46 = .ok (.iload 4, 2) := by decide +kernel
theorem dX9_swingDoor_48 : decode cX9_swingDoor 48 = .ok (.istore_n 3, 1) := by decide +kernel
theorem dX9_swingDoor_49 : decode cX9_swingDoor 49 = .ok (.iload_n 2, 1) := by decide +kernel
theorem dX9_swingDoor_50 : decode cX9_swingDoor 50 = .ok (.iconst 1, 1) := by decide +kernel
theorem dX9_swingDoor_51 : decode cX9_swingDoor 51 = .ok (.iload 4, 2) := by decide +kernel
theorem dX9_swingDoor_53 : decode cX9_swingDoor 53 = .ok (.ishl, 1) := by decide +kernel
theorem dX9_swingDoor_54 : decode cX9_swingDoor 54 = .ok (.ior, 1) := by decide +kernel
theorem dX9_swingDoor_55 : decode cX9_swingDoor 55 = .ok (.istore_n 2, 1) := by decide +kernel
theorem dX9_swingDoor_56 : decode cX9_swingDoor 56 = .ok (.goto 61, 3) := by decide +kernel
theorem dX9_swingDoor_59 : decode cX9_swingDoor 59 = .ok (.iload 4, 2) := by decide +kernel
theorem dX9_swingDoor_61 : decode cX9_swingDoor 61 = .ok (.iload_n 3, 1) := by decide +kernel
theorem dX9_swingDoor_62 : decode cX9_swingDoor 62 = .ok (.isub, 1) := by decide +kernel
theorem dX9_swingDoor_63 : decode cX9_swingDoor 63 = .ok (.aload_n 0, 1) := by decide +kernel
theorem dX9_swingDoor_64 : decode cX9_swingDoor 64 = .ok (.getfield 9, 3) := by decide +kernel
theorem dX9_swingDoor_67 : decode cX9_swingDoor 67 = .ok (.getfield 91, 3) := by decide +kernel
theorem dX9_swingDoor_70 : decode cX9_swingDoor 70 = .ok (.if_icmp .gt 17, 3) := by decide +kernel
theorem dX9_swingDoor_73 : decode cX9_swingDoor 73 = .ok (.aload_n 0, 1) := by decide +kernel
theorem dX9_swingDoor_74 : decode cX9_swingDoor 74 = .ok (.getfield 15, 3) := by decide +kernel
theorem dX9_swingDoor_77 : decode cX9_swingDoor 77 = .ok (.iload_n 3, 1) := by decide +kernel
theorem dX9_swingDoor_78 : decode cX9_swingDoor 78 = .ok (.iload 4, 2) := by decide +kernel
theorem dX9_swingDoor_80 : decode cX9_swingDoor 80 = .ok (.invokevirtual 87, 3) := by decide +kernel
theorem dX9_swingDoor_83 : decode cX9_swingDoor 83 = .ok (.iload_n 1, 1) := by decide +kernel
theorem dX9_swingDoor_84 : decode cX9_swingDoor 84 = .ok (.if_icmp .le 14, 3) := by decide +kernel
theorem dX9_swingDoor_87 : decode cX9_swingDoor 87 = .ok (.iload 4, 2) := by decide +kernel
theorem dX9_swingDoor_89 : decode cX9_swingDoor 89 = .ok (.iconst 1, 1) := by decide +kernel
theorem dX9_swingDoor_90 : decode cX9_swingDoor 90 = .ok (.isub, 1) := by decide +kernel
theorem dX9_swingDoor_91 : decode cX9_swingDoor 91 = .ok (.istore_n 3, 1) := by decide +kernel
theorem dX9_swingDoor_92 : decode cX9_swingDoor 92 = .ok (.iload_n 2, 1) := by decide +kernel
theorem dX9_swingDoor_93 : decode cX9_swingDoor 93 = .ok (.iconst 1, 1) := by decide +kernel
theorem dX9_swingDoor_94 : decode cX9_swingDoor 94 = .ok (.iload_n 3, 1) := by decide +kernel
theorem dX9_swingDoor_95 : decode cX9_swingDoor 95 = .ok (.ishl, 1) := by decide +kernel
theorem dX9_swingDoor_96 : decode cX9_swingDoor 96 = .ok (.ior, 1) := by decide +kernel
theorem dX9_swingDoor_97 : decode cX9_swingDoor 97 = .ok (.istore_n 2, 1) := by decide +kernel
theorem dX9_swingDoor_98 : decode cX9_swingDoor 98 = .ok (.aload_n 0, 1) := by decide +kernel
theorem dX9_swingDoor_99 : decode cX9_swingDoor 99 = .ok (.getfield 9, 3) := by decide +kernel
theorem dX9_swingDoor_102 : decode cX9_swingDoor 102 = .ok (.iload 4, 2) := by decide +kernel
theorem dX9_swingDoor_104 : decode cX9_swingDoor 104 = .ok (.invokevirtual 94, 3) := by decide +kernel
theorem dX9_swingDoor_107 : decode cX9_swingDoor 107 = .ok (.ifCond .eq 10, 3) := by decide +kernel
theorem dX9_swingDoor_110 : decode cX9_swingDoor 110 = .ok (.iload_n 2, 1) := by decide +kernel
theorem dX9_swingDoor_111 : decode cX9_swingDoor 111 = .ok (.iconst 1, 1) := by decide +kernel
theorem dX9_swingDoor_112 : decode cX9_swingDoor 112 = .ok (.iload 4, 2) := by decide +kernel
theorem dX9_swingDoor_114 : decode cX9_swingDoor 114 = .ok (.ishl, 1) := by decide +kernel
theorem dX9_swingDoor_115 : decode cX9_swingDoor 115 = .ok (.ior, 1) := by decide +kernel
theorem dX9_swingDoor_116 : decode cX9_swingDoor 116 = .ok (.istore_n 2, 1) := by decide +kernel
theorem dX9_swingDoor_117 : decode cX9_swingDoor 117 = .ok (.iinc 4 1, 3) := by decide +kernel
theorem dX9_swingDoor_120 : decode cX9_swingDoor 120 = .ok (.goto (-113), 3) := by decide +kernel
theorem dX9_swingDoor_123 : decode cX9_swingDoor 123 = .ok (.iload_n 2, 1) := by decide +kernel
theorem dX9_swingDoor_124 : decode cX9_swingDoor 124 = .ok (.ireturn, 1) := by decide +kernel
theorem dX9_sendKept_0 : decode cX9_sendKept 0 = .ok (.iconst 0, 1) := by decide +kernel
theorem dX9_sendKept_1 : decode cX9_sendKept 1 = .ok (.istore_n 1, 1) := by decide +kernel
theorem dX9_sendKept_2 : decode cX9_sendKept 2 = .ok (.iconst 0, 1) := by decide +kernel
theorem dX9_sendKept_3 : decode cX9_sendKept 3 = .ok (.istore_n 2, 1) := by decide +kernel
theorem dX9_sendKept_4 : decode cX9_sendKept 4 = .ok (.iload_n 2, 1) := by decide +kernel
theorem dX9_sendKept_5 : decode cX9_sendKept 5 = .ok (.aload_n 0, 1) := by decide +kernel
theorem dX9_sendKept_6 : decode cX9_sendKept 6 = .ok (.getfield 9, 3) := by decide +kernel
theorem dX9_sendKept_9 : decode cX9_sendKept 9 = .ok (.getfield 74, 3) := by decide +kernel
theorem dX9_sendKept_12 : decode cX9_sendKept 12 = .ok (.if_icmp .ge 104, 3) := by decide +kernel
theorem dX9_sendKept_15 : decode cX9_sendKept 15 = .ok (.iload_n 2, 1) := by decide +kernel
theorem dX9_sendKept_16 : decode cX9_sendKept 16 = .ok (.bipush 14, 2) := by decide +kernel
theorem dX9_sendKept_18 : decode cX9_sendKept 18 = .ok (.if_icmp .ge 98, 3) := by decide +kernel
theorem dX9_sendKept_21 : decode cX9_sendKept 21 = .ok (.aload_n 0, 1) := by decide +kernel
theorem dX9_sendKept_22 : decode cX9_sendKept 22 = .ok (.getfield 40, 3) := by decide +kernel
theorem dX9_sendKept_25 : decode cX9_sendKept 25 = .ok (.iload_n 2, 1) := by decide +kernel
theorem dX9_sendKept_26 : decode cX9_sendKept 26 = .ok (.invokestatic 97, 3) := by decide +kernel
theorem dX9_sendKept_29 : decode cX9_sendKept 29 = .ok (.ifCond .ne 14, 3) := by decide +kernel
theorem dX9_sendKept_32 : decode cX9_sendKept 32 = .ok (.aload_n 0, 1) := by decide +kernel
theorem dX9_sendKept_33 : decode cX9_sendKept 33 = .ok (.getfield 23, 3) := by decide +kernel
theorem dX9_sendKept_36 : decode cX9_sendKept 36 = .ok (.iload_n 2, 1) := by decide +kernel
theorem dX9_sendKept_37 : decode cX9_sendKept 37 = .ok (.bipush (-9), 2) := by decide +kernel
theorem dX9_sendKept_39 : decode cX9_sendKept 39 = .ok (.iastore, 1) := by decide +kernel
theorem dX9_sendKept_40 : decode cX9_sendKept 40 = .ok (.goto 70, 3) := by decide +kernel
theorem dX9_sendKept_43 : decode cX9_sendKept 43 = .ok (.aload_n 0, 1) := by decide +kernel
theorem dX9_sendKept_44 : decode cX9_sendKept 44 = .ok (.getfield 9, 3) := by decide +kernel
theorem dX9_sendKept_47 : decode cX9_sendKept 47 = .ok (.iload_n 2, 1) := by decide +kernel
theorem dX9_sendKept_48 : decode cX9_sendKept 48 = .ok (.invokevirtual 77, 3) := by decide +kernel
theorem dX9_sendKept_51 : decode cX9_sendKept 51 = .ok (.ifCond .ne 27, 3) := by decide +kernel
theorem dX9_sendKept_54 : decode cX9_sendKept 54 = .ok (.aload_n 0, 1) := by decide +kernel
theorem dX9_sendKept_55 : decode cX9_sendKept 55 = .ok (.getfield 9, 3) := by decide +kernel
theorem dX9_sendKept_58 : decode cX9_sendKept 58 = .ok (.iload_n 2, 1) := by decide +kernel
theorem dX9_sendKept_59 : decode cX9_sendKept 59 = .ok (.invokevirtual 94, 3) := by decide +kernel
theorem dX9_sendKept_62 : decode cX9_sendKept 62 = .ok (.ifCond .ne 16, 3) := by decide +kernel
theorem dX9_sendKept_65 : decode cX9_sendKept 65 = .ok (.iload_n 2, 1) := by decide +kernel
theorem dX9_sendKept_66 : decode cX9_sendKept 66 = .ok (.iload_n 1, 1) := by decide +kernel
theorem dX9_sendKept_67 : decode cX9_sendKept 67 = .ok (.isub, 1) := by decide +kernel
theorem dX9_sendKept_68 : decode cX9_sendKept 68 = .ok (.aload_n 0, 1) := by decide +kernel
theorem dX9_sendKept_69 : decode cX9_sendKept 69 = .ok (.getfield 9, 3) := by decide +kernel
theorem dX9_sendKept_72 : decode cX9_sendKept 72 = .ok (.getfield 91, 3) := by decide +kernel
theorem dX9_sendKept_75 : decode cX9_sendKept 75 = .ok (.if_icmp .ne 7, 3) := by decide +kernel
theorem dX9_sendKept_78 : decode cX9_sendKept 78 = .ok (.iconst 1, 1) := by decide +kernel
theorem dX9_sendKept_79 : decode cX9_sendKept 79 = .ok (.goto 4, 3) := by decide +kernel
theorem dX9_sendKept_82 : decode cX9_sendKept 82 = .ok (.iconst 0, 1) := by decide +kernel
theorem dX9_sendKept_83 : decode cX9_sendKept 83 = .ok (.istore_n 3, 1) := by decide +kernel
theorem dX9_sendKept_84 : decode cX9_sendKept 84 = .ok (.aload_n 0, 1) := by decide +kernel
theorem dX9_sendKept_85 : decode cX9_sendKept 85 = .ok (.getfield 23, 3) := by decide +kernel
theorem dX9_sendKept_88 : decode cX9_sendKept 88 = .ok (.iload_n 2, 1) := by decide +kernel
theorem dX9_sendKept_89 : decode cX9_sendKept 89 = .ok (.aload_n 0, 1) := by decide +kernel
theorem dX9_sendKept_90 : decode cX9_sendKept 90 = .ok (.getfield 9, 3) := by decide +kernel
theorem dX9_sendKept_93 : decode cX9_sendKept 93 = .ok (.iload_n 3, 1) := by decide +kernel
theorem dX9_sendKept_94 : decode cX9_sendKept 94 = .ok (.ifCond .eq 7, 3) := by decide +kernel
theorem dX9_sendKept_97 : decode cX9_sendKept 97 = .ok (.iload_n 2, 1) := by decide +kernel
theorem dX9_sendKept_98 : decode cX9_sendKept 98 = .ok (.goto 6, 3) := by decide +kernel
theorem dX9_sendKept_101 : decode cX9_sendKept 101 = .ok (.iload_n 2, 1) := by decide +kernel
theorem dX9_sendKept_102 : decode cX9_sendKept 102 = .ok (.iconst 1, 1) := by decide +kernel
theorem dX9_sendKept_103 : decode cX9_sendKept 103 = .ok (.iadd, 1) := by decide +kernel
theorem dX9_sendKept_104 : decode cX9_sendKept 104 = .ok (.invokevirtual 100, 3) := by decide +kernel
theorem dX9_sendKept_107 : decode cX9_sendKept 107 = .ok (.iastore, 1) := by decide +kernel
theorem dX9_sendKept_108 : decode cX9_sendKept 108 = .ok (.iload_n 2, 1) := by decide +kernel
theorem dX9_sendKept_109 : decode cX9_sendKept 109 = .ok (.istore_n 1, 1) := by decide +kernel
theorem dX9_sendKept_110 : decode cX9_sendKept 110 = .ok (.iinc 2 1, 3) := by decide +kernel
theorem dX9_sendKept_113 : decode cX9_sendKept 113 = .ok (.goto (-109), 3) := by decide +kernel
theorem dX9_sendKept_116 : decode cX9_sendKept 116 = .ok (.return_, 1) := by decide +kernel
theorem dX9_longestWait_0 : decode cX9_longestWait 0 = .ok (.bipush (-9), 2) := by decide +kernel
theorem dX9_longestWait_2 : decode cX9_longestWait 2 = .ok (.istore_n 1, 1) := by decide +kernel
theorem dX9_longestWait_3 : decode cX9_longestWait 3 = .ok (.bipush (-9), 2) := by decide +kernel
theorem dX9_longestWait_5 : decode cX9_longestWait 5 = .ok (.istore_n 2, 1) := by decide +kernel
theorem dX9_longestWait_6 : decode cX9_longestWait 6 = .ok (.aload_n 0, 1) := by decide +kernel
theorem dX9_longestWait_7 : decode cX9_longestWait 7 = .ok (.getfield 9, 3) := by decide +kernel
theorem dX9_longestWait_10 : decode cX9_longestWait 10 = .ok (.getfield 74, 3) := by decide +kernel
theorem dX9_longestWait_13 : decode cX9_longestWait 13 = .ok (.iconst 1, 1) := by decide +kernel
theorem dX9_longestWait_14 : decode cX9_longestWait 14 = .ok (.isub, 1) := by decide +kernel
theorem dX9_longestWait_15 : decode cX9_longestWait 15 = .ok (.istore_n 3, 1) := by decide +kernel
theorem dX9_longestWait_16 : decode cX9_longestWait 16 = .ok (.iload_n 3, 1) := by decide +kernel
theorem dX9_longestWait_17 : decode cX9_longestWait 17 = .ok (.ifCond .lt 56, 3) := by decide +kernel
theorem dX9_longestWait_20 : decode cX9_longestWait 20 = .ok (.aload_n 0, 1) := by decide +kernel
theorem dX9_longestWait_21 : decode cX9_longestWait 21 = .ok (.getfield 9, 3) := by decide +kernel
theorem dX9_longestWait_24 : decode cX9_longestWait 24 = .ok (.iload_n 3, 1) := by decide +kernel
theorem dX9_longestWait_25 : decode cX9_longestWait 25 = .ok (.invokevirtual 80, 3) := by decide +kernel
theorem dX9_longestWait_28 : decode cX9_longestWait 28 = .ok (.ifCond .ne 6, 3) := by decide +kernel
theorem dX9_longestWait_31 : decode cX9_longestWait 31 = .ok (.goto 36, 3) := by decide +kernel
theorem dX9_longestWait_34 : decode cX9_longestWait 34 = .ok (.aload_n 0, 1) := by decide +kernel
theorem dX9_longestWait_35 : decode cX9_longestWait 35 = .ok (.getfield 40, 3) := by decide +kernel
theorem dX9_longestWait_38 : decode cX9_longestWait 38 = .ok (.iload_n 3, 1) := by decide +kernel
theorem dX9_longestWait_39 : decode cX9_longestWait 39 = .ok (.invokestatic 97, 3) := by decide +kernel
theorem dX9_longestWait_42 : decode cX9_longestWait 42 = .ok (.iconst 1, 1) := by decide +kernel
theorem dX9_longestWait_43 : decode cX9_longestWait 43 = .ok (.if_icmp .ne 9, 3) := by decide +kernel
theorem dX9_longestWait_46 : decode cX9_longestWait 46 = .ok (.aload_n 0, 1) := by decide +kernel
theorem dX9_longestWait_47 : decode cX9_longestWait 47 = .ok (.iload_n 3, 1) := by decide +kernel
theorem dX9_longestWait_48 : decode cX9_longestWait 48 = .ok (.invokevirtual 103, 3) := by decide +kernel
theorem dX9_longestWait_51 : decode cX9_longestWait 51 = .ok (.istore_n 2, 1) := by decide +kernel
theorem dX9_longestWait_52 : decode cX9_longestWait 52 = .ok (.iload_n 1, 1) := by decide +kernel
theorem dX9_longestWait_53 : decode cX9_longestWait 53 = .ok (.iload_n 2, 1) := by decide +kernel
theorem dX9_longestWait_54 : decode cX9_longestWait 54 = .ok (.aload_n 0, 1) := by decide +kernel
theorem dX9_longestWait_55 : decode cX9_longestWait 55 = .ok (.getfield 9, 3) := by decide +kernel
theorem dX9_longestWait_58 : decode cX9_longestWait 58 = .ok (.iload_n 3, 1) := by decide +kernel
theorem dX9_longestWait_59 : decode cX9_longestWait 59 = .ok (.invokevirtual 100, 3) := by decide +kernel
theorem dX9_longestWait_62 : decode cX9_longestWait 62 = .ok (.isub, 1) := by decide +kernel
theorem dX9_longestWait_63 : decode cX9_longestWait 63 = .ok (.invokestatic 106, 3) := by decide +kernel
theorem dX9_longestWait_66 : decode cX9_longestWait 66 = .ok (.istore_n 1, 1) := by decide +kernel
theorem dX9_longestWait_67 : decode cX9_longestWait 67 = .ok (.iinc 3 (-1), 3) := by decide +kernel
theorem dX9_longestWait_70 : decode cX9_longestWait 70 = .ok (.goto (-54), 3) := by decide +kernel
theorem dX9_longestWait_73 : decode cX9_longestWait 73 = .ok (.iload_n 1, 1) := by decide +kernel
theorem dX9_longestWait_74 : decode cX9_longestWait 74 = .ok (.ireturn, 1) := by decide +kernel
theorem dX9_chooseLeast_0 : decode cX9_chooseLeast 0 = .ok (.aload_n 0, 1) := by decide +kernel
theorem dX9_chooseLeast_1 : decode cX9_chooseLeast 1 = .ok (.getfield 9, 3) := by decide +kernel
theorem dX9_chooseLeast_4 : decode cX9_chooseLeast 4 = .ok (.getfield 74, 3) := by decide +kernel
theorem dX9_chooseLeast_7 : decode cX9_chooseLeast 7 = .ok (.bipush 14, 2) := by decide +kernel
theorem dX9_chooseLeast_9 : decode cX9_chooseLeast 9 = .ok (.invokestatic 111, 3) := by decide +kernel
theorem dX9_chooseLeast_12 : decode cX9_chooseLeast 12 = .ok (.iconst 1, 1) := by decide +kernel
theorem dX9_chooseLeast_13 : decode cX9_chooseLeast 13 = .ok (.isub, 1) := by decide +kernel
theorem dX9_chooseLeast_14 : decode cX9_chooseLeast 14 = .ok (.istore_n 1, 1) := by decide +kernel
theorem dX9_chooseLeast_15 : decode cX9_chooseLeast 15 = .ok (.iload_n 1, 1) := by decide +kernel
theorem dX9_chooseLeast_16 : decode cX9_chooseLeast 16 = .ok (.ifCond .lt 14, 3) := by decide +kernel
theorem dX9_chooseLeast_19 : decode cX9_chooseLeast 19 = .ok (.aload_n 0, 1) := by decide +kernel
theorem dX9_chooseLeast_20 : decode cX9_chooseLeast 20 = .ok (.iload_n 1, 1) := by decide +kernel
theorem dX9_chooseLeast_21 : decode cX9_chooseLeast 21 = .ok (.invokevirtual 114, 3) := by decide +kernel
theorem dX9_chooseLeast_24 : decode cX9_chooseLeast 24 = .ok (.iinc 1 (-1), 3) := by decide +kernel
theorem dX9_chooseLeast_27 : decode cX9_chooseLeast 27 = .ok (.goto (-12), 3) := by decide +kernel
theorem dX9_chooseLeast_30 : decode cX9_chooseLeast 30 = .ok (.iconst 0, 1) := by decide +kernel
theorem dX9_chooseLeast_31 : decode cX9_chooseLeast 31 = .ok (.istore_n 1, 1) := by decide +kernel
theorem dX9_chooseLeast_32 : decode cX9_chooseLeast 32 = .ok (.bipush (-9), 2) := by decide +kernel
theorem dX9_chooseLeast_34 : decode cX9_chooseLeast 34 = .ok (.istore_n 2, 1) := by decide +kernel
theorem dX9_chooseLeast_35 : decode cX9_chooseLeast 35 = .ok (.iconst 0, 1) := by decide +kernel
theorem dX9_chooseLeast_36 : decode cX9_chooseLeast 36 = .ok (.istore_n 3, 1) := by decide +kernel
theorem dX9_chooseLeast_37 : decode cX9_chooseLeast 37 = .ok (.iload_n 3, 1) := by decide +kernel
theorem dX9_chooseLeast_38 : decode cX9_chooseLeast 38 = .ok (.aload_n 0, 1) := by decide +kernel
theorem dX9_chooseLeast_39 : decode cX9_chooseLeast 39 = .ok (.getfield 9, 3) := by decide +kernel
theorem dX9_chooseLeast_42 : decode cX9_chooseLeast 42 = .ok (.getfield 74, 3) := by decide +kernel
theorem dX9_chooseLeast_45 : decode cX9_chooseLeast 45 = .ok (.if_icmp .ge 44, 3) := by decide +kernel
theorem dX9_chooseLeast_48 : decode cX9_chooseLeast 48 = .ok (.iload_n 3, 1) := by decide +kernel
theorem dX9_chooseLeast_49 : decode cX9_chooseLeast 49 = .ok (.bipush 14, 2) := by decide +kernel
theorem dX9_chooseLeast_51 : decode cX9_chooseLeast 51 = .ok (.if_icmp .ge 38, 3) := by decide +kernel
theorem dX9_chooseLeast_54 : decode cX9_chooseLeast 54 = .ok (.aload_n 0, 1) := by decide +kernel
theorem dX9_chooseLeast_55 : decode cX9_chooseLeast 55 = .ok (.getfield 9, 3) := by decide +kernel
theorem dX9_chooseLeast_58 : decode cX9_chooseLeast 58 = .ok (.iload_n 3, 1) := by decide +kernel
theorem dX9_chooseLeast_59 : decode cX9_chooseLeast 59 = .ok (.invokevirtual 77, 3) := by decide +kernel
theorem dX9_chooseLeast_62 : decode cX9_chooseLeast 62 = .ok (.ifCond .ne 8, 3) := by decide +kernel
theorem dX9_chooseLeast_65 : decode cX9_chooseLeast 65 = .ok (.iload_n 3, 1) := by decide +kernel
theorem dX9_chooseLeast_66 : decode cX9_chooseLeast 66 = .ok (.iload_n 2, 1) := by decide +kernel
theorem dX9_chooseLeast_67 : decode cX9_chooseLeast 67 = .ok (.if_icmp .ne 16, 3) := by decide +kernel
theorem dX9_chooseLeast_70 : decode cX9_chooseLeast 70 = .ok (.iload_n 1, 1) := by decide +kernel
theorem dX9_chooseLeast_71 : decode cX9_chooseLeast 71 = .ok (.iconst 1, 1) := by decide +kernel
theorem dX9_chooseLeast_72 : decode cX9_chooseLeast 72 = .ok (.iload_n 3, 1) := by decide +kernel
theorem dX9_chooseLeast_73 : decode cX9_chooseLeast 73 = .ok (.ishl, 1) := by decide +kernel
theorem dX9_chooseLeast_74 : decode cX9_chooseLeast 74 = .ok (.ior, 1) := by decide +kernel
theorem dX9_chooseLeast_75 : decode cX9_chooseLeast 75 = .ok (.istore_n 1, 1) := by decide +kernel
theorem dX9_chooseLeast_76 : decode cX9_chooseLeast 76 = .ok (.aload_n 0, 1) := by decide +kernel
theorem dX9_chooseLeast_77 : decode cX9_chooseLeast 77 = .ok (.getfield 29, 3) := by decide +kernel
theorem dX9_chooseLeast_80 : decode cX9_chooseLeast 80 = .ok (.iload_n 3, 1) := by decide +kernel
theorem dX9_chooseLeast_81 : decode cX9_chooseLeast 81 = .ok (.iaload, 1) := by decide +kernel
theorem dX9_chooseLeast_82 : decode cX9_chooseLeast 82 = .ok (.istore_n 2, 1) := by decide +kernel
theorem dX9_chooseLeast_83 : decode cX9_chooseLeast 83 = .ok (.iinc 3 1, 3) := by decide +kernel
theorem dX9_chooseLeast_86 : decode cX9_chooseLeast 86 = .ok (.goto (-49), 3) := by decide +kernel
theorem dX9_chooseLeast_89 : decode cX9_chooseLeast 89 = .ok (.iload_n 1, 1) := by decide +kernel
theorem dX9_chooseLeast_90 : decode cX9_chooseLeast 90 = .ok (.ireturn, 1) := by decide +kernel
theorem dX9_chooseNext_0 : decode cX9_chooseNext 0 = .ok (.aload_n 0, 1) := by decide +kernel
theorem dX9_chooseNext_1 : decode cX9_chooseNext 1 = .ok (.getfield 26, 3) := by decide +kernel
theorem dX9_chooseNext_4 : decode cX9_chooseNext 4 = .ok (.iload_n 1, 1) := by decide +kernel
theorem dX9_chooseNext_5 : decode cX9_chooseNext 5 = .ok (.iconst 0, 1) := by decide +kernel
theorem dX9_chooseNext_6 : decode cX9_chooseNext 6 = .ok (.iastore, 1) := by decide +kernel
theorem dX9_chooseNext_7 : decode cX9_chooseNext 7 = .ok (.aload_n 0, 1) := by decide +kernel
theorem dX9_chooseNext_8 : decode cX9_chooseNext 8 = .ok (.getfield 29, 3) := by decide +kernel
theorem dX9_chooseNext_11 : decode cX9_chooseNext 11 = .ok (.iload_n 1, 1) := by decide +kernel
theorem dX9_chooseNext_12 : decode cX9_chooseNext 12 = .ok (.bipush (-9), 2) := by decide +kernel
theorem dX9_chooseNext_14 : decode cX9_chooseNext 14 = .ok (.iastore, 1) := by decide +kernel
theorem dX9_chooseNext_15 : decode cX9_chooseNext 15 = .ok (.aload_n 0, 1) := by decide +kernel
theorem dX9_chooseNext_16 : decode cX9_chooseNext 16 = .ok (.getfield 9, 3) := by decide +kernel
theorem dX9_chooseNext_19 : decode cX9_chooseNext 19 = .ok (.iload_n 1, 1) := by decide +kernel
theorem dX9_chooseNext_20 : decode cX9_chooseNext 20 = .ok (.invokevirtual 80, 3) := by decide +kernel
theorem dX9_chooseNext_23 : decode cX9_chooseNext 23 = .ok (.ifCond .ne 4, 3) := by decide +kernel
theorem dX9_chooseNext_26 : decode cX9_chooseNext 26 = .ok (.return_, 1) := by decide +kernel
theorem dX9_chooseNext_27 : decode cX9_chooseNext 27 = .ok (.iload_n 1, 1) := by decide +kernel
theorem dX9_chooseNext_28 : decode cX9_chooseNext 28 = .ok (.iconst 1, 1) := by decide +kernel
theorem dX9_chooseNext_29 : decode cX9_chooseNext 29 = .ok (.iadd, 1) := by decide +kernel
theorem dX9_chooseNext_30 : decode cX9_chooseNext 30 = .ok (.istore_n 2, 1) := by decide +kernel
theorem dX9_chooseNext_31 : decode cX9_chooseNext 31 = .ok (.iload_n 2, 1) := by decide +kernel
theorem dX9_chooseNext_32 : decode cX9_chooseNext 32 = .ok (.bipush 14, 2) := by decide +kernel
theorem dX9_chooseNext_34 : decode cX9_chooseNext 34 = .ok (.if_icmp .ge 98, 3) := by decide +kernel
theorem dX9_chooseNext_37 : decode cX9_chooseNext 37 = .ok (.aload_n 0, 1) := by decide +kernel
theorem dX9_chooseNext_38 : decode cX9_chooseNext 38 = .ok (.getfield 9, 3) := by decide +kernel
theorem dX9_chooseNext_41 : decode cX9_chooseNext 41 = .ok (.iload_n 2, 1) := by decide +kernel
theorem dX9_chooseNext_42 : decode cX9_chooseNext 42 = .ok (.invokevirtual 80, 3) := by decide +kernel
theorem dX9_chooseNext_45 : decode cX9_chooseNext 45 = .ok (.ifCond .eq 87, 3) := by decide +kernel
theorem dX9_chooseNext_48 : decode cX9_chooseNext 48 = .ok (.aload_n 0, 1) := by decide +kernel
theorem dX9_chooseNext_49 : decode cX9_chooseNext 49 = .ok (.getfield 29, 3) := by decide +kernel
theorem dX9_chooseNext_52 : decode cX9_chooseNext 52 = .ok (.iload_n 1, 1) := by decide +kernel
theorem dX9_chooseNext_53 : decode cX9_chooseNext 53 = .ok (.iaload, 1) := by decide +kernel
theorem dX9_chooseNext_54 : decode cX9_chooseNext 54 = .ok (.bipush (-9), 2) := by decide +kernel
theorem dX9_chooseNext_56 : decode cX9_chooseNext 56 = .ok (.if_icmp .eq 20, 3) := by decide +kernel
theorem dX9_chooseNext_59 : decode cX9_chooseNext 59 = .ok (.aload_n 0, 1) := by decide +kernel
theorem dX9_chooseNext_60 : decode cX9_chooseNext 60 = .ok (.getfield 26, 3) := by decide +kernel
theorem dX9_chooseNext_63 : decode cX9_chooseNext 63 = .ok (.iload_n 2, 1) := by decide +kernel
theorem dX9_chooseNext_64 : decode cX9_chooseNext 64 = .ok (.iaload, 1) := by decide +kernel
theorem dX9_chooseNext_65 : decode cX9_chooseNext 65 = .ok (.iconst 1, 1) := by decide +kernel
theorem dX9_chooseNext_66 : decode cX9_chooseNext 66 = .ok (.iadd, 1) := by decide +kernel
theorem dX9_chooseNext_67 : decode cX9_chooseNext 67 = .ok (.aload_n 0, 1) := by decide +kernel
theorem dX9_chooseNext_68 : decode cX9_chooseNext 68 = .ok (.getfield 26, 3) := by decide +kernel
theorem dX9_chooseNext_71 : decode cX9_chooseNext 71 = .ok (.iload_n 1, 1) := by decide +kernel
theorem dX9_chooseNext_72 : decode cX9_chooseNext 72 = .ok (.iaload, 1) := by decide +kernel
theorem dX9_chooseNext_73 : decode cX9_chooseNext 73 = .ok (.if_icmp .ge 7, 3) := by decide +kernel
theorem dX9_chooseNext_76 : decode cX9_chooseNext 76 = .ok (.iconst 1, 1) := by decide +kernel
theorem dX9_chooseNext_77 : decode cX9_chooseNext 77 = .ok (.goto 4, 3) := by decide +kernel
theorem dX9_chooseNext_80 : decode cX9_chooseNext 80 = .ok (.iconst 0, 1) := by decide +kernel
theorem dX9_chooseNext_81 : decode cX9_chooseNext 81 = .ok (.istore_n 3, 1) := by decide +kernel
theorem dX9_chooseNext_82 : decode cX9_chooseNext 82 = .ok (.iload_n 3, 1) := by decide +kernel
theorem dX9_chooseNext_83 : decode cX9_chooseNext 83 = .ok (.ifCond .eq 43, 3) := by decide +kernel
theorem dX9_chooseNext_86 : decode cX9_chooseNext 86 = .ok (.aload_n 0, 1) := by decide +kernel
theorem dX9_chooseNext_87 : decode cX9_chooseNext 87 = .ok (.getfield 15, 3) := by decide +kernel
theorem dX9_chooseNext_90 : decode cX9_chooseNext 90 = .ok (.iload_n 1, 1) := by decide +kernel
theorem dX9_chooseNext_91 : decode cX9_chooseNext 91 = .ok (.iload_n 2, 1) := by decide +kernel
theorem dX9_chooseNext_92 : decode cX9_chooseNext 92 = .ok (.invokevirtual 87, 3) := by decide +kernel
theorem dX9_chooseNext_95 : decode cX9_chooseNext 95 = .ok (.aload_n 0, 1) := by decide +kernel
theorem dX9_chooseNext_96 : decode cX9_chooseNext 96 = .ok (.getfield 9, 3) := by decide +kernel
theorem dX9_chooseNext_99 : decode cX9_chooseNext 99 = .ok (.getfield 54, 3) := by decide +kernel
theorem dX9_chooseNext_102 : decode cX9_chooseNext 102 = .ok (.if_icmp .gt 24, 3) := by decide +kernel
theorem dX9_chooseNext_105 : decode cX9_chooseNext 105 = .ok (.aload_n 0, 1) := by decide +kernel
theorem dX9_chooseNext_106 : decode cX9_chooseNext 106 = .ok (.getfield 26, 3) := by decide +kernel
theorem dX9_chooseNext_109 : decode cX9_chooseNext 109 = .ok (.iload_n 1, 1) := by decide +kernel
theorem dX9_chooseNext_110 : decode cX9_chooseNext 110 = .ok (.aload_n 0, 1) := by decide +kernel
theorem dX9_chooseNext_111 : decode cX9_chooseNext 111 = .ok (.getfield 26, 3) := by decide +kernel
theorem dX9_chooseNext_114 : decode cX9_chooseNext 114 = .ok (.iload_n 2, 1) := by decide +kernel
theorem dX9_chooseNext_115 : decode cX9_chooseNext 115 = .ok (.iaload, 1) := by decide +kernel
theorem dX9_chooseNext_116 : decode cX9_chooseNext 116 = .ok (.iconst 1, 1) := by decide +kernel
theorem dX9_chooseNext_117 : decode cX9_chooseNext 117 = .ok (.iadd, 1) := by decide +kernel
theorem dX9_chooseNext_118 : decode cX9_chooseNext 118 = .ok (.iastore, 1) := by decide +kernel
theorem dX9_chooseNext_119 : decode cX9_chooseNext 119 = .ok (.aload_n 0, 1) := by decide +kernel
theorem dX9_chooseNext_120 : decode cX9_chooseNext 120 = .ok (.getfield 29, 3) := by decide +kernel
theorem dX9_chooseNext_123 : decode cX9_chooseNext 123 = .ok (.iload_n 1, 1) := by decide +kernel
theorem dX9_chooseNext_124 : decode cX9_chooseNext 124 = .ok (.iload_n 2, 1) := by decide +kernel
theorem dX9_chooseNext_125 : decode cX9_chooseNext 125 = .ok (.iastore, 1) := by decide +kernel
theorem dX9_chooseNext_126 : decode cX9_chooseNext 126 = .ok (.iinc 2 1, 3) := by decide +kernel
theorem dX9_chooseNext_129 : decode cX9_chooseNext 129 = .ok (.goto (-98), 3) := by decide +kernel
theorem dX9_chooseNext_132 : decode cX9_chooseNext 132 = .ok (.return_, 1) := by decide +kernel
theorem dX10_init_0 : decode cX10_init 0 = .ok (.aload_n 0, 1) := by decide +kernel
theorem dX10_init_1 : decode cX10_init 1 = .ok (.invokespecial 3, 3) := by decide +kernel
theorem dX10_init_4 : decode cX10_init 4 = .ok (.aload_n 0, 1) := by decide +kernel
theorem dX10_init_5 : decode cX10_init 5 = .ok (.new 9, 3) := by decide +kernel
theorem dX10_init_8 : decode cX10_init 8 = .ok (.dup, 1) := by decide +kernel
theorem dX10_init_9 : decode cX10_init 9 = .ok (.invokespecial 11, 3) := by decide +kernel
theorem dX10_init_12 : decode cX10_init 12 = .ok (.putfield 12, 3) := by decide +kernel
theorem dX10_init_15 : decode cX10_init 15 = .ok (.aload_n 0, 1) := by decide +kernel
theorem dX10_init_16 : decode cX10_init 16 = .ok (.new 16, 3) := by decide +kernel
theorem dX10_init_19 : decode cX10_init 19 = .ok (.dup, 1) := by decide +kernel
theorem dX10_init_20 : decode cX10_init 20 = .ok (.aload_n 0, 1) := by decide +kernel
theorem dX10_init_21 : decode cX10_init 21 = .ok (.getfield 12, 3) := by decide +kernel
theorem dX10_init_24 : decode cX10_init 24 = .ok (.invokespecial 18, 3) := by decide +kernel
theorem dX10_init_27 : decode cX10_init 27 = .ok (.putfield 21, 3) := by decide +kernel
theorem dX10_init_30 : decode cX10_init 30 = .ok (.aload_n 0, 1) := by decide +kernel
theorem dX10_init_31 : decode cX10_init 31 = .ok (.new 25, 3) := by decide +kernel
theorem dX10_init_34 : decode cX10_init 34 = .ok (.dup, 1) := by decide +kernel
theorem dX10_init_35 : decode cX10_init 35 = .ok (.invokespecial 27, 3) := by decide +kernel
theorem dX10_init_38 : decode cX10_init 38 = .ok (.putfield 28, 3) := by decide +kernel
theorem dX10_init_41 : decode cX10_init 41 = .ok (.aload_n 0, 1) := by decide +kernel
theorem dX10_init_42 : decode cX10_init 42 = .ok (.new 32, 3) := by decide +kernel
theorem dX10_init_45 : decode cX10_init 45 = .ok (.dup, 1) := by decide +kernel
theorem dX10_init_46 : decode cX10_init 46 = .ok (.invokespecial 34, 3) := by decide +kernel
theorem dX10_init_49 : decode cX10_init 49 = .ok (.putfield 35, 3) := by decide +kernel
theorem dX10_init_52 : decode cX10_init 52 = .ok (.aload_n 0, 1) := by decide +kernel
theorem dX10_init_53 : decode cX10_init 53 = .ok (.new 39, 3) := by decide +kernel
theorem dX10_init_56 : decode cX10_init 56 = .ok (.dup, 1) := by decide +kernel
theorem dX10_init_57 : decode cX10_init 57 = .ok (.iconst 2, 1) := by decide +kernel
theorem dX10_init_58 : decode cX10_init 58 = .ok (.invokespecial 41, 3) := by decide +kernel
theorem dX10_init_61 : decode cX10_init 61 = .ok (.putfield 44, 3) := by decide +kernel
theorem dX10_init_64 : decode cX10_init 64 = .ok (.aload_n 0, 1) := by decide +kernel
theorem dX10_init_65 : decode cX10_init 65 = .ok (.new 48, 3) := by decide +kernel
theorem dX10_init_68 : decode cX10_init 68 = .ok (.dup, 1) := by decide +kernel
theorem dX10_init_69 : decode cX10_init 69 = .ok (.aload_n 0, 1) := by decide +kernel
theorem dX10_init_70 : decode cX10_init 70 = .ok (.getfield 28, 3) := by decide +kernel
theorem dX10_init_73 : decode cX10_init 73 = .ok (.invokespecial 50, 3) := by decide +kernel
theorem dX10_init_76 : decode cX10_init 76 = .ok (.putfield 53, 3) := by decide +kernel
theorem dX10_init_79 : decode cX10_init 79 = .ok (.aload_n 0, 1) := by decide +kernel
theorem dX10_init_80 : decode cX10_init 80 = .ok (.new 57, 3) := by decide +kernel
theorem dX10_init_83 : decode cX10_init 83 = .ok (.dup, 1) := by decide +kernel
theorem dX10_init_84 : decode cX10_init 84 = .ok (.aload_n 0, 1) := by decide +kernel
theorem dX10_init_85 : decode cX10_init 85 = .ok (.getfield 28, 3) := by decide +kernel
theorem dX10_init_88 : decode cX10_init 88 = .ok (.aload_n 0, 1) := by decide +kernel
theorem dX10_init_89 : decode cX10_init 89 = .ok (.getfield 53, 3) := by decide +kernel
theorem dX10_init_92 : decode cX10_init 92 = .ok (.invokespecial 59, 3) := by decide +kernel
theorem dX10_init_95 : decode cX10_init 95 = .ok (.putfield 62, 3) := by decide +kernel
theorem dX10_init_98 : decode cX10_init 98 = .ok (.aload_n 0, 1) := by decide +kernel
theorem dX10_init_99 : decode cX10_init 99 = .ok (.new 66, 3) := by decide +kernel
theorem dX10_init_102 : decode cX10_init 102 = .ok (.dup, 1) := by decide +kernel
theorem dX10_init_103 : decode cX10_init 103 = .ok (.invokespecial 68, 3) := by decide +kernel
theorem dX10_init_106 : decode cX10_init 106 = .ok (.putfield 69, 3) := by decide +kernel
theorem dX10_init_109 : decode cX10_init 109 = .ok (.aload_n 0, 1) := by decide +kernel
theorem dX10_init_110 : decode cX10_init 110 = .ok (.new 73, 3) := by decide +kernel
theorem dX10_init_113 : decode cX10_init 113 = .ok (.dup, 1) := by decide +kernel
theorem dX10_init_114 : decode cX10_init 114 = .ok (.aload_n 0, 1) := by decide +kernel
theorem dX10_init_115 : decode cX10_init 115 = .ok (.getfield 28, 3) := by decide +kernel
theorem dX10_init_118 : decode cX10_init 118 = .ok (.aload_n 0, 1) := by decide +kernel
theorem dX10_init_119 : decode cX10_init 119 = .ok (.getfield 62, 3) := by decide +kernel
theorem dX10_init_122 : decode cX10_init 122 = .ok (.aload_n 0, 1) := by decide +kernel
theorem dX10_init_123 : decode cX10_init 123 = .ok (.getfield 69, 3) := by decide +kernel
theorem dX10_init_126 : decode cX10_init 126 = .ok (.invokespecial 75, 3) := by decide +kernel
theorem dX10_init_129 : decode cX10_init 129 = .ok (.putfield 78, 3) := by decide +kernel
theorem dX10_init_132 : decode cX10_init 132 = .ok (.aload_n 0, 1) := by decide +kernel
theorem dX10_init_133 : decode cX10_init 133 = .ok (.new 82, 3) := by decide +kernel
theorem dX10_init_136 : decode cX10_init 136 = .ok (.dup, 1) := by decide +kernel
theorem dX10_init_137 : decode cX10_init 137 = .ok (.invokespecial 84, 3) := by decide +kernel
theorem dX10_init_140 : decode cX10_init 140 = .ok (.putfield 85, 3) := by decide +kernel
theorem dX10_init_143 : decode cX10_init 143 = .ok (.return_, 1) := by decide +kernel
theorem dX10_type_0 : decode cX10_type 0 = .ok (.iload_n 1, 1) := by decide +kernel
theorem dX10_type_1 : decode cX10_type 1 = .ok (.iconst 0, 1) := by decide +kernel
theorem dX10_type_2 : decode cX10_type 2 = .ok (.sipush 255, 3) := by decide +kernel
theorem dX10_type_5 : decode cX10_type 5 = .ok (.invokestatic 89, 3) := by decide +kernel
theorem dX10_type_8 : decode cX10_type 8 = .ok (.ifCond .ne 5, 3) := by decide +kernel
theorem dX10_type_11 : decode cX10_type 11 = .ok (.iconst (-1), 1) := by decide +kernel
theorem dX10_type_12 : decode cX10_type 12 = .ok (.ireturn, 1) := by decide +kernel
theorem dX10_type_13 : decode cX10_type 13 = .ok (.aload_n 0, 1) := by decide +kernel
theorem dX10_type_14 : decode cX10_type 14 = .ok (.getfield 12, 3) := by decide +kernel
theorem dX10_type_17 : decode cX10_type 17 = .ok (.invokevirtual 93, 3) := by decide +kernel
theorem dX10_type_20 : decode cX10_type 20 = .ok (.ifCond .eq 6, 3) := by decide +kernel
theorem dX10_type_23 : decode cX10_type 23 = .ok (.bipush (-3), 2) := by decide +kernel
theorem dX10_type_25 : decode cX10_type 25 = .ok (.ireturn, 1) := by decide +kernel
theorem dX10_type_26 : decode cX10_type 26 = .ok (.aload_n 0, 1) := by decide +kernel
theorem dX10_type_27 : decode cX10_type 27 = .ok (.getfield 12, 3) := by decide +kernel
theorem dX10_type_30 : decode cX10_type 30 = .ok (.iload_n 1, 1) := by decide +kernel
theorem dX10_type_31 : decode cX10_type 31 = .ok (.i2c, 1) := by decide +kernel
theorem dX10_type_32 : decode cX10_type 32 = .ok (.invokevirtual 97, 3) := by decide +kernel
theorem dX10_type_35 : decode cX10_type 35 = .ok (.ireturn, 1) := by decide +kernel
theorem dX10_clear_0 : decode cX10_clear 0 = .ok (.aload_n 0, 1) := by decide +kernel
theorem dX10_clear_1 : decode cX10_clear 1 = .ok (.getfield 12, 3) := by decide +kernel
theorem dX10_clear_4 : decode cX10_clear 4 = .ok (.invokevirtual 101, 3) := by decide +kernel
theorem dX10_clear_7 : decode cX10_clear 7 = .ok (.ireturn, 1) := by decide +kernel
theorem dX10_readings_0 : decode cX10_readings 0 = .ok (.aload_n 0, 1) := by decide +kernel
theorem dX10_readings_1 : decode cX10_readings 1 = .ok (.getfield 21, 3) := by decide +kernel
theorem dX10_readings_4 : decode cX10_readings 4 = .ok (.invokevirtual 105, 3) := by decide +kernel
theorem dX10_readings_7 : decode cX10_readings 7 = .ok (.istore_n 1, 1) := by decide +kernel
theorem dX10_readings_8 : decode cX10_readings 8 = .ok (.iload_n 1, 1) := by decide +kernel
theorem dX10_readings_9 : decode cX10_readings 9 = .ok (.ifCond .ge 5, 3) := by decide +kernel
theorem dX10_readings_12 : decode cX10_readings 12 = .ok (.iload_n 1, 1) := by decide +kernel
theorem dX10_readings_13 : decode cX10_readings 13 = .ok (.ireturn, 1) := by decide +kernel
theorem dX10_readings_14 : decode cX10_readings 14 = .ok (.aload_n 0, 1) := by decide +kernel
theorem dX10_readings_15 : decode cX10_readings 15 = .ok (.getfield 28, 3) := by decide +kernel
theorem dX10_readings_18 : decode cX10_readings 18 = .ok (.aload_n 0, 1) := by decide +kernel
theorem dX10_readings_19 : decode cX10_readings 19 = .ok (.getfield 21, 3) := by decide +kernel
theorem dX10_readings_22 : decode cX10_readings 22 = .ok (.getfield 108, 3) := by decide +kernel
theorem dX10_readings_25 : decode cX10_readings 25 = .ok (.invokevirtual 111, 3) := by decide +kernel
theorem dX10_readings_28 : decode cX10_readings 28 = .ok (.aload_n 0, 1) := by decide +kernel
theorem dX10_readings_29 : decode cX10_readings 29 = .ok (.getfield 12, 3) := by decide +kernel
theorem dX10_readings_32 : decode cX10_readings 32 = .ok (.invokevirtual 101, 3) := by decide +kernel
theorem dX10_readings_35 : decode cX10_readings 35 = .ok (.pop, 1) := by decide +kernel
theorem dX10_readings_36 : decode cX10_readings 36 = .ok (.aload_n 0, 1) := by decide +kernel
theorem dX10_readings_37 : decode cX10_readings 37 = .ok (.getfield 35, 3) := by decide +kernel
theorem dX10_readings_40 : decode cX10_readings 40 = .ok (.invokevirtual 114, 3) := by decide +kernel
theorem dX10_readings_43 : decode cX10_readings 43 = .ok (.aload_n 0, 1) := by decide +kernel
theorem dX10_readings_44 : decode cX10_readings 44 = .ok (.getfield 44, 3) := by decide +kernel
theorem dX10_readings_47 : decode cX10_readings 47 = .ok (.invokevirtual 116, 3) := by decide +kernel
theorem dX10_readings_50 : decode cX10_readings 50 = .ok (.aload_n 0, 1) := by decide +kernel
theorem dX10_readings_51 : decode cX10_readings 51 = .ok (.getfield 69, 3) := by decide +kernel
theorem dX10_readings_54 : decode cX10_readings 54 = .ok (.invokevirtual 117, 3) := by decide +kernel
theorem dX10_readings_57 : decode cX10_readings 57 = .ok (.pop, 1) := by decide +kernel
theorem dX10_readings_58 : decode cX10_readings 58 = .ok (.aload_n 0, 1) := by decide +kernel
theorem dX10_readings_59 : decode cX10_readings 59 = .ok (.invokevirtual 118, 3) := by decide +kernel
theorem dX10_readings_62 : decode cX10_readings 62 = .ok (.iload_n 1, 1) := by decide +kernel
theorem dX10_readings_63 : decode cX10_readings 63 = .ok (.ireturn, 1) := by decide +kernel
theorem dX10_adds_0 : decode cX10_adds 0 = .ok (.iload_n 1, 1) := by decide +kernel
theorem dX10_adds_1 : decode cX10_adds 1 = .ok (.iconst 0, 1) := by decide +kernel
theorem dX10_adds_2 : decode cX10_adds 2 = .ok (.sipush 999, 3) := by decide +kernel
theorem dX10_adds_5 : decode cX10_adds 5 = .ok (.invokestatic 89, 3) := by decide +kernel
theorem dX10_adds_8 : decode cX10_adds 8 = .ok (.ifCond .eq 14, 3) := by decide +kernel
theorem dX10_adds_11 : decode cX10_adds 11 = .ok (.iload_n 2, 1) := by decide +kernel
theorem dX10_adds_12 : decode cX10_adds 12 = .ok (.iconst 0, 1) := by decide +kernel
theorem dX10_adds_13 : decode cX10_adds 13 = .ok (.sipush 999, 3) := by decide +kernel
theorem dX10_adds_16 : decode cX10_adds 16 = .ok (.invokestatic 89, 3) := by decide +kernel
theorem dX10_adds_19 : decode cX10_adds 19 = .ok (.ifCond .ne 5, 3) := by decide +kernel
theorem dX10_adds_22 : decode cX10_adds 22 = .ok (.iconst (-1), 1) := by decide +kernel
theorem dX10_adds_23 : decode cX10_adds 23 = .ok (.ireturn, 1) := by decide +kernel
theorem dX10_adds_24 : decode cX10_adds 24 = .ok (.aload_n 0, 1) := by decide +kernel
theorem dX10_adds_25 : decode cX10_adds 25 = .ok (.iload_n 1, 1) := by decide +kernel
theorem dX10_adds_26 : decode cX10_adds 26 = .ok (.iload_n 2, 1) := by decide +kernel
theorem dX10_adds_27 : decode cX10_adds 27 = .ok (.invokevirtual 121, 3) := by decide +kernel
theorem dX10_adds_30 : decode cX10_adds 30 = .ok (.ireturn, 1) := by decide +kernel
theorem dX10_misses_0 : decode cX10_misses 0 = .ok (.iload_n 1, 1) := by decide +kernel
theorem dX10_misses_1 : decode cX10_misses 1 = .ok (.iconst 0, 1) := by decide +kernel
theorem dX10_misses_2 : decode cX10_misses 2 = .ok (.sipush 999, 3) := by decide +kernel
theorem dX10_misses_5 : decode cX10_misses 5 = .ok (.invokestatic 89, 3) := by decide +kernel
theorem dX10_misses_8 : decode cX10_misses 8 = .ok (.ifCond .ne 5, 3) := by decide +kernel
theorem dX10_misses_11 : decode cX10_misses 11 = .ok (.iconst (-1), 1) := by decide +kernel
theorem dX10_misses_12 : decode cX10_misses 12 = .ok (.ireturn, 1) := by decide +kernel
theorem dX10_misses_13 : decode cX10_misses 13 = .ok (.aload_n 0, 1) := by decide +kernel
theorem dX10_misses_14 : decode cX10_misses 14 = .ok (.iload_n 1, 1) := by decide +kernel
theorem dX10_misses_15 : decode cX10_misses 15 = .ok (.bipush (-9), 2) := by decide +kernel
theorem dX10_misses_17 : decode cX10_misses 17 = .ok (.invokevirtual 121, 3) := by decide +kernel
theorem dX10_misses_20 : decode cX10_misses 20 = .ok (.ireturn, 1) := by decide +kernel
theorem dX10_strikes_0 : decode cX10_strikes 0 = .ok (.aload_n 0, 1) := by decide +kernel
theorem dX10_strikes_1 : decode cX10_strikes 1 = .ok (.getfield 28, 3) := by decide +kernel
theorem dX10_strikes_4 : decode cX10_strikes 4 = .ok (.iload_n 1, 1) := by decide +kernel
theorem dX10_strikes_5 : decode cX10_strikes 5 = .ok (.invokevirtual 125, 3) := by decide +kernel
theorem dX10_strikes_8 : decode cX10_strikes 8 = .ok (.ifCond .ne 5, 3) := by decide +kernel
theorem dX10_strikes_11 : decode cX10_strikes 11 = .ok (.iconst (-1), 1) := by decide +kernel
theorem dX10_strikes_12 : decode cX10_strikes 12 = .ok (.ireturn, 1) := by decide +kernel
theorem dX10_strikes_13 : decode cX10_strikes 13 = .ok (.aload_n 0, 1) := by decide +kernel
theorem dX10_strikes_14 : decode cX10_strikes 14 = .ok (.invokevirtual 129, 3) := by decide +kernel
theorem dX10_strikes_17 : decode cX10_strikes 17 = .ok (.aload_n 0, 1) := by decide +kernel
theorem dX10_strikes_18 : decode cX10_strikes 18 = .ok (.getfield 28, 3) := by decide +kernel
theorem dX10_strikes_21 : decode cX10_strikes 21 = .ok (.iload_n 1, 1) := by decide +kernel
theorem dX10_strikes_22 : decode cX10_strikes 22 = .ok (.invokevirtual 132, 3) := by decide +kernel
theorem dX10_strikes_25 : decode cX10_strikes 25 = .ok (.aload_n 0, 1) := by decide +kernel
theorem dX10_strikes_26 : decode cX10_strikes 26 = .ok (.getfield 28, 3) := by decide +kernel
theorem dX10_strikes_29 : decode cX10_strikes 29 = .ok (.getfield 135, 3) := by decide +kernel
theorem dX10_strikes_32 : decode cX10_strikes 32 = .ok (.ireturn, 1) := by decide +kernel
theorem dX10_promises_0 : decode cX10_promises 0 = .ok (.iload_n 1, 1) := by decide +kernel
theorem dX10_promises_1 : decode cX10_promises 1 = .ok (.iconst 0, 1) := by decide +kernel
theorem dX10_promises_2 : decode cX10_promises 2 = .ok (.bipush 99, 2) := by decide +kernel
theorem dX10_promises_4 : decode cX10_promises 4 = .ok (.invokestatic 89, 3) := by decide +kernel
theorem dX10_promises_7 : decode cX10_promises 7 = .ok (.ifCond .ne 5, 3) := by decide +kernel
theorem dX10_promises_10 : decode cX10_promises 10 = .ok (.iconst (-1), 1) := by decide +kernel
theorem dX10_promises_11 : decode cX10_promises 11 = .ok (.ireturn, 1) := by decide +kernel
theorem dX10_promises_12 : decode cX10_promises 12 = .ok (.aload_n 0, 1) := by decide +kernel
theorem dX10_promises_13 : decode cX10_promises 13 = .ok (.invokevirtual 129, 3) := by decide +kernel
theorem dX10_promises_16 : decode cX10_promises 16 = .ok (.aload_n 0, 1) := by decide +kernel
theorem dX10_promises_17 : decode cX10_promises 17 = .ok (.getfield 28, 3) := by decide +kernel
theorem dX10_promises_20 : decode cX10_promises 20 = .ok (.getfield 139, 3) := by decide +kernel
theorem dX10_promises_23 : decode cX10_promises 23 = .ok (.istore_n 2, 1) := by decide +kernel
theorem dX10_promises_24 : decode cX10_promises 24 = .ok (.aload_n 0, 1) := by decide +kernel
theorem dX10_promises_25 : decode cX10_promises 25 = .ok (.getfield 28, 3) := by decide +kernel
theorem dX10_promises_28 : decode cX10_promises 28 = .ok (.iload_n 1, 1) := by decide +kernel
theorem dX10_promises_29 : decode cX10_promises 29 = .ok (.putfield 139, 3) := by decide +kernel
theorem dX10_promises_32 : decode cX10_promises 32 = .ok (.iload_n 2, 1) := by decide +kernel
theorem dX10_promises_33 : decode cX10_promises 33 = .ok (.ireturn, 1) := by decide +kernel
theorem dX10_delays_0 : decode cX10_delays 0 = .ok (.iload_n 1, 1) := by decide +kernel
theorem dX10_delays_1 : decode cX10_delays 1 = .ok (.iconst 1, 1) := by decide +kernel
theorem dX10_delays_2 : decode cX10_delays 2 = .ok (.bipush 14, 2) := by decide +kernel
theorem dX10_delays_4 : decode cX10_delays 4 = .ok (.invokestatic 89, 3) := by decide +kernel
theorem dX10_delays_7 : decode cX10_delays 7 = .ok (.ifCond .ne 5, 3) := by decide +kernel
theorem dX10_delays_10 : decode cX10_delays 10 = .ok (.iconst (-1), 1) := by decide +kernel
theorem dX10_delays_11 : decode cX10_delays 11 = .ok (.ireturn, 1) := by decide +kernel
theorem dX10_delays_12 : decode cX10_delays 12 = .ok (.aload_n 0, 1) := by decide +kernel
theorem dX10_delays_13 : decode cX10_delays 13 = .ok (.invokevirtual 129, 3) := by decide +kernel
theorem dX10_delays_16 : decode cX10_delays 16 = .ok (.aload_n 0, 1) := by decide +kernel
theorem dX10_delays_17 : decode cX10_delays 17 = .ok (.getfield 28, 3) := by decide +kernel
theorem dX10_delays_20 : decode cX10_delays 20 = .ok (.getfield 142, 3) := by decide +kernel
theorem dX10_delays_23 : decode cX10_delays 23 = .ok (.istore_n 2, 1) := by decide +kernel
theorem dX10_delays_24 : decode cX10_delays 24 = .ok (.aload_n 0, 1) := by decide +kernel
theorem dX10_delays_25 : decode cX10_delays 25 = .ok (.getfield 28, 3) := by decide +kernel
theorem dX10_delays_28 : decode cX10_delays 28 = .ok (.iload_n 1, 1) := by decide +kernel
theorem dX10_delays_29 : decode cX10_delays 29 = .ok (.putfield 142, 3) := by decide +kernel
theorem dX10_delays_32 : decode cX10_delays 32 = .ok (.iload_n 2, 1) := by decide +kernel
theorem dX10_delays_33 : decode cX10_delays 33 = .ok (.ireturn, 1) := by decide +kernel
theorem dX10_undo_0 : decode cX10_undo 0 = .ok (.aload_n 0, 1) := by decide +kernel
theorem dX10_undo_1 : decode cX10_undo 1 = .ok (.getfield 35, 3) := by decide +kernel
theorem dX10_undo_4 : decode cX10_undo 4 = .ok (.getfield 145, 3) := by decide +kernel
theorem dX10_undo_7 : decode cX10_undo 7 = .ok (.ifCond .ne 6, 3) := by decide +kernel
theorem dX10_undo_10 : decode cX10_undo 10 = .ok (.bipush (-2), 2) := by decide +kernel
theorem dX10_undo_12 : decode cX10_undo 12 = .ok (.ireturn, 1) := by decide +kernel
theorem dX10_undo_13 : decode cX10_undo 13 = .ok (.aload_n 0, 1) := by decide +kernel
theorem dX10_undo_14 : decode cX10_undo 14 = .ok (.getfield 35, 3) := by decide +kernel
theorem dX10_undo_17 : decode cX10_undo 17 = .ok (.aload_n 0, 1) := by decide +kernel
theorem dX10_undo_18 : decode cX10_undo 18 = .ok (.getfield 28, 3) := by decide +kernel
theorem dX10_undo_21 : decode cX10_undo 21 = .ok (.invokevirtual 146, 3) := by decide +kernel
theorem dX10_undo_24 : decode cX10_undo 24 = .ok (.aload_n 0, 1) := by decide +kernel
theorem dX10_undo_25 : decode cX10_undo 25 = .ok (.invokevirtual 118, 3) := by decide +kernel
theorem dX10_undo_28 : decode cX10_undo 28 = .ok (.aload_n 0, 1) := by decide +kernel
theorem dX10_undo_29 : decode cX10_undo 29 = .ok (.getfield 35, 3) := by decide +kernel
theorem dX10_undo_32 : decode cX10_undo 32 = .ok (.getfield 145, 3) := by decide +kernel
theorem dX10_undo_35 : decode cX10_undo 35 = .ok (.ireturn, 1) := by decide +kernel
theorem dX10_reading_0 : decode cX10_reading 0 = .ok (.aload_n 0, 1) := by decide +kernel
theorem dX10_reading_1 : decode cX10_reading 1 = .ok (.getfield 28, 3) := by decide +kernel
theorem dX10_reading_4 : decode cX10_reading 4 = .ok (.iload_n 1, 1) := by decide +kernel
theorem dX10_reading_5 : decode cX10_reading 5 = .ok (.invokevirtual 125, 3) := by decide +kernel
theorem dX10_reading_8 : decode cX10_reading 8 = .ok (.ifCond .ne 5, 3) := by decide +kernel
theorem dX10_reading_11 : decode cX10_reading 11 = .ok (.iconst (-1), 1) := by decide +kernel
theorem dX10_reading_12 : decode cX10_reading 12 = .ok (.ireturn, 1) := by decide +kernel
theorem dX10_reading_13 : decode cX10_reading 13 = .ok (.aload_n 0, 1) := by decide +kernel
theorem dX10_reading_14 : decode cX10_reading 14 = .ok (.getfield 62, 3) := by decide +kernel
theorem dX10_reading_17 : decode cX10_reading 17 = .ok (.invokevirtual 149, 3) := by decide +kernel
theorem dX10_reading_20 : decode cX10_reading 20 = .ok (.iload_n 2, 1) := by decide +kernel
theorem dX10_reading_21 : decode cX10_reading 21 = .ok (.tableswitch 112 0 6 #[43, 52, 61, 70, 79, 91, 100], 43) := by decide +kernel
theorem dX10_reading_64 : decode cX10_reading 64 = .ok (.aload_n 0, 1) := by decide +kernel
theorem dX10_reading_65 : decode cX10_reading 65 = .ok (.getfield 28, 3) := by decide +kernel
theorem dX10_reading_68 : decode cX10_reading 68 = .ok (.iload_n 1, 1) := by decide +kernel
theorem dX10_reading_69 : decode cX10_reading 69 = .ok (.invokevirtual 152, 3) := by decide +kernel
theorem dX10_reading_72 : decode cX10_reading 72 = .ok (.ireturn, 1) := by decide +kernel
theorem dX10_reading_73 : decode cX10_reading 73 = .ok (.aload_n 0, 1) := by decide +kernel
theorem dX10_reading_74 : decode cX10_reading 74 = .ok (.getfield 28, 3) := by decide +kernel
theorem dX10_reading_77 : decode cX10_reading 77 = .ok (.iload_n 1, 1) := by decide +kernel
theorem dX10_reading_78 : decode cX10_reading 78 = .ok (.invokevirtual 156, 3) := by decide +kernel
theorem dX10_reading_81 : decode cX10_reading 81 = .ok (.ireturn, 1) := by decide +kernel
theorem dX10_reading_82 : decode cX10_reading 82 = .ok (.aload_n 0, 1) := by decide +kernel
theorem dX10_reading_83 : decode cX10_reading 83 = .ok (.getfield 53, 3) := by decide +kernel
theorem dX10_reading_86 : decode cX10_reading 86 = .ok (.iload_n 1, 1) := by decide +kernel
theorem dX10_reading_87 : decode cX10_reading 87 = .ok (.invokevirtual 159, 3) := by decide +kernel
theorem dX10_reading_90 : decode cX10_reading 90 = .ok (.ireturn, 1) := by decide +kernel
theorem dX10_reading_91 : decode cX10_reading 91 = .ok (.aload_n 0, 1) := by decide +kernel
theorem dX10_reading_92 : decode cX10_reading 92 = .ok (.getfield 62, 3) := by decide +kernel
theorem dX10_reading_95 : decode cX10_reading 95 = .ok (.iload_n 1, 1) := by decide +kernel
theorem dX10_reading_96 : decode cX10_reading 96 = .ok (.invokevirtual 162, 3) := by decide +kernel
theorem dX10_reading_99 : decode cX10_reading 99 = .ok (.ireturn, 1) := by decide +kernel
theorem dX10_reading_100 : decode cX10_reading 100 = .ok (.aload_n 0, 1) := by decide +kernel
theorem dX10_reading_101 : decode cX10_reading 101 = .ok (.getfield 62, 3) := by decide +kernel
theorem dX10_reading_104 : decode cX10_reading 104 = .ok (.getfield 165, 3) := by decide +kernel
theorem dX10_reading_107 : decode cX10_reading 107 = .ok (.iload_n 1, 1) := by decide +kernel
theorem dX10_reading_108 : decode cX10_reading 108 = .ok (.invokestatic 168, 3) := by decide +kernel
theorem dX10_reading_111 : decode cX10_reading 111 = .ok (.ireturn, 1) := by decide +kernel
theorem dX10_reading_112 : decode cX10_reading 112 = .ok (.aload_n 0, 1) := by decide +kernel
theorem dX10_reading_113 : decode cX10_reading 113 = .ok (.getfield 62, 3) := by decide +kernel
theorem dX10_reading_116 : decode cX10_reading 116 = .ok (.iload_n 1, 1) := by decide +kernel
theorem dX10_reading_117 : decode cX10_reading 117 = .ok (.invokevirtual 171, 3) := by decide +kernel
theorem dX10_reading_120 : decode cX10_reading 120 = .ok (.ireturn, 1) := by decide +kernel
theorem dX10_reading_121 : decode cX10_reading 121 = .ok (.aload_n 0, 1) := by decide +kernel
theorem dX10_reading_122 : decode cX10_reading 122 = .ok (.getfield 62, 3) := by decide +kernel
theorem dX10_reading_125 : decode cX10_reading 125 = .ok (.getfield 174, 3) := by decide +kernel
theorem dX10_reading_128 : decode cX10_reading 128 = .ok (.iload_n 1, 1) := by decide +kernel
theorem dX10_reading_129 : decode cX10_reading 129 = .ok (.invokestatic 168, 3) := by decide +kernel
theorem dX10_reading_132 : decode cX10_reading 132 = .ok (.ireturn, 1) := by decide +kernel
theorem dX10_reading_133 : decode cX10_reading 133 = .ok (.iconst (-1), 1) := by decide +kernel
theorem dX10_reading_134 : decode cX10_reading 134 = .ok (.ireturn, 1) := by decide +kernel
theorem dX10_apart_0 : decode cX10_apart 0 = .ok (.aload_n 0, 1) := by decide +kernel
theorem dX10_apart_1 : decode cX10_apart 1 = .ok (.getfield 62, 3) := by decide +kernel
theorem dX10_apart_4 : decode cX10_apart 4 = .ok (.invokevirtual 149, 3) := by decide +kernel
theorem dX10_apart_7 : decode cX10_apart 7 = .ok (.aload_n 0, 1) := by decide +kernel
theorem dX10_apart_8 : decode cX10_apart 8 = .ok (.iload_n 1, 1) := by decide +kernel
theorem dX10_apart_9 : decode cX10_apart 9 = .ok (.iload_n 2, 1) := by decide +kernel
theorem dX10_apart_10 : decode cX10_apart 10 = .ok (.invokevirtual 177, 3) := by decide +kernel
theorem dX10_apart_13 : decode cX10_apart 13 = .ok (.ifCond .eq 12, 3) := by decide +kernel
theorem dX10_apart_16 : decode cX10_apart 16 = .ok (.iload_n 3, 1) := by decide +kernel
theorem dX10_apart_17 : decode cX10_apart 17 = .ok (.iconst 0, 1) := by decide +kernel
theorem dX10_apart_18 : decode cX10_apart 18 = .ok (.iconst 2, 1) := by decide +kernel
theorem dX10_apart_19 : decode cX10_apart 19 = .ok (.invokestatic 89, 3) := by decide +kernel
theorem dX10_apart_22 : decode cX10_apart 22 = .ok (.ifCond .ne 5, 3) := by decide +kernel
theorem dX10_apart_25 : decode cX10_apart 25 = .ok (.iconst (-1), 1) := by decide +kernel
theorem dX10_apart_26 : decode cX10_apart 26 = .ok (.ireturn, 1) := by decide +kernel
theorem dX10_apart_27 : decode cX10_apart 27 = .ok (.aload_n 0, 1) := by decide +kernel
theorem dX10_apart_28 : decode cX10_apart 28 = .ok (.getfield 53, 3) := by decide +kernel
theorem dX10_apart_31 : decode cX10_apart 31 = .ok (.iload_n 1, 1) := by decide +kernel
theorem dX10_apart_32 : decode cX10_apart 32 = .ok (.iload_n 2, 1) := by decide +kernel
theorem dX10_apart_33 : decode cX10_apart 33 = .ok (.invokevirtual 181, 3) := by decide +kernel
theorem dX10_apart_36 : decode cX10_apart 36 = .ok (.istore 4, 2) := by decide +kernel
theorem dX10_apart_38 : decode cX10_apart 38 = .ok (.iload 4, 2) := by decide +kernel
theorem dX10_apart_40 : decode cX10_apart 40 = .ok (.bipush (-9), 2) := by decide +kernel
theorem dX10_apart_42 : decode cX10_apart 42 = .ok (.if_icmp .eq 8, 3) := by decide +kernel
theorem dX10_apart_45 : decode cX10_apart 45 = .ok (.iload_n 3, 1) := by decide +kernel
theorem dX10_apart_46 : decode cX10_apart 46 = .ok (.iconst 2, 1) := by decide +kernel
theorem dX10_apart_47 : decode cX10_apart 47 = .ok (.if_icmp .ne 6, 3) := by decide +kernel
theorem dX10_apart_50 : decode cX10_apart 50 = .ok (.iload 4, 2) := by decide +kernel
theorem dX10_apart_52 : decode cX10_apart 52 = .ok (.ireturn, 1) := by decide +kernel
theorem dX10_apart_53 : decode cX10_apart 53 = .ok (.aload_n 0, 1) := by decide +kernel
theorem dX10_apart_54 : decode cX10_apart 54 = .ok (.getfield 85, 3) := by decide +kernel
theorem dX10_apart_57 : decode cX10_apart 57 = .ok (.aload_n 0, 1) := by decide +kernel
theorem dX10_apart_58 : decode cX10_apart 58 = .ok (.getfield 53, 3) := by decide +kernel
theorem dX10_apart_61 : decode cX10_apart 61 = .ok (.iload_n 1, 1) := by decide +kernel
theorem dX10_apart_62 : decode cX10_apart 62 = .ok (.iload 4, 2) := by decide +kernel
theorem dX10_apart_64 : decode cX10_apart 64 = .ok (.iload_n 2, 1) := by decide +kernel
theorem dX10_apart_65 : decode cX10_apart 65 = .ok (.invokevirtual 184, 3) := by decide +kernel
theorem dX10_apart_68 : decode cX10_apart 68 = .ok (.aload_n 0, 1) := by decide +kernel
theorem dX10_apart_69 : decode cX10_apart 69 = .ok (.getfield 53, 3) := by decide +kernel
theorem dX10_apart_72 : decode cX10_apart 72 = .ok (.iload_n 1, 1) := by decide +kernel
theorem dX10_apart_73 : decode cX10_apart 73 = .ok (.iload_n 2, 1) := by decide +kernel
theorem dX10_apart_74 : decode cX10_apart 74 = .ok (.invokevirtual 188, 3) := by decide +kernel
theorem dX10_apart_77 : decode cX10_apart 77 = .ok (.invokevirtual 191, 3) := by decide +kernel
theorem dX10_apart_80 : decode cX10_apart 80 = .ok (.aload_n 0, 1) := by decide +kernel
theorem dX10_apart_81 : decode cX10_apart 81 = .ok (.getfield 85, 3) := by decide +kernel
theorem dX10_apart_84 : decode cX10_apart 84 = .ok (.iload_n 3, 1) := by decide +kernel
theorem dX10_apart_85 : decode cX10_apart 85 = .ok (.invokevirtual 195, 3) := by decide +kernel
theorem dX10_apart_88 : decode cX10_apart 88 = .ok (.ireturn, 1) := by decide +kernel
theorem dX10_why_0 : decode cX10_why 0 = .ok (.aload_n 0, 1) := by decide +kernel
theorem dX10_why_1 : decode cX10_why 1 = .ok (.getfield 62, 3) := by decide +kernel
theorem dX10_why_4 : decode cX10_why 4 = .ok (.invokevirtual 149, 3) := by decide +kernel
theorem dX10_why_7 : decode cX10_why 7 = .ok (.aload_n 0, 1) := by decide +kernel
theorem dX10_why_8 : decode cX10_why 8 = .ok (.iload_n 1, 1) := by decide +kernel
theorem dX10_why_9 : decode cX10_why 9 = .ok (.iload_n 2, 1) := by decide +kernel
theorem dX10_why_10 : decode cX10_why 10 = .ok (.invokevirtual 177, 3) := by decide +kernel
theorem dX10_why_13 : decode cX10_why 13 = .ok (.ifCond .ne 5, 3) := by decide +kernel
theorem dX10_why_16 : decode cX10_why 16 = .ok (.iconst (-1), 1) := by decide +kernel
theorem dX10_why_17 : decode cX10_why 17 = .ok (.ireturn, 1) := by decide +kernel
theorem dX10_why_18 : decode cX10_why 18 = .ok (.aload_n 0, 1) := by decide +kernel
theorem dX10_why_19 : decode cX10_why 19 = .ok (.getfield 53, 3) := by decide +kernel
theorem dX10_why_22 : decode cX10_why 22 = .ok (.iload_n 1, 1) := by decide +kernel
theorem dX10_why_23 : decode cX10_why 23 = .ok (.iload_n 2, 1) := by decide +kernel
theorem dX10_why_24 : decode cX10_why 24 = .ok (.aload_n 0, 1) := by decide +kernel
theorem dX10_why_25 : decode cX10_why 25 = .ok (.getfield 28, 3) := by decide +kernel
theorem dX10_why_28 : decode cX10_why 28 = .ok (.getfield 139, 3) := by decide +kernel
theorem dX10_why_31 : decode cX10_why 31 = .ok (.invokevirtual 198, 3) := by decide +kernel
theorem dX10_why_34 : decode cX10_why 34 = .ok (.ireturn, 1) := by decide +kernel
theorem dX10_strip_0 : decode cX10_strip 0 = .ok (.aload_n 0, 1) := by decide +kernel
theorem dX10_strip_1 : decode cX10_strip 1 = .ok (.getfield 62, 3) := by decide +kernel
theorem dX10_strip_4 : decode cX10_strip 4 = .ok (.invokevirtual 149, 3) := by decide +kernel
theorem dX10_strip_7 : decode cX10_strip 7 = .ok (.iload_n 1, 1) := by decide +kernel
theorem dX10_strip_8 : decode cX10_strip 8 = .ok (.iload_n 2, 1) := by decide +kernel
theorem dX10_strip_9 : decode cX10_strip 9 = .ok (.if_icmp .ne 18, 3) := by decide +kernel
theorem dX10_strip_12 : decode cX10_strip 12 = .ok (.aload_n 0, 1) := by decide +kernel
theorem dX10_strip_13 : decode cX10_strip 13 = .ok (.getfield 28, 3) := by decide +kernel
theorem dX10_strip_16 : decode cX10_strip 16 = .ok (.iload_n 1, 1) := by decide +kernel
theorem dX10_strip_17 : decode cX10_strip 17 = .ok (.invokevirtual 201, 3) := by decide +kernel
theorem dX10_strip_20 : decode cX10_strip 20 = .ok (.ifCond .eq 7, 3) := by decide +kernel
theorem dX10_strip_23 : decode cX10_strip 23 = .ok (.iconst 1, 1) := by decide +kernel
theorem dX10_strip_24 : decode cX10_strip 24 = .ok (.goto 4, 3) := by decide +kernel
theorem dX10_strip_27 : decode cX10_strip 27 = .ok (.iconst 0, 1) := by decide +kernel
theorem dX10_strip_28 : decode cX10_strip 28 = .ok (.istore 4, 2) := by decide +kernel
theorem dX10_strip_30 : decode cX10_strip 30 = .ok (.iload 4, 2) := by decide +kernel
theorem dX10_strip_32 : decode cX10_strip 32 = .ok (.ifCond .ne 12, 3) := by decide +kernel
theorem dX10_strip_35 : decode cX10_strip 35 = .ok (.aload_n 0, 1) := by decide +kernel
theorem dX10_strip_36 : decode cX10_strip 36 = .ok (.iload_n 1, 1) := by decide +kernel
theorem dX10_strip_37 : decode cX10_strip 37 = .ok (.iload_n 2, 1) := by decide +kernel
theorem dX10_strip_38 : decode cX10_strip 38 = .ok (.invokevirtual 177, 3) := by decide +kernel
theorem dX10_strip_41 : decode cX10_strip 41 = .ok (.ifCond .eq 12, 3) := by decide +kernel
theorem dX10_strip_44 : decode cX10_strip 44 = .ok (.iload_n 3, 1) := by decide +kernel
theorem dX10_strip_45 : decode cX10_strip 45 = .ok (.iconst 0, 1) := by decide +kernel
theorem dX10_strip_46 : decode cX10_strip 46 = .ok (.iconst 1, 1) := by decide +kernel
theorem dX10_strip_47 : decode cX10_strip 47 = .ok (.invokestatic 89, 3) := by decide +kernel
theorem dX10_strip_50 : decode cX10_strip 50 = .ok (.ifCond .ne 5, 3) := by decide +kernel
theorem dX10_strip_53 : decode cX10_strip 53 = .ok (.iconst (-1), 1) := by decide +kernel
theorem dX10_strip_54 : decode cX10_strip 54 = .ok (.ireturn, 1) := by decide +kernel
theorem dX10_strip_55 : decode cX10_strip 55 = .ok (.aload_n 0, 1) := by decide +kernel
theorem dX10_strip_56 : decode cX10_strip 56 = .ok (.getfield 53, 3) := by decide +kernel
theorem dX10_strip_59 : decode cX10_strip 59 = .ok (.iload_n 1, 1) := by decide +kernel
theorem dX10_strip_60 : decode cX10_strip 60 = .ok (.iload_n 2, 1) := by decide +kernel
theorem dX10_strip_61 : decode cX10_strip 61 = .ok (.aload_n 0, 1) := by decide +kernel
theorem dX10_strip_62 : decode cX10_strip 62 = .ok (.getfield 85, 3) := by decide +kernel
theorem dX10_strip_65 : decode cX10_strip 65 = .ok (.invokevirtual 204, 3) := by decide +kernel
theorem dX10_strip_68 : decode cX10_strip 68 = .ok (.aload_n 0, 1) := by decide +kernel
theorem dX10_strip_69 : decode cX10_strip 69 = .ok (.getfield 85, 3) := by decide +kernel
theorem dX10_strip_72 : decode cX10_strip 72 = .ok (.iload_n 3, 1) := by decide +kernel
theorem dX10_strip_73 : decode cX10_strip 73 = .ok (.invokevirtual 195, 3) := by decide +kernel
theorem dX10_strip_76 : decode cX10_strip 76 = .ok (.ireturn, 1) := by decide +kernel
theorem dX10_told_0 : decode cX10_told 0 = .ok (.iload_n 1, 1) := by decide +kernel
theorem dX10_told_1 : decode cX10_told 1 = .ok (.iconst 0, 1) := by decide +kernel
theorem dX10_told_2 : decode cX10_told 2 = .ok (.sipush 999, 3) := by decide +kernel
theorem dX10_told_5 : decode cX10_told 5 = .ok (.invokestatic 89, 3) := by decide +kernel
theorem dX10_told_8 : decode cX10_told 8 = .ok (.ifCond .eq 21, 3) := by decide +kernel
theorem dX10_told_11 : decode cX10_told 11 = .ok (.iload_n 2, 1) := by decide +kernel
theorem dX10_told_12 : decode cX10_told 12 = .ok (.iconst 0, 1) := by decide +kernel
theorem dX10_told_13 : decode cX10_told 13 = .ok (.iconst 1, 1) := by decide +kernel
theorem dX10_told_14 : decode cX10_told 14 = .ok (.invokestatic 89, 3) := by decide +kernel
theorem dX10_told_17 : decode cX10_told 17 = .ok (.ifCond .eq 12, 3) := by decide +kernel
theorem dX10_told_20 : decode cX10_told 20 = .ok (.iload_n 3, 1) := by decide +kernel
theorem dX10_told_21 : decode cX10_told 21 = .ok (.iconst 0, 1) := by decide +kernel
theorem dX10_told_22 : decode cX10_told 22 = .ok (.iconst 1, 1) := by decide +kernel
theorem dX10_told_23 : decode cX10_told 23 = .ok (.invokestatic 89, 3) := by decide +kernel
theorem dX10_told_26 : decode cX10_told 26 = .ok (.ifCond .ne 5, 3) := by decide +kernel
theorem dX10_told_29 : decode cX10_told 29 = .ok (.iconst (-1), 1) := by decide +kernel
theorem dX10_told_30 : decode cX10_told 30 = .ok (.ireturn, 1) := by decide +kernel
theorem dX10_told_31 : decode cX10_told 31 = .ok (.aload_n 0, 1) := by decide +kernel
theorem dX10_told_32 : decode cX10_told 32 = .ok (.getfield 62, 3) := by decide +kernel
theorem dX10_told_35 : decode cX10_told 35 = .ok (.invokevirtual 149, 3) := by decide +kernel
theorem dX10_told_38 : decode cX10_told 38 = .ok (.iload_n 2, 1) := by decide +kernel
theorem dX10_told_39 : decode cX10_told 39 = .ok (.ifCond .ne 13, 3) := by decide +kernel
theorem dX10_told_42 : decode cX10_told 42 = .ok (.aload_n 0, 1) := by decide +kernel
theorem dX10_told_43 : decode cX10_told 43 = .ok (.getfield 62, 3) := by decide +kernel
theorem dX10_told_46 : decode cX10_told 46 = .ok (.getfield 165, 3) := by decide +kernel
theorem dX10_told_49 : decode cX10_told 49 = .ok (.goto 10, 3) := by decide +kernel
theorem dX10_told_52 : decode cX10_told 52 = .ok (.aload_n 0, 1) := by decide +kernel
theorem dX10_told_53 : decode cX10_told 53 = .ok (.getfield 62, 3) := by decide +kernel
theorem dX10_told_56 : decode cX10_told 56 = .ok (.getfield 174, 3) := by decide +kernel
theorem dX10_told_59 : decode cX10_told 59 = .ok (.istore 4, 2) := by decide +kernel
theorem dX10_told_61 : decode cX10_told 61 = .ok (.aload_n 0, 1) := by decide +kernel
theorem dX10_told_62 : decode cX10_told 62 = .ok (.getfield 28, 3) := by decide +kernel
theorem dX10_told_65 : decode cX10_told 65 = .ok (.iload_n 1, 1) := by decide +kernel
theorem dX10_told_66 : decode cX10_told 66 = .ok (.iload 4, 2) := by decide +kernel
theorem dX10_told_68 : decode cX10_told 68 = .ok (.invokevirtual 208, 3) := by decide +kernel
theorem dX10_told_71 : decode cX10_told 71 = .ok (.istore 5, 2) := by decide +kernel
theorem dX10_told_73 : decode cX10_told 73 = .ok (.aload_n 0, 1) := by decide +kernel
theorem dX10_told_74 : decode cX10_told 74 = .ok (.getfield 28, 3) := by decide +kernel
theorem dX10_told_77 : decode cX10_told 77 = .ok (.iload_n 1, 1) := by decide +kernel
theorem dX10_told_78 : decode cX10_told 78 = .ok (.iload 4, 2) := by decide +kernel
theorem dX10_told_80 : decode cX10_told 80 = .ok (.invokevirtual 211, 3) := by decide +kernel
theorem dX10_told_83 : decode cX10_told 83 = .ok (.istore 6, 2) := by decide +kernel
theorem dX10_told_85 : decode cX10_told 85 = .ok (.aload_n 0, 1) := by decide +kernel
theorem dX10_told_86 : decode cX10_told 86 = .ok (.getfield 28, 3) := by decide +kernel
theorem dX10_told_89 : decode cX10_told 89 = .ok (.iload 5, 2) := by decide +kernel
theorem dX10_told_91 : decode cX10_told 91 = .ok (.invokevirtual 201, 3) := by decide +kernel
theorem dX10_told_94 : decode cX10_told 94 = .ok (.ifCond .eq 36, 3) := by decide +kernel
theorem dX10_told_97 : decode cX10_told 97 = .ok (.aload_n 0, 1) := by decide +kernel
theorem dX10_told_98 : decode cX10_told 98 = .ok (.getfield 28, 3) := by decide +kernel
theorem dX10_told_101 : decode cX10_told 101 = .ok (.iload 6, 2) := by decide +kernel
theorem dX10_told_103 : decode cX10_told 103 = .ok (.invokevirtual 201, 3) := by decide +kernel
theorem dX10_told_106 : decode cX10_told 106 = .ok (.ifCond .eq 24, 3) := by decide +kernel
theorem dX10_told_109 : decode cX10_told 109 = .ok (.aload_n 0, 1) := by decide +kernel
theorem dX10_told_110 : decode cX10_told 110 = .ok (.getfield 53, 3) := by decide +kernel
theorem dX10_told_113 : decode cX10_told 113 = .ok (.iload 5, 2) := by decide +kernel
theorem dX10_told_115 : decode cX10_told 115 = .ok (.invokevirtual 159, 3) := by decide +kernel
theorem dX10_told_118 : decode cX10_told 118 = .ok (.aload_n 0, 1) := by decide +kernel
theorem dX10_told_119 : decode cX10_told 119 = .ok (.getfield 53, 3) := by decide +kernel
theorem dX10_told_122 : decode cX10_told 122 = .ok (.iload 6, 2) := by decide +kernel
theorem dX10_told_124 : decode cX10_told 124 = .ok (.invokevirtual 159, 3) := by decide +kernel
theorem dX10_told_127 : decode cX10_told 127 = .ok (.if_icmp .eq 6, 3) := by decide +kernel
theorem dX10_told_130 : decode cX10_told 130 = .ok (.bipush (-9), 2) := by decide +kernel
theorem dX10_told_132 : decode cX10_told 132 = .ok (.ireturn, 1) := by decide +kernel
theorem dX10_told_133 : decode cX10_told 133 = .ok (.aload_n 0, 1) := by decide +kernel
theorem dX10_told_134 : decode cX10_told 134 = .ok (.getfield 53, 3) := by decide +kernel
theorem dX10_told_137 : decode cX10_told 137 = .ok (.iload 5, 2) := by decide +kernel
theorem dX10_told_139 : decode cX10_told 139 = .ok (.iload 6, 2) := by decide +kernel
theorem dX10_told_141 : decode cX10_told 141 = .ok (.iload_n 1, 1) := by decide +kernel
theorem dX10_told_142 : decode cX10_told 142 = .ok (.aload_n 0, 1) := by decide +kernel
theorem dX10_told_143 : decode cX10_told 143 = .ok (.getfield 85, 3) := by decide +kernel
theorem dX10_told_146 : decode cX10_told 146 = .ok (.invokevirtual 214, 3) := by decide +kernel
theorem dX10_told_149 : decode cX10_told 149 = .ok (.aload_n 0, 1) := by decide +kernel
theorem dX10_told_150 : decode cX10_told 150 = .ok (.getfield 85, 3) := by decide +kernel
theorem dX10_told_153 : decode cX10_told 153 = .ok (.iload_n 3, 1) := by decide +kernel
theorem dX10_told_154 : decode cX10_told 154 = .ok (.invokevirtual 195, 3) := by decide +kernel
theorem dX10_told_157 : decode cX10_told 157 = .ok (.ireturn, 1) := by decide +kernel
theorem dX10_sees_0 : decode cX10_sees 0 = .ok (.aload_n 0, 1) := by decide +kernel
theorem dX10_sees_1 : decode cX10_sees 1 = .ok (.getfield 28, 3) := by decide +kernel
theorem dX10_sees_4 : decode cX10_sees 4 = .ok (.iload_n 1, 1) := by decide +kernel
theorem dX10_sees_5 : decode cX10_sees 5 = .ok (.invokevirtual 201, 3) := by decide +kernel
theorem dX10_sees_8 : decode cX10_sees 8 = .ok (.ifCond .eq 12, 3) := by decide +kernel
theorem dX10_sees_11 : decode cX10_sees 11 = .ok (.iload_n 2, 1) := by decide +kernel
theorem dX10_sees_12 : decode cX10_sees 12 = .ok (.iconst 0, 1) := by decide +kernel
theorem dX10_sees_13 : decode cX10_sees 13 = .ok (.iconst 1, 1) := by decide +kernel
theorem dX10_sees_14 : decode cX10_sees 14 = .ok (.invokestatic 89, 3) := by decide +kernel
theorem dX10_sees_17 : decode cX10_sees 17 = .ok (.ifCond .ne 5, 3) := by decide +kernel
theorem dX10_sees_20 : decode cX10_sees 20 = .ok (.iconst (-1), 1) := by decide +kernel
theorem dX10_sees_21 : decode cX10_sees 21 = .ok (.ireturn, 1) := by decide +kernel
theorem dX10_sees_22 : decode cX10_sees 22 = .ok (.aload_n 0, 1) := by decide +kernel
theorem dX10_sees_23 : decode cX10_sees 23 = .ok (.getfield 69, 3) := by decide +kernel
theorem dX10_sees_26 : decode cX10_sees 26 = .ok (.invokevirtual 218, 3) := by decide +kernel
theorem dX10_sees_29 : decode cX10_sees 29 = .ok (.ifCond .eq 6, 3) := by decide +kernel
theorem dX10_sees_32 : decode cX10_sees 32 = .ok (.bipush (-3), 2) := by decide +kernel
theorem dX10_sees_34 : decode cX10_sees 34 = .ok (.ireturn, 1) := by decide +kernel
theorem dX10_sees_35 : decode cX10_sees 35 = .ok (.aload_n 0, 1) := by decide +kernel
theorem dX10_sees_36 : decode cX10_sees 36 = .ok (.getfield 69, 3) := by decide +kernel
theorem dX10_sees_39 : decode cX10_sees 39 = .ok (.iload_n 1, 1) := by decide +kernel
theorem dX10_sees_40 : decode cX10_sees 40 = .ok (.iload_n 2, 1) := by decide +kernel
theorem dX10_sees_41 : decode cX10_sees 41 = .ok (.invokevirtual 219, 3) := by decide +kernel
theorem dX10_sees_44 : decode cX10_sees 44 = .ok (.ireturn, 1) := by decide +kernel
theorem dX10_forget_0 : decode cX10_forget 0 = .ok (.aload_n 0, 1) := by decide +kernel
theorem dX10_forget_1 : decode cX10_forget 1 = .ok (.getfield 69, 3) := by decide +kernel
theorem dX10_forget_4 : decode cX10_forget 4 = .ok (.invokevirtual 117, 3) := by decide +kernel
theorem dX10_forget_7 : decode cX10_forget 7 = .ok (.ireturn, 1) := by decide +kernel
theorem dX10_unseen_0 : decode cX10_unseen 0 = .ok (.iload_n 1, 1) := by decide +kernel
theorem dX10_unseen_1 : decode cX10_unseen 1 = .ok (.iconst 0, 1) := by decide +kernel
theorem dX10_unseen_2 : decode cX10_unseen 2 = .ok (.iconst 2, 1) := by decide +kernel
theorem dX10_unseen_3 : decode cX10_unseen 3 = .ok (.invokestatic 89, 3) := by decide +kernel
theorem dX10_unseen_6 : decode cX10_unseen 6 = .ok (.ifCond .ne 5, 3) := by decide +kernel
theorem dX10_unseen_9 : decode cX10_unseen 9 = .ok (.iconst (-1), 1) := by decide +kernel
theorem dX10_unseen_10 : decode cX10_unseen 10 = .ok (.ireturn, 1) := by decide +kernel
theorem dX10_unseen_11 : decode cX10_unseen 11 = .ok (.aload_n 0, 1) := by decide +kernel
theorem dX10_unseen_12 : decode cX10_unseen 12 = .ok (.getfield 62, 3) := by decide +kernel
theorem dX10_unseen_15 : decode cX10_unseen 15 = .ok (.invokevirtual 149, 3) := by decide +kernel
theorem dX10_unseen_18 : decode cX10_unseen 18 = .ok (.aload_n 0, 1) := by decide +kernel
theorem dX10_unseen_19 : decode cX10_unseen 19 = .ok (.getfield 78, 3) := by decide +kernel
theorem dX10_unseen_22 : decode cX10_unseen 22 = .ok (.invokevirtual 221, 3) := by decide +kernel
theorem dX10_unseen_25 : decode cX10_unseen 25 = .ok (.iload_n 1, 1) := by decide +kernel
theorem dX10_unseen_26 : decode cX10_unseen 26 = .ok (.lookupswitch 42 #[(0, 26), (1, 34)], 26) := by decide +kernel
theorem dX10_unseen_52 : decode cX10_unseen 52 = .ok (.aload_n 0, 1) := by decide +kernel
theorem dX10_unseen_53 : decode cX10_unseen 53 = .ok (.getfield 78, 3) := by decide +kernel
theorem dX10_unseen_56 : decode cX10_unseen 56 = .ok (.getfield 224, 3) := by decide +kernel
theorem dX10_unseen_59 : decode cX10_unseen 59 = .ok (.ireturn, 1) := by decide +kernel
theorem dX10_unseen_60 : decode cX10_unseen 60 = .ok (.aload_n 0, 1) := by decide +kernel
theorem dX10_unseen_61 : decode cX10_unseen 61 = .ok (.getfield 78, 3) := by decide +kernel
theorem dX10_unseen_64 : decode cX10_unseen 64 = .ok (.getfield 227, 3) := by decide +kernel
theorem dX10_unseen_67 : decode cX10_unseen 67 = .ok (.ireturn, 1) := by decide +kernel
theorem dX10_unseen_68 : decode cX10_unseen 68 = .ok (.aload_n 0, 1) := by decide +kernel
theorem dX10_unseen_69 : decode cX10_unseen 69 = .ok (.getfield 78, 3) := by decide +kernel
theorem dX10_unseen_72 : decode cX10_unseen 72 = .ok (.getfield 230, 3) := by decide +kernel
theorem dX10_unseen_75 : decode cX10_unseen 75 = .ok (.ireturn, 1) := by decide +kernel
theorem dX10_ask_0 : decode cX10_ask 0 = .ok (.aload_n 0, 1) := by decide +kernel
theorem dX10_ask_1 : decode cX10_ask 1 = .ok (.getfield 62, 3) := by decide +kernel
theorem dX10_ask_4 : decode cX10_ask 4 = .ok (.invokevirtual 149, 3) := by decide +kernel
theorem dX10_ask_7 : decode cX10_ask 7 = .ok (.aload_n 0, 1) := by decide +kernel
theorem dX10_ask_8 : decode cX10_ask 8 = .ok (.getfield 78, 3) := by decide +kernel
theorem dX10_ask_11 : decode cX10_ask 11 = .ok (.invokevirtual 221, 3) := by decide +kernel
theorem dX10_ask_14 : decode cX10_ask 14 = .ok (.aload_n 0, 1) := by decide +kernel
theorem dX10_ask_15 : decode cX10_ask 15 = .ok (.getfield 78, 3) := by decide +kernel
theorem dX10_ask_18 : decode cX10_ask 18 = .ok (.invokevirtual 233, 3) := by decide +kernel
theorem dX10_ask_21 : decode cX10_ask 21 = .ok (.ireturn, 1) := by decide +kernel
theorem dX10_keep_0 : decode cX10_keep 0 = .ok (.iload_n 1, 1) := by decide +kernel
theorem dX10_keep_1 : decode cX10_keep 1 = .ok (.iconst 0, 1) := by decide +kernel
theorem dX10_keep_2 : decode cX10_keep 2 = .ok (.iconst 1, 1) := by decide +kernel
theorem dX10_keep_3 : decode cX10_keep 3 = .ok (.invokestatic 89, 3) := by decide +kernel
theorem dX10_keep_6 : decode cX10_keep 6 = .ok (.ifCond .ne 5, 3) := by decide +kernel
theorem dX10_keep_9 : decode cX10_keep 9 = .ok (.iconst (-1), 1) := by decide +kernel
theorem dX10_keep_10 : decode cX10_keep 10 = .ok (.ireturn, 1) := by decide +kernel
theorem dX10_keep_11 : decode cX10_keep 11 = .ok (.aload_n 0, 1) := by decide +kernel
theorem dX10_keep_12 : decode cX10_keep 12 = .ok (.getfield 44, 3) := by decide +kernel
theorem dX10_keep_15 : decode cX10_keep 15 = .ok (.iload_n 1, 1) := by decide +kernel
theorem dX10_keep_16 : decode cX10_keep 16 = .ok (.aload_n 0, 1) := by decide +kernel
theorem dX10_keep_17 : decode cX10_keep 17 = .ok (.getfield 28, 3) := by decide +kernel
theorem dX10_keep_20 : decode cX10_keep 20 = .ok (.invokevirtual 236, 3) := by decide +kernel
theorem dX10_keep_23 : decode cX10_keep 23 = .ok (.aload_n 0, 1) := by decide +kernel
theorem dX10_keep_24 : decode cX10_keep 24 = .ok (.getfield 28, 3) := by decide +kernel
theorem dX10_keep_27 : decode cX10_keep 27 = .ok (.getfield 135, 3) := by decide +kernel
theorem dX10_keep_30 : decode cX10_keep 30 = .ok (.ireturn, 1) := by decide +kernel
theorem dX10_back_0 : decode cX10_back 0 = .ok (.iload_n 1, 1) := by decide +kernel
theorem dX10_back_1 : decode cX10_back 1 = .ok (.iconst 0, 1) := by decide +kernel
theorem dX10_back_2 : decode cX10_back 2 = .ok (.iconst 1, 1) := by decide +kernel
theorem dX10_back_3 : decode cX10_back 3 = .ok (.invokestatic 89, 3) := by decide +kernel
theorem dX10_back_6 : decode cX10_back 6 = .ok (.ifCond .ne 5, 3) := by decide +kernel
theorem dX10_back_9 : decode cX10_back 9 = .ok (.iconst (-1), 1) := by decide +kernel
theorem dX10_back_10 : decode cX10_back 10 = .ok (.ireturn, 1) := by decide +kernel
theorem dX10_back_11 : decode cX10_back 11 = .ok (.aload_n 0, 1) := by decide +kernel
theorem dX10_back_12 : decode cX10_back 12 = .ok (.getfield 44, 3) := by decide +kernel
theorem dX10_back_15 : decode cX10_back 15 = .ok (.iload_n 1, 1) := by decide +kernel
theorem dX10_back_16 : decode cX10_back 16 = .ok (.invokevirtual 239, 3) := by decide +kernel
theorem dX10_back_19 : decode cX10_back 19 = .ok (.ifCond .ne 6, 3) := by decide +kernel
theorem dX10_back_22 : decode cX10_back 22 = .ok (.bipush (-2), 2) := by decide +kernel
theorem dX10_back_24 : decode cX10_back 24 = .ok (.ireturn, 1) := by decide +kernel
theorem dX10_back_25 : decode cX10_back 25 = .ok (.aload_n 0, 1) := by decide +kernel
theorem dX10_back_26 : decode cX10_back 26 = .ok (.getfield 44, 3) := by decide +kernel
theorem dX10_back_29 : decode cX10_back 29 = .ok (.iload_n 1, 1) := by decide +kernel
theorem dX10_back_30 : decode cX10_back 30 = .ok (.aload_n 0, 1) := by decide +kernel
theorem dX10_back_31 : decode cX10_back 31 = .ok (.getfield 28, 3) := by decide +kernel
theorem dX10_back_34 : decode cX10_back 34 = .ok (.invokevirtual 242, 3) := by decide +kernel
theorem dX10_back_37 : decode cX10_back 37 = .ok (.aload_n 0, 1) := by decide +kernel
theorem dX10_back_38 : decode cX10_back 38 = .ok (.getfield 35, 3) := by decide +kernel
theorem dX10_back_41 : decode cX10_back 41 = .ok (.invokevirtual 114, 3) := by decide +kernel
theorem dX10_back_44 : decode cX10_back 44 = .ok (.aload_n 0, 1) := by decide +kernel
theorem dX10_back_45 : decode cX10_back 45 = .ok (.invokevirtual 118, 3) := by decide +kernel
theorem dX10_back_48 : decode cX10_back 48 = .ok (.aload_n 0, 1) := by decide +kernel
theorem dX10_back_49 : decode cX10_back 49 = .ok (.getfield 28, 3) := by decide +kernel
theorem dX10_back_52 : decode cX10_back 52 = .ok (.getfield 135, 3) := by decide +kernel
theorem dX10_back_55 : decode cX10_back 55 = .ok (.ireturn, 1) := by decide +kernel
theorem dX10_count_0 : decode cX10_count 0 = .ok (.aload_n 0, 1) := by decide +kernel
theorem dX10_count_1 : decode cX10_count 1 = .ok (.getfield 62, 3) := by decide +kernel
theorem dX10_count_4 : decode cX10_count 4 = .ok (.invokevirtual 149, 3) := by decide +kernel
theorem dX10_count_7 : decode cX10_count 7 = .ok (.iload_n 1, 1) := by decide +kernel
theorem dX10_count_8 : decode cX10_count 8 = .ok (.tableswitch 154 0 10 #[60, 68, 76, 84, 92, 103, 111, 122, 130, 138, 146], 60) := by decide +kernel
theorem dX10_count_68 : decode cX10_count 68 = .ok (.aload_n 0, 1) := by decide +kernel
theorem dX10_count_69 : decode cX10_count 69 = .ok (.getfield 28, 3) := by decide +kernel
theorem dX10_count_72 : decode cX10_count 72 = .ok (.getfield 135, 3) := by decide +kernel
theorem dX10_count_75 : decode cX10_count 75 = .ok (.ireturn, 1) := by decide +kernel
theorem dX10_count_76 : decode cX10_count 76 = .ok (.aload_n 0, 1) := by decide +kernel
theorem dX10_count_77 : decode cX10_count 77 = .ok (.getfield 28, 3) := by decide +kernel
theorem dX10_count_80 : decode cX10_count 80 = .ok (.getfield 139, 3) := by decide +kernel
theorem dX10_count_83 : decode cX10_count 83 = .ok (.ireturn, 1) := by decide +kernel
theorem dX10_count_84 : decode cX10_count 84 = .ok (.aload_n 0, 1) := by decide +kernel
theorem dX10_count_85 : decode cX10_count 85 = .ok (.getfield 28, 3) := by decide +kernel
theorem dX10_count_88 : decode cX10_count 88 = .ok (.getfield 142, 3) := by decide +kernel
theorem dX10_count_91 : decode cX10_count 91 = .ok (.ireturn, 1) := by decide +kernel
theorem dX10_count_92 : decode cX10_count 92 = .ok (.aload_n 0, 1) := by decide +kernel
theorem dX10_count_93 : decode cX10_count 93 = .ok (.getfield 53, 3) := by decide +kernel
theorem dX10_count_96 : decode cX10_count 96 = .ok (.getfield 245, 3) := by decide +kernel
theorem dX10_count_99 : decode cX10_count 99 = .ok (.ireturn, 1) := by decide +kernel
theorem dX10_count_100 : decode cX10_count 100 = .ok (.aload_n 0, 1) := by decide +kernel
theorem dX10_count_101 : decode cX10_count 101 = .ok (.getfield 62, 3) := by decide +kernel
theorem dX10_count_104 : decode cX10_count 104 = .ok (.getfield 165, 3) := by decide +kernel
theorem dX10_count_107 : decode cX10_count 107 = .ok (.invokestatic 248, 3) := by decide +kernel
theorem dX10_count_110 : decode cX10_count 110 = .ok (.ireturn, 1) := by decide +kernel
theorem dX10_count_111 : decode cX10_count 111 = .ok (.aload_n 0, 1) := by decide +kernel
theorem dX10_count_112 : decode cX10_count 112 = .ok (.getfield 62, 3) := by decide +kernel
theorem dX10_count_115 : decode cX10_count 115 = .ok (.getfield 253, 3) := by decide +kernel
theorem dX10_count_118 : decode cX10_count 118 = .ok (.ireturn, 1) := by decide +kernel
theorem dX10_count_119 : decode cX10_count 119 = .ok (.aload_n 0, 1) := by decide +kernel
theorem dX10_count_120 : decode cX10_count 120 = .ok (.getfield 62, 3) := by decide +kernel
theorem dX10_count_123 : decode cX10_count 123 = .ok (.getfield 174, 3) := by decide +kernel
theorem dX10_count_126 : decode cX10_count 126 = .ok (.invokestatic 248, 3) := by decide +kernel
theorem dX10_count_129 : decode cX10_count 129 = .ok (.ireturn, 1) := by decide +kernel
theorem dX10_count_130 : decode cX10_count 130 = .ok (.aload_n 0, 1) := by decide +kernel
theorem dX10_count_131 : decode cX10_count 131 = .ok (.getfield 62, 3) := by decide +kernel
theorem dX10_count_134 : decode cX10_count 134 = .ok (.invokevirtual 256, 3) := by decide +kernel
theorem dX10_count_137 : decode cX10_count 137 = .ok (.ireturn, 1) := by decide +kernel
theorem dX10_count_138 : decode cX10_count 138 = .ok (.aload_n 0, 1) := by decide +kernel
theorem dX10_count_139 : decode cX10_count 139 = .ok (.getfield 69, 3) := by decide +kernel
theorem dX10_count_142 : decode cX10_count 142 = .ok (.getfield 259, 3) := by decide +kernel
theorem dX10_count_145 : decode cX10_count 145 = .ok (.ireturn, 1) := by decide +kernel
theorem dX10_count_146 : decode cX10_count 146 = .ok (.aload_n 0, 1) := by decide +kernel
theorem dX10_count_147 : decode cX10_count 147 = .ok (.getfield 12, 3) := by decide +kernel
theorem dX10_count_150 : decode cX10_count 150 = .ok (.getfield 260, 3) := by decide +kernel
theorem dX10_count_153 : decode cX10_count 153 = .ok (.ireturn, 1) := by decide +kernel
theorem dX10_count_154 : decode cX10_count 154 = .ok (.aload_n 0, 1) := by decide +kernel
theorem dX10_count_155 : decode cX10_count 155 = .ok (.getfield 35, 3) := by decide +kernel
theorem dX10_count_158 : decode cX10_count 158 = .ok (.getfield 145, 3) := by decide +kernel
theorem dX10_count_161 : decode cX10_count 161 = .ok (.ireturn, 1) := by decide +kernel
theorem dX10_count_162 : decode cX10_count 162 = .ok (.iconst (-1), 1) := by decide +kernel
theorem dX10_count_163 : decode cX10_count 163 = .ok (.ireturn, 1) := by decide +kernel
theorem dX10_appendReading_0 : decode cX10_appendReading 0 = .ok (.aload_n 0, 1) := by decide +kernel
theorem dX10_appendReading_1 : decode cX10_appendReading 1 = .ok (.getfield 28, 3) := by decide +kernel
theorem dX10_appendReading_4 : decode cX10_appendReading 4 = .ok (.iload_n 1, 1) := by decide +kernel
theorem dX10_appendReading_5 : decode cX10_appendReading 5 = .ok (.invokevirtual 263, 3) := by decide +kernel
theorem dX10_appendReading_8 : decode cX10_appendReading 8 = .ok (.ifCond .ne 6, 3) := by decide +kernel
theorem dX10_appendReading_11 : decode cX10_appendReading 11 = .ok (.bipush (-2), 2) := by decide +kernel
theorem dX10_appendReading_13 : decode cX10_appendReading 13 = .ok (.ireturn, 1) := by decide +kernel
theorem dX10_appendReading_14 : decode cX10_appendReading 14 = .ok (.aload_n 0, 1) := by decide +kernel
theorem dX10_appendReading_15 : decode cX10_appendReading 15 = .ok (.getfield 28, 3) := by decide +kernel
theorem dX10_appendReading_18 : decode cX10_appendReading 18 = .ok (.invokevirtual 266, 3) := by decide +kernel
theorem dX10_appendReading_21 : decode cX10_appendReading 21 = .ok (.ifCond .eq 6, 3) := by decide +kernel
theorem dX10_appendReading_24 : decode cX10_appendReading 24 = .ok (.bipush (-3), 2) := by decide +kernel
theorem dX10_appendReading_26 : decode cX10_appendReading 26 = .ok (.ireturn, 1) := by decide +kernel
theorem dX10_appendReading_27 : decode cX10_appendReading 27 = .ok (.aload_n 0, 1) := by decide +kernel
theorem dX10_appendReading_28 : decode cX10_appendReading 28 = .ok (.invokevirtual 129, 3) := by decide +kernel
theorem dX10_appendReading_31 : decode cX10_appendReading 31 = .ok (.aload_n 0, 1) := by decide +kernel
theorem dX10_appendReading_32 : decode cX10_appendReading 32 = .ok (.getfield 28, 3) := by decide +kernel
theorem dX10_appendReading_35 : decode cX10_appendReading 35 = .ok (.iload_n 1, 1) := by decide +kernel
theorem dX10_appendReading_36 : decode cX10_appendReading 36 = .ok (.iload_n 2, 1) := by decide +kernel
theorem dX10_appendReading_37 : decode cX10_appendReading 37 = .ok (.invokevirtual 267, 3) := by decide +kernel
theorem dX10_appendReading_40 : decode cX10_appendReading 40 = .ok (.ireturn, 1) := by decide +kernel
theorem dX10_rememberForUndo_0 : decode cX10_rememberForUndo 0 = .ok (.aload_n 0, 1) := by decide +kernel
theorem dX10_rememberForUndo_1 : decode cX10_rememberForUndo 1 = .ok (.getfield 35, 3) := by decide +kernel
theorem dX10_rememberForUndo_4 : decode cX10_rememberForUndo 4 = .ok (.aload_n 0, 1) := by decide +kernel
theorem dX10_rememberForUndo_5 : decode cX10_rememberForUndo 5 = .ok (.getfield 28, 3) := by decide +kernel
theorem dX10_rememberForUndo_8 : decode cX10_rememberForUndo 8 = .ok (.invokevirtual 270, 3) := by decide +kernel
theorem dX10_rememberForUndo_11 : decode cX10_rememberForUndo 11 = .ok (.aload_n 0, 1) := by decide +kernel
theorem dX10_rememberForUndo_12 : decode cX10_rememberForUndo 12 = .ok (.invokevirtual 118, 3) := by decide +kernel
theorem dX10_rememberForUndo_15 : decode cX10_rememberForUndo 15 = .ok (.return_, 1) := by decide +kernel
theorem dX10_outdateAll_0 : decode cX10_outdateAll 0 = .ok (.aload_n 0, 1) := by decide +kernel
theorem dX10_outdateAll_1 : decode cX10_outdateAll 1 = .ok (.getfield 62, 3) := by decide +kernel
theorem dX10_outdateAll_4 : decode cX10_outdateAll 4 = .ok (.invokevirtual 273, 3) := by decide +kernel
theorem dX10_outdateAll_7 : decode cX10_outdateAll 7 = .ok (.aload_n 0, 1) := by decide +kernel
theorem dX10_outdateAll_8 : decode cX10_outdateAll 8 = .ok (.getfield 78, 3) := by decide +kernel
theorem dX10_outdateAll_11 : decode cX10_outdateAll 11 = .ok (.invokevirtual 276, 3) := by decide +kernel
theorem dX10_outdateAll_14 : decode cX10_outdateAll 14 = .ok (.return_, 1) := by decide +kernel
theorem dX10_isLine_0 : decode cX10_isLine 0 = .ok (.iload_n 1, 1) := by decide +kernel
theorem dX10_isLine_1 : decode cX10_isLine 1 = .ok (.iload_n 2, 1) := by decide +kernel
theorem dX10_isLine_2 : decode cX10_isLine 2 = .ok (.if_icmp .ge 48, 3) := by decide +kernel
theorem dX10_isLine_5 : decode cX10_isLine 5 = .ok (.aload_n 0, 1) := by decide +kernel
theorem dX10_isLine_6 : decode cX10_isLine 6 = .ok (.getfield 28, 3) := by decide +kernel
theorem dX10_isLine_9 : decode cX10_isLine 9 = .ok (.iload_n 1, 1) := by decide +kernel
theorem dX10_isLine_10 : decode cX10_isLine 10 = .ok (.invokevirtual 201, 3) := by decide +kernel
theorem dX10_isLine_13 : decode cX10_isLine 13 = .ok (.ifCond .eq 37, 3) := by decide +kernel
theorem dX10_isLine_16 : decode cX10_isLine 16 = .ok (.aload_n 0, 1) := by decide +kernel
theorem dX10_isLine_17 : decode cX10_isLine 17 = .ok (.getfield 28, 3) := by decide +kernel
theorem dX10_isLine_20 : decode cX10_isLine 20 = .ok (.iload_n 2, 1) := by decide +kernel
theorem dX10_isLine_21 : decode cX10_isLine 21 = .ok (.invokevirtual 201, 3) := by decide +kernel
theorem dX10_isLine_24 : decode cX10_isLine 24 = .ok (.ifCond .eq 26, 3) := by decide +kernel
theorem dX10_isLine_27 : decode cX10_isLine 27 = .ok (.aload_n 0, 1) := by decide +kernel
theorem dX10_isLine_28 : decode cX10_isLine 28 = .ok (.getfield 53, 3) := by decide +kernel
theorem dX10_isLine_31 : decode cX10_isLine 31 = .ok (.iload_n 1, 1) := by decide +kernel
theorem dX10_isLine_32 : decode cX10_isLine 32 = .ok (.invokevirtual 159, 3) := by decide +kernel
theorem dX10_isLine_35 : decode cX10_isLine 35 = .ok (.aload_n 0, 1) := by decide +kernel
theorem dX10_isLine_36 : decode cX10_isLine 36 = .ok (.getfield 53, 3) := by decide +kernel
theorem dX10_isLine_39 : decode cX10_isLine 39 = .ok (.iload_n 2, 1) := by decide +kernel
theorem dX10_isLine_40 : decode cX10_isLine 40 = .ok (.invokevirtual 159, 3) := by decide +kernel
theorem dX10_isLine_43 : decode cX10_isLine 43 = .ok (.if_icmp .ne 7, 3) := by decide +kernel
theorem dX10_isLine_46 : decode cX10_isLine 46 = .ok (.iconst 1, 1) := by decide +kernel
theorem dX10_isLine_47 : decode cX10_isLine 47 = .ok (.goto 4, 3) := by decide +kernel
theorem dX10_isLine_50 : decode cX10_isLine 50 = .ok (.iconst 0, 1) := by decide +kernel
theorem dX10_isLine_51 : decode cX10_isLine 51 = .ok (.ireturn, 1) := by decide +kernel
theorem dX10_isWithin_0 : decode cX10_isWithin 0 = .ok (.iload_n 0, 1) := by decide +kernel
theorem dX10_isWithin_1 : decode cX10_isWithin 1 = .ok (.iload_n 1, 1) := by decide +kernel
theorem dX10_isWithin_2 : decode cX10_isWithin 2 = .ok (.if_icmp .lt 12, 3) := by decide +kernel
theorem dX10_isWithin_5 : decode cX10_isWithin 5 = .ok (.iload_n 0, 1) := by decide +kernel
theorem dX10_isWithin_6 : decode cX10_isWithin 6 = .ok (.iload_n 2, 1) := by decide +kernel
theorem dX10_isWithin_7 : decode cX10_isWithin 7 = .ok (.if_icmp .gt 7, 3) := by decide +kernel
theorem dX10_isWithin_10 : decode cX10_isWithin 10 = .ok (.iconst 1, 1) := by decide +kernel
theorem dX10_isWithin_11 : decode cX10_isWithin 11 = .ok (.goto 4, 3) := by decide +kernel
theorem dX10_isWithin_14 : decode cX10_isWithin 14 = .ok (.iconst 0, 1) := by decide +kernel
theorem dX10_isWithin_15 : decode cX10_isWithin 15 = .ok (.ireturn, 1) := by decide +kernel
theorem dX10_bitAt_0 : decode cX10_bitAt 0 = .ok (.iload_n 0, 1) := by decide +kernel
theorem dX10_bitAt_1 : decode cX10_bitAt 1 = .ok (.iload_n 1, 1) := by decide +kernel
theorem dX10_bitAt_2 : decode cX10_bitAt 2 = .ok (.iushr, 1) := by decide +kernel
theorem dX10_bitAt_3 : decode cX10_bitAt 3 = .ok (.iconst 1, 1) := by decide +kernel
theorem dX10_bitAt_4 : decode cX10_bitAt 4 = .ok (.iand, 1) := by decide +kernel
theorem dX10_bitAt_5 : decode cX10_bitAt 5 = .ok (.ireturn, 1) := by decide +kernel
theorem dX11_init_0 : decode cX11_init 0 = .ok (.aload_n 0, 1) := by decide +kernel
theorem dX11_init_1 : decode cX11_init 1 = .ok (.invokespecial 1, 3) := by decide +kernel
theorem dX11_init_4 : decode cX11_init 4 = .ok (.aload_n 0, 1) := by decide +kernel
theorem dX11_init_5 : decode cX11_init 5 = .ok (.bipush 31, 2) := by decide +kernel
theorem dX11_init_7 : decode cX11_init 7 = .ok (.newarray .int, 2) := by decide +kernel
theorem dX11_init_9 : decode cX11_init 9 = .ok (.putfield 7, 3) := by decide +kernel
theorem dX11_init_12 : decode cX11_init 12 = .ok (.aload_n 0, 1) := by decide +kernel
theorem dX11_init_13 : decode cX11_init 13 = .ok (.sipush 310, 3) := by decide +kernel
theorem dX11_init_16 : decode cX11_init 16 = .ok (.newarray .int, 2) := by decide +kernel
theorem dX11_init_18 : decode cX11_init 18 = .ok (.putfield 13, 3) := by decide +kernel
theorem dX11_init_21 : decode cX11_init 21 = .ok (.aload_n 0, 1) := by decide +kernel
theorem dX11_init_22 : decode cX11_init 22 = .ok (.bipush 6, 2) := by decide +kernel
theorem dX11_init_24 : decode cX11_init 24 = .ok (.newarray .int, 2) := by decide +kernel
theorem dX11_init_26 : decode cX11_init 26 = .ok (.putfield 16, 3) := by decide +kernel
theorem dX11_init_29 : decode cX11_init 29 = .ok (.aload_n 0, 1) := by decide +kernel
theorem dX11_init_30 : decode cX11_init 30 = .ok (.bipush 6, 2) := by decide +kernel
theorem dX11_init_32 : decode cX11_init 32 = .ok (.newarray .int, 2) := by decide +kernel
theorem dX11_init_34 : decode cX11_init 34 = .ok (.putfield 19, 3) := by decide +kernel
theorem dX11_init_37 : decode cX11_init 37 = .ok (.aload_n 0, 1) := by decide +kernel
theorem dX11_init_38 : decode cX11_init 38 = .ok (.iconst 2, 1) := by decide +kernel
theorem dX11_init_39 : decode cX11_init 39 = .ok (.newarray .boolean, 2) := by decide +kernel
theorem dX11_init_41 : decode cX11_init 41 = .ok (.putfield 22, 3) := by decide +kernel
theorem dX11_init_44 : decode cX11_init 44 = .ok (.aload_n 0, 1) := by decide +kernel
theorem dX11_init_45 : decode cX11_init 45 = .ok (.bipush 62, 2) := by decide +kernel
theorem dX11_init_47 : decode cX11_init 47 = .ok (.newarray .int, 2) := by decide +kernel
theorem dX11_init_49 : decode cX11_init 49 = .ok (.putfield 26, 3) := by decide +kernel
theorem dX11_init_52 : decode cX11_init 52 = .ok (.aload_n 0, 1) := by decide +kernel
theorem dX11_init_53 : decode cX11_init 53 = .ok (.bipush 120, 2) := by decide +kernel
theorem dX11_init_55 : decode cX11_init 55 = .ok (.newarray .int, 2) := by decide +kernel
theorem dX11_init_57 : decode cX11_init 57 = .ok (.putfield 29, 3) := by decide +kernel
theorem dX11_init_60 : decode cX11_init 60 = .ok (.aload_n 0, 1) := by decide +kernel
theorem dX11_init_61 : decode cX11_init 61 = .ok (.bipush 31, 2) := by decide +kernel
theorem dX11_init_63 : decode cX11_init 63 = .ok (.newarray .int, 2) := by decide +kernel
theorem dX11_init_65 : decode cX11_init 65 = .ok (.putfield 32, 3) := by decide +kernel
theorem dX11_init_68 : decode cX11_init 68 = .ok (.aload_n 0, 1) := by decide +kernel
theorem dX11_init_69 : decode cX11_init 69 = .ok (.bipush 14, 2) := by decide +kernel
theorem dX11_init_71 : decode cX11_init 71 = .ok (.newarray .int, 2) := by decide +kernel
theorem dX11_init_73 : decode cX11_init 73 = .ok (.putfield 35, 3) := by decide +kernel
theorem dX11_init_76 : decode cX11_init 76 = .ok (.aload_n 0, 1) := by decide +kernel
theorem dX11_init_77 : decode cX11_init 77 = .ok (.bipush 100, 2) := by decide +kernel
theorem dX11_init_79 : decode cX11_init 79 = .ok (.newarray .int, 2) := by decide +kernel
theorem dX11_init_81 : decode cX11_init 81 = .ok (.putfield 38, 3) := by decide +kernel
theorem dX11_init_84 : decode cX11_init 84 = .ok (.aload_n 0, 1) := by decide +kernel
theorem dX11_init_85 : decode cX11_init 85 = .ok (.bipush 100, 2) := by decide +kernel
theorem dX11_init_87 : decode cX11_init 87 = .ok (.newarray .boolean, 2) := by decide +kernel
theorem dX11_init_89 : decode cX11_init 89 = .ok (.putfield 41, 3) := by decide +kernel
theorem dX11_init_92 : decode cX11_init 92 = .ok (.aload_n 0, 1) := by decide +kernel
theorem dX11_init_93 : decode cX11_init 93 = .ok (.getfield 7, 3) := by decide +kernel
theorem dX11_init_96 : decode cX11_init 96 = .ok (.invokestatic 44, 3) := by decide +kernel
theorem dX11_init_99 : decode cX11_init 99 = .ok (.return_, 1) := by decide +kernel
theorem dX11_in_0 : decode cX11_in 0 = .ok (.iload_n 0, 1) := by decide +kernel
theorem dX11_in_1 : decode cX11_in 1 = .ok (.iload_n 1, 1) := by decide +kernel
theorem dX11_in_2 : decode cX11_in 2 = .ok (.if_icmp .lt 12, 3) := by decide +kernel
theorem dX11_in_5 : decode cX11_in 5 = .ok (.iload_n 0, 1) := by decide +kernel
theorem dX11_in_6 : decode cX11_in 6 = .ok (.iload_n 2, 1) := by decide +kernel
theorem dX11_in_7 : decode cX11_in 7 = .ok (.if_icmp .gt 7, 3) := by decide +kernel
theorem dX11_in_10 : decode cX11_in 10 = .ok (.iconst 1, 1) := by decide +kernel
theorem dX11_in_11 : decode cX11_in 11 = .ok (.goto 4, 3) := by decide +kernel
theorem dX11_in_14 : decode cX11_in 14 = .ok (.iconst 0, 1) := by decide +kernel
theorem dX11_in_15 : decode cX11_in 15 = .ok (.ireturn, 1) := by decide +kernel
theorem dX11_has_0 : decode cX11_has 0 = .ok (.iload_n 0, 1) := by decide +kernel
theorem dX11_has_1 : decode cX11_has 1 = .ok (.iload_n 1, 1) := by decide +kernel
theorem dX11_has_2 : decode cX11_has 2 = .ok (.ishr, 1) := by decide +kernel
theorem dX11_has_3 : decode cX11_has 3 = .ok (.iconst 1, 1) := by decide +kernel
theorem dX11_has_4 : decode cX11_has 4 = .ok (.iand, 1) := by decide +kernel
theorem dX11_has_5 : decode cX11_has 5 = .ok (.iconst 1, 1) := by decide +kernel
theorem dX11_has_6 : decode cX11_has 6 = .ok (.if_icmp .ne 7, 3) := by decide +kernel
theorem dX11_has_9 : decode cX11_has 9 = .ok (.iconst 1, 1) := by decide +kernel
theorem dX11_has_10 : decode cX11_has 10 = .ok (.goto 4, 3) := by decide +kernel
theorem dX11_has_13 : decode cX11_has 13 = .ok (.iconst 0, 1) := by decide +kernel
theorem dX11_has_14 : decode cX11_has 14 = .ok (.ireturn, 1) := by decide +kernel
theorem dX11_bits_0 : decode cX11_bits 0 = .ok (.iconst 0, 1) := by decide +kernel
theorem dX11_bits_1 : decode cX11_bits 1 = .ok (.istore_n 1, 1) := by decide +kernel
theorem dX11_bits_2 : decode cX11_bits 2 = .ok (.iload_n 0, 1) := by decide +kernel
theorem dX11_bits_3 : decode cX11_bits 3 = .ok (.istore_n 2, 1) := by decide +kernel
theorem dX11_bits_4 : decode cX11_bits 4 = .ok (.iload_n 2, 1) := by decide +kernel
theorem dX11_bits_5 : decode cX11_bits 5 = .ok (.ifCond .eq 15, 3) := by decide +kernel
theorem dX11_bits_8 : decode cX11_bits 8 = .ok (.iinc 1 1, 3) := by decide +kernel
theorem dX11_bits_11 : decode cX11_bits 11 = .ok (.iload_n 2, 1) := by decide +kernel
theorem dX11_bits_12 : decode cX11_bits 12 = .ok (.iload_n 2, 1) := by decide +kernel
theorem dX11_bits_13 : decode cX11_bits 13 = .ok (.iconst 1, 1) := by decide +kernel
theorem dX11_bits_14 : decode cX11_bits 14 = .ok (.isub, 1) := by decide +kernel
theorem dX11_bits_15 : decode cX11_bits 15 = .ok (.iand, 1) := by decide +kernel
theorem dX11_bits_16 : decode cX11_bits 16 = .ok (.istore_n 2, 1) := by decide +kernel
theorem dX11_bits_17 : decode cX11_bits 17 = .ok (.goto (-13), 3) := by decide +kernel
theorem dX11_bits_20 : decode cX11_bits 20 = .ok (.iload_n 1, 1) := by decide +kernel
theorem dX11_bits_21 : decode cX11_bits 21 = .ok (.ireturn, 1) := by decide +kernel
theorem dX11_begins_0 : decode cX11_begins 0 = .ok (.iconst 0, 1) := by decide +kernel
theorem dX11_begins_1 : decode cX11_begins 1 = .ok (.istore_n 1, 1) := by decide +kernel
theorem dX11_begins_2 : decode cX11_begins 2 = .ok (.iload_n 1, 1) := by decide +kernel
theorem dX11_begins_3 : decode cX11_begins 3 = .ok (.bipush 31, 2) := by decide +kernel
theorem dX11_begins_5 : decode cX11_begins 5 = .ok (.if_icmp .ge 13, 3) := by decide +kernel
theorem dX11_begins_8 : decode cX11_begins 8 = .ok (.aload_n 0, 1) := by decide +kernel
theorem dX11_begins_9 : decode cX11_begins 9 = .ok (.iload_n 1, 1) := by decide +kernel
theorem dX11_begins_10 : decode cX11_begins 10 = .ok (.iconst 0, 1) := by decide +kernel
theorem dX11_begins_11 : decode cX11_begins 11 = .ok (.iastore, 1) := by decide +kernel
theorem dX11_begins_12 : decode cX11_begins 12 = .ok (.iinc 1 1, 3) := by decide +kernel
theorem dX11_begins_15 : decode cX11_begins 15 = .ok (.goto (-13), 3) := by decide +kernel
theorem dX11_begins_18 : decode cX11_begins 18 = .ok (.aload_n 0, 1) := by decide +kernel
theorem dX11_begins_19 : decode cX11_begins 19 = .ok (.iconst 1, 1) := by decide +kernel
theorem dX11_begins_20 : decode cX11_begins 20 = .ok (.iconst 5, 1) := by decide +kernel
theorem dX11_begins_21 : decode cX11_begins 21 = .ok (.iastore, 1) := by decide +kernel
theorem dX11_begins_22 : decode cX11_begins 22 = .ok (.aload_n 0, 1) := by decide +kernel
theorem dX11_begins_23 : decode cX11_begins 23 = .ok (.iconst 2, 1) := by decide +kernel
theorem dX11_begins_24 : decode cX11_begins 24 = .ok (.bipush 14, 2) := by decide +kernel
theorem dX11_begins_26 : decode cX11_begins 26 = .ok (.iastore, 1) := by decide +kernel
theorem dX11_begins_27 : decode cX11_begins 27 = .ok (.return_, 1) := by decide +kernel
theorem dX11_type_0 : decode cX11_type 0 = .ok (.iload_n 1, 1) := by decide +kernel
theorem dX11_type_1 : decode cX11_type 1 = .ok (.iconst 0, 1) := by decide +kernel
theorem dX11_type_2 : decode cX11_type 2 = .ok (.sipush 255, 3) := by decide +kernel
theorem dX11_type_5 : decode cX11_type 5 = .ok (.invokestatic 48, 3) := by decide +kernel
theorem dX11_type_8 : decode cX11_type 8 = .ok (.ifCond .ne 5, 3) := by decide +kernel
theorem dX11_type_11 : decode cX11_type 11 = .ok (.iconst (-1), 1) := by decide +kernel
theorem dX11_type_12 : decode cX11_type 12 = .ok (.ireturn, 1) := by decide +kernel
theorem dX11_type_13 : decode cX11_type 13 = .ok (.aload_n 0, 1) := by decide +kernel
theorem dX11_type_14 : decode cX11_type 14 = .ok (.getfield 52, 3) := by decide +kernel
theorem dX11_type_17 : decode cX11_type 17 = .ok (.bipush 120, 2) := by decide +kernel
theorem dX11_type_19 : decode cX11_type 19 = .ok (.if_icmp .ne 6, 3) := by decide +kernel
theorem dX11_type_22 : decode cX11_type 22 = .ok (.bipush (-3), 2) := by decide +kernel
theorem dX11_type_24 : decode cX11_type 24 = .ok (.ireturn, 1) := by decide +kernel
theorem dX11_type_25 : decode cX11_type 25 = .ok (.aload_n 0, 1) := by decide +kernel
theorem dX11_type_26 : decode cX11_type 26 = .ok (.getfield 29, 3) := by decide +kernel
theorem dX11_type_29 : decode cX11_type 29 = .ok (.aload_n 0, 1) := by decide +kernel
theorem dX11_type_30 : decode cX11_type 30 = .ok (.getfield 52, 3) := by decide +kernel
theorem dX11_type_33 : decode cX11_type 33 = .ok (.iload_n 1, 1) := by decide +kernel
theorem dX11_type_34 : decode cX11_type 34 = .ok (.iastore, 1) := by decide +kernel
theorem dX11_type_35 : decode cX11_type 35 = .ok (.aload_n 0, 1) := by decide +kernel
theorem dX11_type_36 : decode cX11_type 36 = .ok (.dup, 1) := by decide +kernel
theorem dX11_type_37 : decode cX11_type 37 = .ok (.getfield 52, 3) := by decide +kernel
theorem dX11_type_40 : decode cX11_type 40 = .ok (.iconst 1, 1) := by decide +kernel
theorem dX11_type_41 : decode cX11_type 41 = .ok (.iadd, 1) := by decide +kernel
theorem dX11_type_42 : decode cX11_type 42 = .ok (.putfield 52, 3) := by decide +kernel
theorem dX11_type_45 : decode cX11_type 45 = .ok (.aload_n 0, 1) := by decide +kernel
theorem dX11_type_46 : decode cX11_type 46 = .ok (.getfield 52, 3) := by decide +kernel
theorem dX11_type_49 : decode cX11_type 49 = .ok (.ireturn, 1) := by decide +kernel
theorem dX11_clear_0 : decode cX11_clear 0 = .ok (.aload_n 0, 1) := by decide +kernel
theorem dX11_clear_1 : decode cX11_clear 1 = .ok (.getfield 52, 3) := by decide +kernel
theorem dX11_clear_4 : decode cX11_clear 4 = .ok (.istore_n 1, 1) := by decide +kernel
theorem dX11_clear_5 : decode cX11_clear 5 = .ok (.aload_n 0, 1) := by decide +kernel
theorem dX11_clear_6 : decode cX11_clear 6 = .ok (.iconst 0, 1) := by decide +kernel
theorem dX11_clear_7 : decode cX11_clear 7 = .ok (.putfield 52, 3) := by decide +kernel
theorem dX11_clear_10 : decode cX11_clear 10 = .ok (.iload_n 1, 1) := by decide +kernel
theorem dX11_clear_11 : decode cX11_clear 11 = .ok (.ireturn, 1) := by decide +kernel
theorem dX11_isFigure_0 : decode cX11_isFigure 0 = .ok (.aload_n 0, 1) := by decide +kernel
theorem dX11_isFigure_1 : decode cX11_isFigure 1 = .ok (.getfield 56, 3) := by decide +kernel
theorem dX11_isFigure_4 : decode cX11_isFigure 4 = .ok (.aload_n 0, 1) := by decide +kernel
theorem dX11_isFigure_5 : decode cX11_isFigure 5 = .ok (.getfield 52, 3) := by decide +kernel
theorem dX11_isFigure_8 : decode cX11_isFigure 8 = .ok (.if_icmp .ge 26, 3) := by decide +kernel
theorem dX11_isFigure_11 : decode cX11_isFigure 11 = .ok (.aload_n 0, 1) := by decide +kernel
theorem dX11_isFigure_12 : decode cX11_isFigure 12 = .ok (.getfield 29, 3) := by decide +kernel
theorem dX11_isFigure_15 : decode cX11_isFigure 15 = .ok (.aload_n 0, 1) := by decide +kernel
theorem dX11_isFigure_16 : decode cX11_isFigure 16 = .ok (.getfield 56, 3) := by decide +kernel
theorem dX11_isFigure_19 : decode cX11_isFigure 19 = .ok (.iaload, 1) := by decide +kernel
theorem dX11_isFigure_20 : decode cX11_isFigure 20 = .ok (.bipush 48, 2) := by decide +kernel
theorem dX11_isFigure_22 : decode cX11_isFigure 22 = .ok (.bipush 57, 2) := by decide +kernel
theorem dX11_isFigure_24 : decode cX11_isFigure 24 = .ok (.invokestatic 48, 3) := by decide +kernel
theorem dX11_isFigure_27 : decode cX11_isFigure 27 = .ok (.ifCond .eq 7, 3) := by decide +kernel
theorem dX11_isFigure_30 : decode cX11_isFigure 30 = .ok (.iconst 1, 1) := by decide +kernel
