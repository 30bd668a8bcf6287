theorem dX11_isFigure_31 : decode cX11_isFigure 31 = .ok (.goto 4, 3) := by decide +kernel
theorem dX11_isFigure_34 : decode cX11_isFigure 34 = .ok (.iconst 0, 1) := by decide +kernel
theorem dX11_isFigure_35 : decode cX11_isFigure 35 = .ok (.ireturn, 1) := by decide +kernel
theorem dX11_blanks_0 : decode cX11_blanks 0 = .ok (.aload_n 0, 1) := by decide +kernel
theorem dX11_blanks_1 : decode cX11_blanks 1 = .ok (.getfield 56, 3) := by decide +kernel
theorem dX11_blanks_4 : decode cX11_blanks 4 = .ok (.aload_n 0, 1) := by decide +kernel
theorem dX11_blanks_5 : decode cX11_blanks 5 = .ok (.getfield 52, 3) := by decide +kernel
theorem dX11_blanks_8 : decode cX11_blanks 8 = .ok (.if_icmp .ge 30, 3) := by decide +kernel
theorem dX11_blanks_11 : decode cX11_blanks 11 = .ok (.aload_n 0, 1) := by decide +kernel
theorem dX11_blanks_12 : decode cX11_blanks 12 = .ok (.getfield 29, 3) := by decide +kernel
theorem dX11_blanks_15 : decode cX11_blanks 15 = .ok (.aload_n 0, 1) := by decide +kernel
theorem dX11_blanks_16 : decode cX11_blanks 16 = .ok (.getfield 56, 3) := by decide +kernel
theorem dX11_blanks_19 : decode cX11_blanks 19 = .ok (.iaload, 1) := by decide +kernel
theorem dX11_blanks_20 : decode cX11_blanks 20 = .ok (.bipush 32, 2) := by decide +kernel
theorem dX11_blanks_22 : decode cX11_blanks 22 = .ok (.if_icmp .ne 16, 3) := by decide +kernel
theorem dX11_blanks_25 : decode cX11_blanks 25 = .ok (.aload_n 0, 1) := by decide +kernel
theorem dX11_blanks_26 : decode cX11_blanks 26 = .ok (.dup, 1) := by decide +kernel
theorem dX11_blanks_27 : decode cX11_blanks 27 = .ok (.getfield 56, 3) := by decide +kernel
theorem dX11_blanks_30 : decode cX11_blanks 30 = .ok (.iconst 1, 1) := by decide +kernel
theorem dX11_blanks_31 : decode cX11_blanks 31 = .ok (.iadd, 1) := by decide +kernel
theorem dX11_blanks_32 : decode cX11_blanks 32 = .ok (.putfield 56, 3) := by decide +kernel
theorem dX11_blanks_35 : decode cX11_blanks 35 = .ok (.goto (-35), 3) := by decide +kernel
theorem dX11_blanks_38 : decode cX11_blanks 38 = .ok (.return_, 1) := by decide +kernel
theorem dX11_next_0 : decode cX11_next 0 = .ok (.aload_n 0, 1) := by decide +kernel
theorem dX11_next_1 : decode cX11_next 1 = .ok (.invokevirtual 59, 3) := by decide +kernel
theorem dX11_next_4 : decode cX11_next 4 = .ok (.aload_n 0, 1) := by decide +kernel
theorem dX11_next_5 : decode cX11_next 5 = .ok (.aload_n 0, 1) := by decide +kernel
theorem dX11_next_6 : decode cX11_next 6 = .ok (.getfield 56, 3) := by decide +kernel
theorem dX11_next_9 : decode cX11_next 9 = .ok (.putfield 62, 3) := by decide +kernel
theorem dX11_next_12 : decode cX11_next 12 = .ok (.aload_n 0, 1) := by decide +kernel
theorem dX11_next_13 : decode cX11_next 13 = .ok (.getfield 56, 3) := by decide +kernel
theorem dX11_next_16 : decode cX11_next 16 = .ok (.aload_n 0, 1) := by decide +kernel
theorem dX11_next_17 : decode cX11_next 17 = .ok (.getfield 52, 3) := by decide +kernel
theorem dX11_next_20 : decode cX11_next 20 = .ok (.if_icmp .ne 11, 3) := by decide +kernel
theorem dX11_next_23 : decode cX11_next 23 = .ok (.aload_n 0, 1) := by decide +kernel
theorem dX11_next_24 : decode cX11_next 24 = .ok (.iconst (-1), 1) := by decide +kernel
theorem dX11_next_25 : decode cX11_next 25 = .ok (.putfield 65, 3) := by decide +kernel
theorem dX11_next_28 : decode cX11_next 28 = .ok (.goto 186, 3) := by decide +kernel
theorem dX11_next_31 : decode cX11_next 31 = .ok (.aload_n 0, 1) := by decide +kernel
theorem dX11_next_32 : decode cX11_next 32 = .ok (.invokevirtual 68, 3) := by decide +kernel
theorem dX11_next_35 : decode cX11_next 35 = .ok (.ifCond .eq 119, 3) := by decide +kernel
theorem dX11_next_38 : decode cX11_next 38 = .ok (.aload_n 0, 1) := by decide +kernel
theorem dX11_next_39 : decode cX11_next 39 = .ok (.iconst 0, 1) := by decide +kernel
theorem dX11_next_40 : decode cX11_next 40 = .ok (.putfield 72, 3) := by decide +kernel
theorem dX11_next_43 : decode cX11_next 43 = .ok (.aload_n 0, 1) := by decide +kernel
theorem dX11_next_44 : decode cX11_next 44 = .ok (.invokevirtual 68, 3) := by decide +kernel
theorem dX11_next_47 : decode cX11_next 47 = .ok (.ifCond .eq 57, 3) := by decide +kernel
theorem dX11_next_50 : decode cX11_next 50 = .ok (.aload_n 0, 1) := by decide +kernel
theorem dX11_next_51 : decode cX11_next 51 = .ok (.aload_n 0, 1) := by decide +kernel
theorem dX11_next_52 : decode cX11_next 52 = .ok (.getfield 72, 3) := by decide +kernel
theorem dX11_next_55 : decode cX11_next 55 = .ok (.sipush 9999, 3) := by decide +kernel
theorem dX11_next_58 : decode cX11_next 58 = .ok (.if_icmp .le 10, 3) := by decide +kernel
theorem dX11_next_61 : decode cX11_next 61 = .ok (.aload_n 0, 1) := by decide +kernel
theorem dX11_next_62 : decode cX11_next 62 = .ok (.getfield 72, 3) := by decide +kernel
theorem dX11_next_65 : decode cX11_next 65 = .ok (.goto 23, 3) := by decide +kernel
theorem dX11_next_68 : decode cX11_next 68 = .ok (.bipush 10, 2) := by decide +kernel
theorem dX11_next_70 : decode cX11_next 70 = .ok (.aload_n 0, 1) := by decide +kernel
theorem dX11_next_71 : decode cX11_next 71 = .ok (.getfield 72, 3) := by decide +kernel
theorem dX11_next_74 : decode cX11_next 74 = .ok (.imul, 1) := by decide +kernel
theorem dX11_next_75 : decode cX11_next 75 = .ok (.aload_n 0, 1) := by decide +kernel
theorem dX11_next_76 : decode cX11_next 76 = .ok (.getfield 29, 3) := by decide +kernel
theorem dX11_next_79 : decode cX11_next 79 = .ok (.aload_n 0, 1) := by decide +kernel
theorem dX11_next_80 : decode cX11_next 80 = .ok (.getfield 56, 3) := by decide +kernel
theorem dX11_next_83 : decode cX11_next 83 = .ok (.iaload, 1) := by decide +kernel
theorem dX11_next_84 : decode cX11_next 84 = .ok (.iadd, 1) := by decide +kernel
theorem dX11_next_85 : decode cX11_next 85 = .ok (.bipush 48, 2) := by decide +kernel
theorem dX11_next_87 : decode cX11_next 87 = .ok (.isub, 1) := by decide +kernel
theorem dX11_next_88 : decode cX11_next 88 = .ok (.putfield 72, 3) := by decide +kernel
theorem dX11_next_91 : decode cX11_next 91 = .ok (.aload_n 0, 1) := by decide +kernel
theorem dX11_next_92 : decode cX11_next 92 = .ok (.dup, 1) := by decide +kernel
theorem dX11_next_93 : decode cX11_next 93 = .ok (.getfield 56, 3) := by decide +kernel
theorem dX11_next_96 : decode cX11_next 96 = .ok (.iconst 1, 1) := by decide +kernel
theorem dX11_next_97 : decode cX11_next 97 = .ok (.iadd, 1) := by decide +kernel
theorem dX11_next_98 : decode cX11_next 98 = .ok (.putfield 56, 3) := by decide +kernel
theorem dX11_next_101 : decode cX11_next 101 = .ok (.goto (-58), 3) := by decide +kernel
theorem dX11_next_104 : decode cX11_next 104 = .ok (.aload_n 0, 1) := by decide +kernel
theorem dX11_next_105 : decode cX11_next 105 = .ok (.aload_n 0, 1) := by decide +kernel
theorem dX11_next_106 : decode cX11_next 106 = .ok (.getfield 72, 3) := by decide +kernel
theorem dX11_next_109 : decode cX11_next 109 = .ok (.sipush 9999, 3) := by decide +kernel
theorem dX11_next_112 : decode cX11_next 112 = .ok (.if_icmp .gt 30, 3) := by decide +kernel
theorem dX11_next_115 : decode cX11_next 115 = .ok (.aload_n 0, 1) := by decide +kernel
theorem dX11_next_116 : decode cX11_next 116 = .ok (.getfield 29, 3) := by decide +kernel
theorem dX11_next_119 : decode cX11_next 119 = .ok (.aload_n 0, 1) := by decide +kernel
theorem dX11_next_120 : decode cX11_next 120 = .ok (.getfield 62, 3) := by decide +kernel
theorem dX11_next_123 : decode cX11_next 123 = .ok (.iaload, 1) := by decide +kernel
theorem dX11_next_124 : decode cX11_next 124 = .ok (.bipush 48, 2) := by decide +kernel
theorem dX11_next_126 : decode cX11_next 126 = .ok (.if_icmp .ne 21, 3) := by decide +kernel
theorem dX11_next_129 : decode cX11_next 129 = .ok (.aload_n 0, 1) := by decide +kernel
theorem dX11_next_130 : decode cX11_next 130 = .ok (.getfield 56, 3) := by decide +kernel
theorem dX11_next_133 : decode cX11_next 133 = .ok (.aload_n 0, 1) := by decide +kernel
theorem dX11_next_134 : decode cX11_next 134 = .ok (.getfield 62, 3) := by decide +kernel
theorem dX11_next_137 : decode cX11_next 137 = .ok (.isub, 1) := by decide +kernel
theorem dX11_next_138 : decode cX11_next 138 = .ok (.iconst 1, 1) := by decide +kernel
theorem dX11_next_139 : decode cX11_next 139 = .ok (.if_icmp .le 8, 3) := by decide +kernel
theorem dX11_next_142 : decode cX11_next 142 = .ok (.bipush (-2), 2) := by decide +kernel
theorem dX11_next_144 : decode cX11_next 144 = .ok (.goto 4, 3) := by decide +kernel
theorem dX11_next_147 : decode cX11_next 147 = .ok (.iconst 0, 1) := by decide +kernel
theorem dX11_next_148 : decode cX11_next 148 = .ok (.putfield 65, 3) := by decide +kernel
theorem dX11_next_151 : decode cX11_next 151 = .ok (.goto 63, 3) := by decide +kernel
theorem dX11_next_154 : decode cX11_next 154 = .ok (.aload_n 0, 1) := by decide +kernel
theorem dX11_next_155 : decode cX11_next 155 = .ok (.getfield 29, 3) := by decide +kernel
theorem dX11_next_158 : decode cX11_next 158 = .ok (.aload_n 0, 1) := by decide +kernel
theorem dX11_next_159 : decode cX11_next 159 = .ok (.getfield 56, 3) := by decide +kernel
theorem dX11_next_162 : decode cX11_next 162 = .ok (.iaload, 1) := by decide +kernel
theorem dX11_next_163 : decode cX11_next 163 = .ok (.istore_n 1, 1) := by decide +kernel
theorem dX11_next_164 : decode cX11_next 164 = .ok (.aload_n 0, 1) := by decide +kernel
theorem dX11_next_165 : decode cX11_next 165 = .ok (.iload_n 1, 1) := by decide +kernel
theorem dX11_next_166 : decode cX11_next 166 = .ok (.bipush 112, 2) := by decide +kernel
theorem dX11_next_168 : decode cX11_next 168 = .ok (.if_icmp .eq 27, 3) := by decide +kernel
theorem dX11_next_171 : decode cX11_next 171 = .ok (.iload_n 1, 1) := by decide +kernel
theorem dX11_next_172 : decode cX11_next 172 = .ok (.bipush 100, 2) := by decide +kernel
theorem dX11_next_174 : decode cX11_next 174 = .ok (.if_icmp .eq 21, 3) := by decide +kernel
theorem dX11_next_177 : decode cX11_next 177 = .ok (.iload_n 1, 1) := by decide +kernel
theorem dX11_next_178 : decode cX11_next 178 = .ok (.bipush 114, 2) := by decide +kernel
theorem dX11_next_180 : decode cX11_next 180 = .ok (.if_icmp .eq 15, 3) := by decide +kernel
theorem dX11_next_183 : decode cX11_next 183 = .ok (.iload_n 1, 1) := by decide +kernel
theorem dX11_next_184 : decode cX11_next 184 = .ok (.bipush 117, 2) := by decide +kernel
theorem dX11_next_186 : decode cX11_next 186 = .ok (.if_icmp .eq 9, 3) := by decide +kernel
theorem dX11_next_189 : decode cX11_next 189 = .ok (.iload_n 1, 1) := by decide +kernel
theorem dX11_next_190 : decode cX11_next 190 = .ok (.bipush 59, 2) := by decide +kernel
theorem dX11_next_192 : decode cX11_next 192 = .ok (.if_icmp .ne 7, 3) := by decide +kernel
theorem dX11_next_195 : decode cX11_next 195 = .ok (.iload_n 1, 1) := by decide +kernel
theorem dX11_next_196 : decode cX11_next 196 = .ok (.goto 5, 3) := by decide +kernel
theorem dX11_next_199 : decode cX11_next 199 = .ok (.bipush (-2), 2) := by decide +kernel
theorem dX11_next_201 : decode cX11_next 201 = .ok (.putfield 65, 3) := by decide +kernel
theorem dX11_next_204 : decode cX11_next 204 = .ok (.aload_n 0, 1) := by decide +kernel
theorem dX11_next_205 : decode cX11_next 205 = .ok (.dup, 1) := by decide +kernel
theorem dX11_next_206 : decode cX11_next 206 = .ok (.getfield 56, 3) := by decide +kernel
theorem dX11_next_209 : decode cX11_next 209 = .ok (.iconst 1, 1) := by decide +kernel
theorem dX11_next_210 : decode cX11_next 210 = .ok (.iadd, 1) := by decide +kernel
theorem dX11_next_211 : decode cX11_next 211 = .ok (.putfield 56, 3) := by decide +kernel
theorem dX11_next_214 : decode cX11_next 214 = .ok (.return_, 1) := by decide +kernel
theorem dX11_fails_0 : decode cX11_fails 0 = .ok (.aload_n 0, 1) := by decide +kernel
theorem dX11_fails_1 : decode cX11_fails 1 = .ok (.aload_n 0, 1) := by decide +kernel
theorem dX11_fails_2 : decode cX11_fails 2 = .ok (.getfield 62, 3) := by decide +kernel
theorem dX11_fails_5 : decode cX11_fails 5 = .ok (.putfield 75, 3) := by decide +kernel
theorem dX11_fails_8 : decode cX11_fails 8 = .ok (.iconst 0, 1) := by decide +kernel
theorem dX11_fails_9 : decode cX11_fails 9 = .ok (.ireturn, 1) := by decide +kernel
theorem dX11_number_0 : decode cX11_number 0 = .ok (.aload_n 0, 1) := by decide +kernel
theorem dX11_number_1 : decode cX11_number 1 = .ok (.invokevirtual 78, 3) := by decide +kernel
theorem dX11_number_4 : decode cX11_number 4 = .ok (.aload_n 0, 1) := by decide +kernel
theorem dX11_number_5 : decode cX11_number 5 = .ok (.getfield 65, 3) := by decide +kernel
theorem dX11_number_8 : decode cX11_number 8 = .ok (.ifCond .ne 15, 3) := by decide +kernel
theorem dX11_number_11 : decode cX11_number 11 = .ok (.aload_n 0, 1) := by decide +kernel
theorem dX11_number_12 : decode cX11_number 12 = .ok (.getfield 72, 3) := by decide +kernel
theorem dX11_number_15 : decode cX11_number 15 = .ok (.iload_n 1, 1) := by decide +kernel
theorem dX11_number_16 : decode cX11_number 16 = .ok (.iload_n 2, 1) := by decide +kernel
theorem dX11_number_17 : decode cX11_number 17 = .ok (.invokestatic 48, 3) := by decide +kernel
theorem dX11_number_20 : decode cX11_number 20 = .ok (.ifCond .ne 10, 3) := by decide +kernel
theorem dX11_number_23 : decode cX11_number 23 = .ok (.aload_n 0, 1) := by decide +kernel
theorem dX11_number_24 : decode cX11_number 24 = .ok (.invokevirtual 81, 3) := by decide +kernel
theorem dX11_number_27 : decode cX11_number 27 = .ok (.ifCond .eq 7, 3) := by decide +kernel
theorem dX11_number_30 : decode cX11_number 30 = .ok (.iconst 1, 1) := by decide +kernel
theorem dX11_number_31 : decode cX11_number 31 = .ok (.goto 4, 3) := by decide +kernel
theorem dX11_number_34 : decode cX11_number 34 = .ok (.iconst 0, 1) := by decide +kernel
theorem dX11_number_35 : decode cX11_number 35 = .ok (.ireturn, 1) := by decide +kernel
theorem dX11_ends_0 : decode cX11_ends 0 = .ok (.aload_n 0, 1) := by decide +kernel
theorem dX11_ends_1 : decode cX11_ends 1 = .ok (.invokevirtual 78, 3) := by decide +kernel
theorem dX11_ends_4 : decode cX11_ends 4 = .ok (.aload_n 0, 1) := by decide +kernel
theorem dX11_ends_5 : decode cX11_ends 5 = .ok (.getfield 65, 3) := by decide +kernel
theorem dX11_ends_8 : decode cX11_ends 8 = .ok (.bipush 59, 2) := by decide +kernel
theorem dX11_ends_10 : decode cX11_ends 10 = .ok (.if_icmp .eq 10, 3) := by decide +kernel
theorem dX11_ends_13 : decode cX11_ends 13 = .ok (.aload_n 0, 1) := by decide +kernel
theorem dX11_ends_14 : decode cX11_ends 14 = .ok (.invokevirtual 81, 3) := by decide +kernel
theorem dX11_ends_17 : decode cX11_ends 17 = .ok (.ifCond .eq 7, 3) := by decide +kernel
theorem dX11_ends_20 : decode cX11_ends 20 = .ok (.iconst 1, 1) := by decide +kernel
theorem dX11_ends_21 : decode cX11_ends 21 = .ok (.goto 4, 3) := by decide +kernel
theorem dX11_ends_24 : decode cX11_ends 24 = .ok (.iconst 0, 1) := by decide +kernel
theorem dX11_ends_25 : decode cX11_ends 25 = .ok (.ireturn, 1) := by decide +kernel
theorem dX11_readsOnce_0 : decode cX11_readsOnce 0 = .ok (.aload_n 0, 1) := by decide +kernel
theorem dX11_readsOnce_1 : decode cX11_readsOnce 1 = .ok (.getfield 84, 3) := by decide +kernel
theorem dX11_readsOnce_4 : decode cX11_readsOnce 4 = .ok (.iload_n 1, 1) := by decide +kernel
theorem dX11_readsOnce_5 : decode cX11_readsOnce 5 = .ok (.invokestatic 87, 3) := by decide +kernel
theorem dX11_readsOnce_8 : decode cX11_readsOnce 8 = .ok (.ifCond .eq 8, 3) := by decide +kernel
theorem dX11_readsOnce_11 : decode cX11_readsOnce 11 = .ok (.aload_n 0, 1) := by decide +kernel
theorem dX11_readsOnce_12 : decode cX11_readsOnce 12 = .ok (.invokevirtual 81, 3) := by decide +kernel
theorem dX11_readsOnce_15 : decode cX11_readsOnce 15 = .ok (.ireturn, 1) := by decide +kernel
theorem dX11_readsOnce_16 : decode cX11_readsOnce 16 = .ok (.aload_n 0, 1) := by decide +kernel
theorem dX11_readsOnce_17 : decode cX11_readsOnce 17 = .ok (.dup, 1) := by decide +kernel
theorem dX11_readsOnce_18 : decode cX11_readsOnce 18 = .ok (.getfield 84, 3) := by decide +kernel
theorem dX11_readsOnce_21 : decode cX11_readsOnce 21 = .ok (.iconst 1, 1) := by decide +kernel
theorem dX11_readsOnce_22 : decode cX11_readsOnce 22 = .ok (.iload_n 1, 1) := by decide +kernel
theorem dX11_readsOnce_23 : decode cX11_readsOnce 23 = .ok (.ishl, 1) := by decide +kernel
theorem dX11_readsOnce_24 : decode cX11_readsOnce 24 = .ok (.ior, 1) := by decide +kernel
theorem dX11_readsOnce_25 : decode cX11_readsOnce 25 = .ok (.putfield 84, 3) := by decide +kernel
theorem dX11_readsOnce_28 : decode cX11_readsOnce 28 = .ok (.aload_n 0, 1) := by decide +kernel
theorem dX11_readsOnce_29 : decode cX11_readsOnce 29 = .ok (.iload_n 2, 1) := by decide +kernel
theorem dX11_readsOnce_30 : decode cX11_readsOnce 30 = .ok (.iload_n 3, 1) := by decide +kernel
theorem dX11_readsOnce_31 : decode cX11_readsOnce 31 = .ok (.invokevirtual 91, 3) := by decide +kernel
theorem dX11_readsOnce_34 : decode cX11_readsOnce 34 = .ok (.ifCond .ne 5, 3) := by decide +kernel
theorem dX11_readsOnce_37 : decode cX11_readsOnce 37 = .ok (.iconst 0, 1) := by decide +kernel
theorem dX11_readsOnce_38 : decode cX11_readsOnce 38 = .ok (.ireturn, 1) := by decide +kernel
theorem dX11_readsOnce_39 : decode cX11_readsOnce 39 = .ok (.aload_n 0, 1) := by decide +kernel
theorem dX11_readsOnce_40 : decode cX11_readsOnce 40 = .ok (.getfield 32, 3) := by decide +kernel
theorem dX11_readsOnce_43 : decode cX11_readsOnce 43 = .ok (.iload_n 1, 1) := by decide +kernel
theorem dX11_readsOnce_44 : decode cX11_readsOnce 44 = .ok (.aload_n 0, 1) := by decide +kernel
theorem dX11_readsOnce_45 : decode cX11_readsOnce 45 = .ok (.getfield 72, 3) := by decide +kernel
theorem dX11_readsOnce_48 : decode cX11_readsOnce 48 = .ok (.iastore, 1) := by decide +kernel
theorem dX11_readsOnce_49 : decode cX11_readsOnce 49 = .ok (.aload_n 0, 1) := by decide +kernel
theorem dX11_readsOnce_50 : decode cX11_readsOnce 50 = .ok (.invokevirtual 94, 3) := by decide +kernel
theorem dX11_readsOnce_53 : decode cX11_readsOnce 53 = .ok (.ireturn, 1) := by decide +kernel
theorem dX11_readsOne_0 : decode cX11_readsOne 0 = .ok (.aload_n 0, 1) := by decide +kernel
theorem dX11_readsOne_1 : decode cX11_readsOne 1 = .ok (.getfield 32, 3) := by decide +kernel
theorem dX11_readsOne_4 : decode cX11_readsOne 4 = .ok (.iconst 0, 1) := by decide +kernel
theorem dX11_readsOne_5 : decode cX11_readsOne 5 = .ok (.iaload, 1) := by decide +kernel
theorem dX11_readsOne_6 : decode cX11_readsOne 6 = .ok (.istore_n 2, 1) := by decide +kernel
theorem dX11_readsOne_7 : decode cX11_readsOne 7 = .ok (.iload_n 2, 1) := by decide +kernel
theorem dX11_readsOne_8 : decode cX11_readsOne 8 = .ok (.bipush 14, 2) := by decide +kernel
theorem dX11_readsOne_10 : decode cX11_readsOne 10 = .ok (.if_icmp .ne 8, 3) := by decide +kernel
theorem dX11_readsOne_13 : decode cX11_readsOne 13 = .ok (.aload_n 0, 1) := by decide +kernel
theorem dX11_readsOne_14 : decode cX11_readsOne 14 = .ok (.invokevirtual 81, 3) := by decide +kernel
theorem dX11_readsOne_17 : decode cX11_readsOne 17 = .ok (.ireturn, 1) := by decide +kernel
theorem dX11_readsOne_18 : decode cX11_readsOne 18 = .ok (.aload_n 0, 1) := by decide +kernel
theorem dX11_readsOne_19 : decode cX11_readsOne 19 = .ok (.iload_n 2, 1) := by decide +kernel
theorem dX11_readsOne_20 : decode cX11_readsOne 20 = .ok (.ifCond .ne 7, 3) := by decide +kernel
theorem dX11_readsOne_23 : decode cX11_readsOne 23 = .ok (.iconst 0, 1) := by decide +kernel
theorem dX11_readsOne_24 : decode cX11_readsOne 24 = .ok (.goto 15, 3) := by decide +kernel
theorem dX11_readsOne_27 : decode cX11_readsOne 27 = .ok (.aload_n 0, 1) := by decide +kernel
theorem dX11_readsOne_28 : decode cX11_readsOne 28 = .ok (.getfield 32, 3) := by decide +kernel
theorem dX11_readsOne_31 : decode cX11_readsOne 31 = .ok (.iconst 3, 1) := by decide +kernel
theorem dX11_readsOne_32 : decode cX11_readsOne 32 = .ok (.iload_n 2, 1) := by decide +kernel
theorem dX11_readsOne_33 : decode cX11_readsOne 33 = .ok (.iadd, 1) := by decide +kernel
theorem dX11_readsOne_34 : decode cX11_readsOne 34 = .ok (.iconst 1, 1) := by decide +kernel
theorem dX11_readsOne_35 : decode cX11_readsOne 35 = .ok (.isub, 1) := by decide +kernel
theorem dX11_readsOne_36 : decode cX11_readsOne 36 = .ok (.iaload, 1) := by decide +kernel
theorem dX11_readsOne_37 : decode cX11_readsOne 37 = .ok (.iconst 1, 1) := by decide +kernel
theorem dX11_readsOne_38 : decode cX11_readsOne 38 = .ok (.iadd, 1) := by decide +kernel
theorem dX11_readsOne_39 : decode cX11_readsOne 39 = .ok (.sipush 999, 3) := by decide +kernel
theorem dX11_readsOne_42 : decode cX11_readsOne 42 = .ok (.invokevirtual 91, 3) := by decide +kernel
theorem dX11_readsOne_45 : decode cX11_readsOne 45 = .ok (.ifCond .ne 5, 3) := by decide +kernel
theorem dX11_readsOne_48 : decode cX11_readsOne 48 = .ok (.iconst 0, 1) := by decide +kernel
theorem dX11_readsOne_49 : decode cX11_readsOne 49 = .ok (.ireturn, 1) := by decide +kernel
theorem dX11_readsOne_50 : decode cX11_readsOne 50 = .ok (.aload_n 0, 1) := by decide +kernel
theorem dX11_readsOne_51 : decode cX11_readsOne 51 = .ok (.getfield 32, 3) := by decide +kernel
theorem dX11_readsOne_54 : decode cX11_readsOne 54 = .ok (.iconst 3, 1) := by decide +kernel
theorem dX11_readsOne_55 : decode cX11_readsOne 55 = .ok (.iload_n 2, 1) := by decide +kernel
theorem dX11_readsOne_56 : decode cX11_readsOne 56 = .ok (.iadd, 1) := by decide +kernel
theorem dX11_readsOne_57 : decode cX11_readsOne 57 = .ok (.aload_n 0, 1) := by decide +kernel
theorem dX11_readsOne_58 : decode cX11_readsOne 58 = .ok (.getfield 72, 3) := by decide +kernel
theorem dX11_readsOne_61 : decode cX11_readsOne 61 = .ok (.iastore, 1) := by decide +kernel
theorem dX11_readsOne_62 : decode cX11_readsOne 62 = .ok (.aload_n 0, 1) := by decide +kernel
theorem dX11_readsOne_63 : decode cX11_readsOne 63 = .ok (.getfield 32, 3) := by decide +kernel
theorem dX11_readsOne_66 : decode cX11_readsOne 66 = .ok (.bipush 17, 2) := by decide +kernel
theorem dX11_readsOne_68 : decode cX11_readsOne 68 = .ok (.iload_n 2, 1) := by decide +kernel
theorem dX11_readsOne_69 : decode cX11_readsOne 69 = .ok (.iadd, 1) := by decide +kernel
theorem dX11_readsOne_70 : decode cX11_readsOne 70 = .ok (.bipush (-9), 2) := by decide +kernel
theorem dX11_readsOne_72 : decode cX11_readsOne 72 = .ok (.iastore, 1) := by decide +kernel
theorem dX11_readsOne_73 : decode cX11_readsOne 73 = .ok (.iload_n 1, 1) := by decide +kernel
theorem dX11_readsOne_74 : decode cX11_readsOne 74 = .ok (.ifCond .eq 29, 3) := by decide +kernel
theorem dX11_readsOne_77 : decode cX11_readsOne 77 = .ok (.aload_n 0, 1) := by decide +kernel
theorem dX11_readsOne_78 : decode cX11_readsOne 78 = .ok (.iconst 0, 1) := by decide +kernel
theorem dX11_readsOne_79 : decode cX11_readsOne 79 = .ok (.sipush 999, 3) := by decide +kernel
theorem dX11_readsOne_82 : decode cX11_readsOne 82 = .ok (.invokevirtual 91, 3) := by decide +kernel
theorem dX11_readsOne_85 : decode cX11_readsOne 85 = .ok (.ifCond .ne 5, 3) := by decide +kernel
theorem dX11_readsOne_88 : decode cX11_readsOne 88 = .ok (.iconst 0, 1) := by decide +kernel
theorem dX11_readsOne_89 : decode cX11_readsOne 89 = .ok (.ireturn, 1) := by decide +kernel
theorem dX11_readsOne_90 : decode cX11_readsOne 90 = .ok (.aload_n 0, 1) := by decide +kernel
theorem dX11_readsOne_91 : decode cX11_readsOne 91 = .ok (.getfield 32, 3) := by decide +kernel
theorem dX11_readsOne_94 : decode cX11_readsOne 94 = .ok (.bipush 17, 2) := by decide +kernel
theorem dX11_readsOne_96 : decode cX11_readsOne 96 = .ok (.iload_n 2, 1) := by decide +kernel
theorem dX11_readsOne_97 : decode cX11_readsOne 97 = .ok (.iadd, 1) := by decide +kernel
theorem dX11_readsOne_98 : decode cX11_readsOne 98 = .ok (.aload_n 0, 1) := by decide +kernel
theorem dX11_readsOne_99 : decode cX11_readsOne 99 = .ok (.getfield 72, 3) := by decide +kernel
theorem dX11_readsOne_102 : decode cX11_readsOne 102 = .ok (.iastore, 1) := by decide +kernel
theorem dX11_readsOne_103 : decode cX11_readsOne 103 = .ok (.aload_n 0, 1) := by decide +kernel
theorem dX11_readsOne_104 : decode cX11_readsOne 104 = .ok (.getfield 32, 3) := by decide +kernel
theorem dX11_readsOne_107 : decode cX11_readsOne 107 = .ok (.iconst 0, 1) := by decide +kernel
theorem dX11_readsOne_108 : decode cX11_readsOne 108 = .ok (.dup2, 1) := by decide +kernel
theorem dX11_readsOne_109 : decode cX11_readsOne 109 = .ok (.iaload, 1) := by decide +kernel
theorem dX11_readsOne_110 : decode cX11_readsOne 110 = .ok (.iconst 1, 1) := by decide +kernel
theorem dX11_readsOne_111 : decode cX11_readsOne 111 = .ok (.iadd, 1) := by decide +kernel
theorem dX11_readsOne_112 : decode cX11_readsOne 112 = .ok (.iastore, 1) := by decide +kernel
theorem dX11_readsOne_113 : decode cX11_readsOne 113 = .ok (.aload_n 0, 1) := by decide +kernel
theorem dX11_readsOne_114 : decode cX11_readsOne 114 = .ok (.invokevirtual 94, 3) := by decide +kernel
theorem dX11_readsOne_117 : decode cX11_readsOne 117 = .ok (.ireturn, 1) := by decide +kernel
theorem dX11_readsItem_0 : decode cX11_readsItem 0 = .ok (.aload_n 0, 1) := by decide +kernel
theorem dX11_readsItem_1 : decode cX11_readsItem 1 = .ok (.invokevirtual 78, 3) := by decide +kernel
theorem dX11_readsItem_4 : decode cX11_readsItem 4 = .ok (.aload_n 0, 1) := by decide +kernel
theorem dX11_readsItem_5 : decode cX11_readsItem 5 = .ok (.getfield 65, 3) := by decide +kernel
theorem dX11_readsItem_8 : decode cX11_readsItem 8 = .ok (.lookupswitch 74 #[(100, 53), (112, 44), (114, 62), (117, 68)], 44) := by decide +kernel
theorem dX11_readsItem_52 : decode cX11_readsItem 52 = .ok (.aload_n 0, 1) := by decide +kernel
theorem dX11_readsItem_53 : decode cX11_readsItem 53 = .ok (.iconst 1, 1) := by decide +kernel
theorem dX11_readsItem_54 : decode cX11_readsItem 54 = .ok (.iconst 0, 1) := by decide +kernel
theorem dX11_readsItem_55 : decode cX11_readsItem 55 = .ok (.bipush 99, 2) := by decide +kernel
theorem dX11_readsItem_57 : decode cX11_readsItem 57 = .ok (.invokevirtual 97, 3) := by decide +kernel
theorem dX11_readsItem_60 : decode cX11_readsItem 60 = .ok (.ireturn, 1) := by decide +kernel
theorem dX11_readsItem_61 : decode cX11_readsItem 61 = .ok (.aload_n 0, 1) := by decide +kernel
theorem dX11_readsItem_62 : decode cX11_readsItem 62 = .ok (.iconst 2, 1) := by decide +kernel
theorem dX11_readsItem_63 : decode cX11_readsItem 63 = .ok (.iconst 1, 1) := by decide +kernel
theorem dX11_readsItem_64 : decode cX11_readsItem 64 = .ok (.bipush 14, 2) := by decide +kernel
theorem dX11_readsItem_66 : decode cX11_readsItem 66 = .ok (.invokevirtual 97, 3) := by decide +kernel
theorem dX11_readsItem_69 : decode cX11_readsItem 69 = .ok (.ireturn, 1) := by decide +kernel
theorem dX11_readsItem_70 : decode cX11_readsItem 70 = .ok (.aload_n 0, 1) := by decide +kernel
theorem dX11_readsItem_71 : decode cX11_readsItem 71 = .ok (.iconst 1, 1) := by decide +kernel
theorem dX11_readsItem_72 : decode cX11_readsItem 72 = .ok (.invokevirtual 100, 3) := by decide +kernel
theorem dX11_readsItem_75 : decode cX11_readsItem 75 = .ok (.ireturn, 1) := by decide +kernel
theorem dX11_readsItem_76 : decode cX11_readsItem 76 = .ok (.aload_n 0, 1) := by decide +kernel
theorem dX11_readsItem_77 : decode cX11_readsItem 77 = .ok (.iconst 0, 1) := by decide +kernel
theorem dX11_readsItem_78 : decode cX11_readsItem 78 = .ok (.invokevirtual 100, 3) := by decide +kernel
theorem dX11_readsItem_81 : decode cX11_readsItem 81 = .ok (.ireturn, 1) := by decide +kernel
theorem dX11_readsItem_82 : decode cX11_readsItem 82 = .ok (.aload_n 0, 1) := by decide +kernel
theorem dX11_readsItem_83 : decode cX11_readsItem 83 = .ok (.invokevirtual 81, 3) := by decide +kernel
theorem dX11_readsItem_86 : decode cX11_readsItem 86 = .ok (.ireturn, 1) := by decide +kernel
theorem dX11_readings_0 : decode cX11_readings 0 = .ok (.aload_n 0, 1) := by decide +kernel
theorem dX11_readings_1 : decode cX11_readings 1 = .ok (.getfield 32, 3) := by decide +kernel
theorem dX11_readings_4 : decode cX11_readings 4 = .ok (.invokestatic 44, 3) := by decide +kernel
theorem dX11_readings_7 : decode cX11_readings 7 = .ok (.aload_n 0, 1) := by decide +kernel
theorem dX11_readings_8 : decode cX11_readings 8 = .ok (.iconst 0, 1) := by decide +kernel
theorem dX11_readings_9 : decode cX11_readings 9 = .ok (.putfield 84, 3) := by decide +kernel
theorem dX11_readings_12 : decode cX11_readings 12 = .ok (.aload_n 0, 1) := by decide +kernel
theorem dX11_readings_13 : decode cX11_readings 13 = .ok (.iconst 0, 1) := by decide +kernel
theorem dX11_readings_14 : decode cX11_readings 14 = .ok (.putfield 56, 3) := by decide +kernel
theorem dX11_readings_17 : decode cX11_readings 17 = .ok (.iconst 0, 1) := by decide +kernel
theorem dX11_readings_18 : decode cX11_readings 18 = .ok (.istore_n 1, 1) := by decide +kernel
theorem dX11_readings_19 : decode cX11_readings 19 = .ok (.aload_n 0, 1) := by decide +kernel
theorem dX11_readings_20 : decode cX11_readings 20 = .ok (.invokevirtual 59, 3) := by decide +kernel
theorem dX11_readings_23 : decode cX11_readings 23 = .ok (.aload_n 0, 1) := by decide +kernel
theorem dX11_readings_24 : decode cX11_readings 24 = .ok (.getfield 56, 3) := by decide +kernel
theorem dX11_readings_27 : decode cX11_readings 27 = .ok (.aload_n 0, 1) := by decide +kernel
theorem dX11_readings_28 : decode cX11_readings 28 = .ok (.getfield 52, 3) := by decide +kernel
theorem dX11_readings_31 : decode cX11_readings 31 = .ok (.if_icmp .ge 28, 3) := by decide +kernel
theorem dX11_readings_34 : decode cX11_readings 34 = .ok (.aload_n 0, 1) := by decide +kernel
theorem dX11_readings_35 : decode cX11_readings 35 = .ok (.invokevirtual 104, 3) := by decide +kernel
theorem dX11_readings_38 : decode cX11_readings 38 = .ok (.ifCond .ne 11, 3) := by decide +kernel
theorem dX11_readings_41 : decode cX11_readings 41 = .ok (.bipush (-10), 2) := by decide +kernel
theorem dX11_readings_43 : decode cX11_readings 43 = .ok (.aload_n 0, 1) := by decide +kernel
theorem dX11_readings_44 : decode cX11_readings 44 = .ok (.getfield 75, 3) := by decide +kernel
theorem dX11_readings_47 : decode cX11_readings 47 = .ok (.isub, 1) := by decide +kernel
theorem dX11_readings_48 : decode cX11_readings 48 = .ok (.ireturn, 1) := by decide +kernel
theorem dX11_readings_49 : decode cX11_readings 49 = .ok (.iinc 1 1, 3) := by decide +kernel
theorem dX11_readings_52 : decode cX11_readings 52 = .ok (.aload_n 0, 1) := by decide +kernel
theorem dX11_readings_53 : decode cX11_readings 53 = .ok (.invokevirtual 59, 3) := by decide +kernel
theorem dX11_readings_56 : decode cX11_readings 56 = .ok (.goto (-33), 3) := by decide +kernel
theorem dX11_readings_59 : decode cX11_readings 59 = .ok (.aload_n 0, 1) := by decide +kernel
theorem dX11_readings_60 : decode cX11_readings 60 = .ok (.iconst 0, 1) := by decide +kernel
theorem dX11_readings_61 : decode cX11_readings 61 = .ok (.putfield 52, 3) := by decide +kernel
theorem dX11_readings_64 : decode cX11_readings 64 = .ok (.iconst 0, 1) := by decide +kernel
theorem dX11_readings_65 : decode cX11_readings 65 = .ok (.istore_n 2, 1) := by decide +kernel
theorem dX11_readings_66 : decode cX11_readings 66 = .ok (.iload_n 2, 1) := by decide +kernel
theorem dX11_readings_67 : decode cX11_readings 67 = .ok (.bipush 31, 2) := by decide +kernel
theorem dX11_readings_69 : decode cX11_readings 69 = .ok (.if_icmp .ge 21, 3) := by decide +kernel
theorem dX11_readings_72 : decode cX11_readings 72 = .ok (.aload_n 0, 1) := by decide +kernel
theorem dX11_readings_73 : decode cX11_readings 73 = .ok (.getfield 7, 3) := by decide +kernel
theorem dX11_readings_76 : decode cX11_readings 76 = .ok (.iload_n 2, 1) := by decide +kernel
theorem dX11_readings_77 : decode cX11_readings 77 = .ok (.aload_n 0, 1) := by decide +kernel
theorem dX11_readings_78 : decode cX11_readings 78 = .ok (.getfield 32, 3) := by decide +kernel
theorem dX11_readings_81 : decode cX11_readings 81 = .ok (.iload_n 2, 1) := by decide +kernel
theorem dX11_readings_82 : decode cX11_readings 82 = .ok (.iaload, 1) := by decide +kernel
theorem dX11_readings_83 : decode cX11_readings 83 = .ok (.iastore, 1) := by decide +kernel
theorem dX11_readings_84 : decode cX11_readings 84 = .ok (.iinc 2 1, 3) := by decide +kernel
theorem dX11_readings_87 : decode cX11_readings 87 = .ok (.goto (-21), 3) := by decide +kernel
theorem dX11_readings_90 : decode cX11_readings 90 = .ok (.aload_n 0, 1) := by decide +kernel
theorem dX11_readings_91 : decode cX11_readings 91 = .ok (.iconst 0, 1) := by decide +kernel
theorem dX11_readings_92 : decode cX11_readings 92 = .ok (.putfield 107, 3) := by decide +kernel
theorem dX11_readings_95 : decode cX11_readings 95 = .ok (.aload_n 0, 1) := by decide +kernel
theorem dX11_readings_96 : decode cX11_readings 96 = .ok (.iconst 0, 1) := by decide +kernel
theorem dX11_readings_97 : decode cX11_readings 97 = .ok (.putfield 110, 3) := by decide +kernel
theorem dX11_readings_100 : decode cX11_readings 100 = .ok (.aload_n 0, 1) := by decide +kernel
theorem dX11_readings_101 : decode cX11_readings 101 = .ok (.getfield 22, 3) := by decide +kernel
theorem dX11_readings_104 : decode cX11_readings 104 = .ok (.iconst 0, 1) := by decide +kernel
theorem dX11_readings_105 : decode cX11_readings 105 = .ok (.iconst 0, 1) := by decide +kernel
theorem dX11_readings_106 : decode cX11_readings 106 = .ok (.bastore, 1) := by decide +kernel
theorem dX11_readings_107 : decode cX11_readings 107 = .ok (.aload_n 0, 1) := by decide +kernel
theorem dX11_readings_108 : decode cX11_readings 108 = .ok (.getfield 22, 3) := by decide +kernel
theorem dX11_readings_111 : decode cX11_readings 111 = .ok (.iconst 1, 1) := by decide +kernel
theorem dX11_readings_112 : decode cX11_readings 112 = .ok (.iconst 0, 1) := by decide +kernel
theorem dX11_readings_113 : decode cX11_readings 113 = .ok (.bastore, 1) := by decide +kernel
theorem dX11_readings_114 : decode cX11_readings 114 = .ok (.iload_n 1, 1) := by decide +kernel
theorem dX11_readings_115 : decode cX11_readings 115 = .ok (.ireturn, 1) := by decide +kernel
theorem dX11_isReading_0 : decode cX11_isReading 0 = .ok (.iload_n 1, 1) := by decide +kernel
theorem dX11_isReading_1 : decode cX11_isReading 1 = .ok (.iconst 0, 1) := by decide +kernel
theorem dX11_isReading_2 : decode cX11_isReading 2 = .ok (.aload_n 0, 1) := by decide +kernel
theorem dX11_isReading_3 : decode cX11_isReading 3 = .ok (.getfield 7, 3) := by decide +kernel
theorem dX11_isReading_6 : decode cX11_isReading 6 = .ok (.iconst 0, 1) := by decide +kernel
theorem dX11_isReading_7 : decode cX11_isReading 7 = .ok (.iaload, 1) := by decide +kernel
theorem dX11_isReading_8 : decode cX11_isReading 8 = .ok (.iconst 1, 1) := by decide +kernel
theorem dX11_isReading_9 : decode cX11_isReading 9 = .ok (.isub, 1) := by decide +kernel
theorem dX11_isReading_10 : decode cX11_isReading 10 = .ok (.invokestatic 48, 3) := by decide +kernel
theorem dX11_isReading_13 : decode cX11_isReading 13 = .ok (.ireturn, 1) := by decide +kernel
theorem dX11_isKnown_0 : decode cX11_isKnown 0 = .ok (.aload_n 0, 1) := by decide +kernel
theorem dX11_isKnown_1 : decode cX11_isKnown 1 = .ok (.iload_n 1, 1) := by decide +kernel
theorem dX11_isKnown_2 : decode cX11_isKnown 2 = .ok (.invokevirtual 113, 3) := by decide +kernel
theorem dX11_isKnown_5 : decode cX11_isKnown 5 = .ok (.ifCond .eq 21, 3) := by decide +kernel
theorem dX11_isKnown_8 : decode cX11_isKnown 8 = .ok (.aload_n 0, 1) := by decide +kernel
theorem dX11_isKnown_9 : decode cX11_isKnown 9 = .ok (.getfield 7, 3) := by decide +kernel
theorem dX11_isKnown_12 : decode cX11_isKnown 12 = .ok (.bipush 17, 2) := by decide +kernel
theorem dX11_isKnown_14 : decode cX11_isKnown 14 = .ok (.iload_n 1, 1) := by decide +kernel
theorem dX11_isKnown_15 : decode cX11_isKnown 15 = .ok (.iadd, 1) := by decide +kernel
theorem dX11_isKnown_16 : decode cX11_isKnown 16 = .ok (.iaload, 1) := by decide +kernel
theorem dX11_isKnown_17 : decode cX11_isKnown 17 = .ok (.bipush (-9), 2) := by decide +kernel
theorem dX11_isKnown_19 : decode cX11_isKnown 19 = .ok (.if_icmp .eq 7, 3) := by decide +kernel
theorem dX11_isKnown_22 : decode cX11_isKnown 22 = .ok (.iconst 1, 1) := by decide +kernel
theorem dX11_isKnown_23 : decode cX11_isKnown 23 = .ok (.goto 4, 3) := by decide +kernel
theorem dX11_isKnown_26 : decode cX11_isKnown 26 = .ok (.iconst 0, 1) := by decide +kernel
theorem dX11_isKnown_27 : decode cX11_isKnown 27 = .ok (.ireturn, 1) := by decide +kernel
theorem dX11_remember_0 : decode cX11_remember 0 = .ok (.iconst 0, 1) := by decide +kernel
theorem dX11_remember_1 : decode cX11_remember 1 = .ok (.istore_n 1, 1) := by decide +kernel
theorem dX11_remember_2 : decode cX11_remember 2 = .ok (.iload_n 1, 1) := by decide +kernel
theorem dX11_remember_3 : decode cX11_remember 3 = .ok (.bipush 31, 2) := by decide +kernel
theorem dX11_remember_5 : decode cX11_remember 5 = .ok (.if_icmp .ge 29, 3) := by decide +kernel
theorem dX11_remember_8 : decode cX11_remember 8 = .ok (.aload_n 0, 1) := by decide +kernel
theorem dX11_remember_9 : decode cX11_remember 9 = .ok (.getfield 13, 3) := by decide +kernel
theorem dX11_remember_12 : decode cX11_remember 12 = .ok (.bipush 31, 2) := by decide +kernel
theorem dX11_remember_14 : decode cX11_remember 14 = .ok (.aload_n 0, 1) := by decide +kernel
theorem dX11_remember_15 : decode cX11_remember 15 = .ok (.getfield 117, 3) := by decide +kernel
theorem dX11_remember_18 : decode cX11_remember 18 = .ok (.imul, 1) := by decide +kernel
theorem dX11_remember_19 : decode cX11_remember 19 = .ok (.iload_n 1, 1) := by decide +kernel
theorem dX11_remember_20 : decode cX11_remember 20 = .ok (.iadd, 1) := by decide +kernel
theorem dX11_remember_21 : decode cX11_remember 21 = .ok (.aload_n 0, 1) := by decide +kernel
theorem dX11_remember_22 : decode cX11_remember 22 = .ok (.getfield 7, 3) := by decide +kernel
theorem dX11_remember_25 : decode cX11_remember 25 = .ok (.iload_n 1, 1) := by decide +kernel
theorem dX11_remember_26 : decode cX11_remember 26 = .ok (.iaload, 1) := by decide +kernel
theorem dX11_remember_27 : decode cX11_remember 27 = .ok (.iastore, 1) := by decide +kernel
theorem dX11_remember_28 : decode cX11_remember 28 = .ok (.iinc 1 1, 3) := by decide +kernel
theorem dX11_remember_31 : decode cX11_remember 31 = .ok (.goto (-29), 3) := by decide +kernel
theorem dX11_remember_34 : decode cX11_remember 34 = .ok (.aload_n 0, 1) := by decide +kernel
theorem dX11_remember_35 : decode cX11_remember 35 = .ok (.aload_n 0, 1) := by decide +kernel
theorem dX11_remember_36 : decode cX11_remember 36 = .ok (.getfield 117, 3) := by decide +kernel
theorem dX11_remember_39 : decode cX11_remember 39 = .ok (.iconst 1, 1) := by decide +kernel
theorem dX11_remember_40 : decode cX11_remember 40 = .ok (.iadd, 1) := by decide +kernel
theorem dX11_remember_41 : decode cX11_remember 41 = .ok (.bipush 10, 2) := by decide +kernel
theorem dX11_remember_43 : decode cX11_remember 43 = .ok (.irem, 1) := by decide +kernel
theorem dX11_remember_44 : decode cX11_remember 44 = .ok (.putfield 117, 3) := by decide +kernel
theorem dX11_remember_47 : decode cX11_remember 47 = .ok (.aload_n 0, 1) := by decide +kernel
theorem dX11_remember_48 : decode cX11_remember 48 = .ok (.dup, 1) := by decide +kernel
theorem dX11_remember_49 : decode cX11_remember 49 = .ok (.getfield 107, 3) := by decide +kernel
theorem dX11_remember_52 : decode cX11_remember 52 = .ok (.aload_n 0, 1) := by decide +kernel
theorem dX11_remember_53 : decode cX11_remember 53 = .ok (.getfield 107, 3) := by decide +kernel
theorem dX11_remember_56 : decode cX11_remember 56 = .ok (.bipush 10, 2) := by decide +kernel
theorem dX11_remember_58 : decode cX11_remember 58 = .ok (.if_icmp .ge 7, 3) := by decide +kernel
theorem dX11_remember_61 : decode cX11_remember 61 = .ok (.iconst 1, 1) := by decide +kernel
theorem dX11_remember_62 : decode cX11_remember 62 = .ok (.goto 4, 3) := by decide +kernel
theorem dX11_remember_65 : decode cX11_remember 65 = .ok (.iconst 0, 1) := by decide +kernel
theorem dX11_remember_66 : decode cX11_remember 66 = .ok (.iadd, 1) := by decide +kernel
theorem dX11_remember_67 : decode cX11_remember 67 = .ok (.putfield 107, 3) := by decide +kernel
theorem dX11_remember_70 : decode cX11_remember 70 = .ok (.return_, 1) := by decide +kernel
theorem dX11_comes_0 : decode cX11_comes 0 = .ok (.aload_n 0, 1) := by decide +kernel
theorem dX11_comes_1 : decode cX11_comes 1 = .ok (.getfield 7, 3) := by decide +kernel
theorem dX11_comes_4 : decode cX11_comes 4 = .ok (.iconst 0, 1) := by decide +kernel
theorem dX11_comes_5 : decode cX11_comes 5 = .ok (.iaload, 1) := by decide +kernel
theorem dX11_comes_6 : decode cX11_comes 6 = .ok (.istore_n 3, 1) := by decide +kernel
theorem dX11_comes_7 : decode cX11_comes 7 = .ok (.iload_n 3, 1) := by decide +kernel
theorem dX11_comes_8 : decode cX11_comes 8 = .ok (.ifCond .le 20, 3) := by decide +kernel
theorem dX11_comes_11 : decode cX11_comes 11 = .ok (.iload_n 1, 1) := by decide +kernel
theorem dX11_comes_12 : decode cX11_comes 12 = .ok (.aload_n 0, 1) := by decide +kernel
theorem dX11_comes_13 : decode cX11_comes 13 = .ok (.getfield 7, 3) := by decide +kernel
theorem dX11_comes_16 : decode cX11_comes 16 = .ok (.iconst 3, 1) := by decide +kernel
theorem dX11_comes_17 : decode cX11_comes 17 = .ok (.iload_n 3, 1) := by decide +kernel
theorem dX11_comes_18 : decode cX11_comes 18 = .ok (.iadd, 1) := by decide +kernel
theorem dX11_comes_19 : decode cX11_comes 19 = .ok (.iconst 1, 1) := by decide +kernel
theorem dX11_comes_20 : decode cX11_comes 20 = .ok (.isub, 1) := by decide +kernel
theorem dX11_comes_21 : decode cX11_comes 21 = .ok (.iaload, 1) := by decide +kernel
theorem dX11_comes_22 : decode cX11_comes 22 = .ok (.if_icmp .gt 6, 3) := by decide +kernel
theorem dX11_comes_25 : decode cX11_comes 25 = .ok (.bipush (-2), 2) := by decide +kernel
theorem dX11_comes_27 : decode cX11_comes 27 = .ok (.ireturn, 1) := by decide +kernel
theorem dX11_comes_28 : decode cX11_comes 28 = .ok (.iload_n 3, 1) := by decide +kernel
theorem dX11_comes_29 : decode cX11_comes 29 = .ok (.bipush 14, 2) := by decide +kernel
theorem dX11_comes_31 : decode cX11_comes 31 = .ok (.if_icmp .ne 6, 3) := by decide +kernel
theorem dX11_comes_34 : decode cX11_comes 34 = .ok (.bipush (-3), 2) := by decide +kernel
theorem dX11_comes_36 : decode cX11_comes 36 = .ok (.ireturn, 1) := by decide +kernel
theorem dX11_comes_37 : decode cX11_comes 37 = .ok (.aload_n 0, 1) := by decide +kernel
theorem dX11_comes_38 : decode cX11_comes 38 = .ok (.invokevirtual 120, 3) := by decide +kernel
theorem dX11_comes_41 : decode cX11_comes 41 = .ok (.aload_n 0, 1) := by decide +kernel
theorem dX11_comes_42 : decode cX11_comes 42 = .ok (.getfield 7, 3) := by decide +kernel
theorem dX11_comes_45 : decode cX11_comes 45 = .ok (.iconst 3, 1) := by decide +kernel
theorem dX11_comes_46 : decode cX11_comes 46 = .ok (.iload_n 3, 1) := by decide +kernel
theorem dX11_comes_47 : decode cX11_comes 47 = .ok (.iadd, 1) := by decide +kernel
theorem dX11_comes_48 : decode cX11_comes 48 = .ok (.iload_n 1, 1) := by decide +kernel
theorem dX11_comes_49 : decode cX11_comes 49 = .ok (.iastore, 1) := by decide +kernel
theorem dX11_comes_50 : decode cX11_comes 50 = .ok (.aload_n 0, 1) := by decide +kernel
theorem dX11_comes_51 : decode cX11_comes 51 = .ok (.getfield 7, 3) := by decide +kernel
theorem dX11_comes_54 : decode cX11_comes 54 = .ok (.bipush 17, 2) := by decide +kernel
theorem dX11_comes_56 : decode cX11_comes 56 = .ok (.iload_n 3, 1) := by decide +kernel
theorem dX11_comes_57 : decode cX11_comes 57 = .ok (.iadd, 1) := by decide +kernel
theorem dX11_comes_58 : decode cX11_comes 58 = .ok (.iload_n 2, 1) := by decide +kernel
theorem dX11_comes_59 : decode cX11_comes 59 = .ok (.iastore, 1) := by decide +kernel
theorem dX11_comes_60 : decode cX11_comes 60 = .ok (.aload_n 0, 1) := by decide +kernel
theorem dX11_comes_61 : decode cX11_comes 61 = .ok (.getfield 7, 3) := by decide +kernel
theorem dX11_comes_64 : decode cX11_comes 64 = .ok (.iconst 0, 1) := by decide +kernel
theorem dX11_comes_65 : decode cX11_comes 65 = .ok (.dup2, 1) := by decide +kernel
theorem dX11_comes_66 : decode cX11_comes 66 = .ok (.iaload, 1) := by decide +kernel
theorem dX11_comes_67 : decode cX11_comes 67 = .ok (.iconst 1, 1) := by decide +kernel
theorem dX11_comes_68 : decode cX11_comes 68 = .ok (.iadd, 1) := by decide +kernel
theorem dX11_comes_69 : decode cX11_comes 69 = .ok (.iastore, 1) := by decide +kernel
theorem dX11_comes_70 : decode cX11_comes 70 = .ok (.iload_n 3, 1) := by decide +kernel
theorem dX11_comes_71 : decode cX11_comes 71 = .ok (.ireturn, 1) := by decide +kernel
theorem dX11_adds_0 : decode cX11_adds 0 = .ok (.iload_n 1, 1) := by decide +kernel
theorem dX11_adds_1 : decode cX11_adds 1 = .ok (.iconst 0, 1) := by decide +kernel
theorem dX11_adds_2 : decode cX11_adds 2 = .ok (.sipush 999, 3) := by decide +kernel
theorem dX11_adds_5 : decode cX11_adds 5 = .ok (.invokestatic 48, 3) := by decide +kernel
theorem dX11_adds_8 : decode cX11_adds 8 = .ok (.ifCond .eq 23, 3) := by decide +kernel
theorem dX11_adds_11 : decode cX11_adds 11 = .ok (.iload_n 2, 1) := by decide +kernel
theorem dX11_adds_12 : decode cX11_adds 12 = .ok (.iconst 0, 1) := by decide +kernel
theorem dX11_adds_13 : decode cX11_adds 13 = .ok (.sipush 999, 3) := by decide +kernel
theorem dX11_adds_16 : decode cX11_adds 16 = .ok (.invokestatic 48, 3) := by decide +kernel
theorem dX11_adds_19 : decode cX11_adds 19 = .ok (.ifCond .eq 12, 3) := by decide +kernel
theorem dX11_adds_22 : decode cX11_adds 22 = .ok (.aload_n 0, 1) := by decide +kernel
theorem dX11_adds_23 : decode cX11_adds 23 = .ok (.iload_n 1, 1) := by decide +kernel
theorem dX11_adds_24 : decode cX11_adds 24 = .ok (.iload_n 2, 1) := by decide +kernel
theorem dX11_adds_25 : decode cX11_adds 25 = .ok (.invokevirtual 123, 3) := by decide +kernel
theorem dX11_adds_28 : decode cX11_adds 28 = .ok (.goto 4, 3) := by decide +kernel
theorem dX11_adds_31 : decode cX11_adds 31 = .ok (.iconst (-1), 1) := by decide +kernel
theorem dX11_adds_32 : decode cX11_adds 32 = .ok (.ireturn, 1) := by decide +kernel
theorem dX11_misses_0 : decode cX11_misses 0 = .ok (.iload_n 1, 1) := by decide +kernel
theorem dX11_misses_1 : decode cX11_misses 1 = .ok (.iconst 0, 1) := by decide +kernel
theorem dX11_misses_2 : decode cX11_misses 2 = .ok (.sipush 999, 3) := by decide +kernel
theorem dX11_misses_5 : decode cX11_misses 5 = .ok (.invokestatic 48, 3) := by decide +kernel
theorem dX11_misses_8 : decode cX11_misses 8 = .ok (.ifCond .eq 13, 3) := by decide +kernel
theorem dX11_misses_11 : decode cX11_misses 11 = .ok (.aload_n 0, 1) := by decide +kernel
theorem dX11_misses_12 : decode cX11_misses 12 = .ok (.iload_n 1, 1) := by decide +kernel
theorem dX11_misses_13 : decode cX11_misses 13 = .ok (.bipush (-9), 2) := by decide +kernel
theorem dX11_misses_15 : decode cX11_misses 15 = .ok (.invokevirtual 123, 3) := by decide +kernel
theorem dX11_misses_18 : decode cX11_misses 18 = .ok (.goto 4, 3) := by decide +kernel
theorem dX11_misses_21 : decode cX11_misses 21 = .ok (.iconst (-1), 1) := by decide +kernel
theorem dX11_misses_22 : decode cX11_misses 22 = .ok (.ireturn, 1) := by decide +kernel
theorem dX11_strikes_0 : decode cX11_strikes 0 = .ok (.aload_n 0, 1) := by decide +kernel
theorem dX11_strikes_1 : decode cX11_strikes 1 = .ok (.iload_n 1, 1) := by decide +kernel
theorem dX11_strikes_2 : decode cX11_strikes 2 = .ok (.invokevirtual 113, 3) := by decide +kernel
theorem dX11_strikes_5 : decode cX11_strikes 5 = .ok (.ifCond .ne 5, 3) := by decide +kernel
theorem dX11_strikes_8 : decode cX11_strikes 8 = .ok (.iconst (-1), 1) := by decide +kernel
theorem dX11_strikes_9 : decode cX11_strikes 9 = .ok (.ireturn, 1) := by decide +kernel
theorem dX11_strikes_10 : decode cX11_strikes 10 = .ok (.aload_n 0, 1) := by decide +kernel
theorem dX11_strikes_11 : decode cX11_strikes 11 = .ok (.invokevirtual 120, 3) := by decide +kernel
theorem dX11_strikes_14 : decode cX11_strikes 14 = .ok (.aload_n 0, 1) := by decide +kernel
theorem dX11_strikes_15 : decode cX11_strikes 15 = .ok (.getfield 7, 3) := by decide +kernel
theorem dX11_strikes_18 : decode cX11_strikes 18 = .ok (.iconst 0, 1) := by decide +kernel
theorem dX11_strikes_19 : decode cX11_strikes 19 = .ok (.dup2, 1) := by decide +kernel
theorem dX11_strikes_20 : decode cX11_strikes 20 = .ok (.iaload, 1) := by decide +kernel
theorem dX11_strikes_21 : decode cX11_strikes 21 = .ok (.iconst 1, 1) := by decide +kernel
theorem dX11_strikes_22 : decode cX11_strikes 22 = .ok (.isub, 1) := by decide +kernel
theorem dX11_strikes_23 : decode cX11_strikes 23 = .ok (.iastore, 1) := by decide +kernel
theorem dX11_strikes_24 : decode cX11_strikes 24 = .ok (.iload_n 1, 1) := by decide +kernel
theorem dX11_strikes_25 : decode cX11_strikes 25 = .ok (.istore_n 2, 1) := by decide +kernel
theorem dX11_strikes_26 : decode cX11_strikes 26 = .ok (.iload_n 2, 1) := by decide +kernel
theorem dX11_strikes_27 : decode cX11_strikes 27 = .ok (.aload_n 0, 1) := by decide +kernel
theorem dX11_strikes_28 : decode cX11_strikes 28 = .ok (.getfield 7, 3) := by decide +kernel
theorem dX11_strikes_31 : decode cX11_strikes 31 = .ok (.iconst 0, 1) := by decide +kernel
theorem dX11_strikes_32 : decode cX11_strikes 32 = .ok (.iaload, 1) := by decide +kernel
theorem dX11_strikes_33 : decode cX11_strikes 33 = .ok (.if_icmp .ge 47, 3) := by decide +kernel
theorem dX11_strikes_36 : decode cX11_strikes 36 = .ok (.aload_n 0, 1) := by decide +kernel
theorem dX11_strikes_37 : decode cX11_strikes 37 = .ok (.getfield 7, 3) := by decide +kernel
theorem dX11_strikes_40 : decode cX11_strikes 40 = .ok (.iconst 3, 1) := by decide +kernel
theorem dX11_strikes_41 : decode cX11_strikes 41 = .ok (.iload_n 2, 1) := by decide +kernel
theorem dX11_strikes_42 : decode cX11_strikes 42 = .ok (.iadd, 1) := by decide +kernel
theorem dX11_strikes_43 : decode cX11_strikes 43 = .ok (.aload_n 0, 1) := by decide +kernel
theorem dX11_strikes_44 : decode cX11_strikes 44 = .ok (.getfield 7, 3) := by decide +kernel
theorem dX11_strikes_47 : decode cX11_strikes 47 = .ok (.iconst 3, 1) := by decide +kernel
theorem dX11_strikes_48 : decode cX11_strikes 48 = .ok (.iload_n 2, 1) := by decide +kernel
theorem dX11_strikes_49 : decode cX11_strikes 49 = .ok (.iadd, 1) := by decide +kernel
theorem dX11_strikes_50 : decode cX11_strikes 50 = .ok (.iconst 1, 1) := by decide +kernel
theorem dX11_strikes_51 : decode cX11_strikes 51 = .ok (.iadd, 1) := by decide +kernel
theorem dX11_strikes_52 : decode cX11_strikes 52 = .ok (.iaload, 1) := by decide +kernel
theorem dX11_strikes_53 : decode cX11_strikes 53 = .ok (.iastore, 1) := by decide +kernel
theorem dX11_strikes_54 : decode cX11_strikes 54 = .ok (.aload_n 0, 1) := by decide +kernel
theorem dX11_strikes_55 : decode cX11_strikes 55 = .ok (.getfield 7, 3) := by decide +kernel
theorem dX11_strikes_58 : decode cX11_strikes 58 = .ok (.bipush 17, 2) := by decide +kernel
theorem dX11_strikes_60 : decode cX11_strikes 60 = .ok (.iload_n 2, 1) := by decide +kernel
theorem dX11_strikes_61 : decode cX11_strikes 61 = .ok (.iadd, 1) := by decide +kernel
theorem dX11_strikes_62 : decode cX11_strikes 62 = .ok (.aload_n 0, 1) := by decide +kernel
theorem dX11_strikes_63 : decode cX11_strikes 63 = .ok (.getfield 7, 3) := by decide +kernel
theorem dX11_strikes_66 : decode cX11_strikes 66 = .ok (.bipush 17, 2) := by decide +kernel
theorem dX11_strikes_68 : decode cX11_strikes 68 = .ok (.iload_n 2, 1) := by decide +kernel
theorem dX11_strikes_69 : decode cX11_strikes 69 = .ok (.iadd, 1) := by decide +kernel
theorem dX11_strikes_70 : decode cX11_strikes 70 = .ok (.iconst 1, 1) := by decide +kernel
theorem dX11_strikes_71 : decode cX11_strikes 71 = .ok (.iadd, 1) := by decide +kernel
theorem dX11_strikes_72 : decode cX11_strikes 72 = .ok (.iaload, 1) := by decide +kernel
theorem dX11_strikes_73 : decode cX11_strikes 73 = .ok (.iastore, 1) := by decide +kernel
theorem dX11_strikes_74 : decode cX11_strikes 74 = .ok (.iinc 2 1, 3) := by decide +kernel
theorem dX11_strikes_77 : decode cX11_strikes 77 = .ok (.goto (-51), 3) := by decide +kernel
theorem dX11_strikes_80 : decode cX11_strikes 80 = .ok (.aload_n 0, 1) := by decide +kernel
theorem dX11_strikes_81 : decode cX11_strikes 81 = .ok (.getfield 7, 3) := by decide +kernel
theorem dX11_strikes_84 : decode cX11_strikes 84 = .ok (.iconst 0, 1) := by decide +kernel
theorem dX11_strikes_85 : decode cX11_strikes 85 = .ok (.iaload, 1) := by decide +kernel
theorem dX11_strikes_86 : decode cX11_strikes 86 = .ok (.ireturn, 1) := by decide +kernel
theorem dX11_becomes_0 : decode cX11_becomes 0 = .ok (.aload_n 0, 1) := by decide +kernel
theorem dX11_becomes_1 : decode cX11_becomes 1 = .ok (.getfield 7, 3) := by decide +kernel
theorem dX11_becomes_4 : decode cX11_becomes 4 = .ok (.iload_n 1, 1) := by decide +kernel
theorem dX11_becomes_5 : decode cX11_becomes 5 = .ok (.iaload, 1) := by decide +kernel
theorem dX11_becomes_6 : decode cX11_becomes 6 = .ok (.istore_n 3, 1) := by decide +kernel
theorem dX11_becomes_7 : decode cX11_becomes 7 = .ok (.aload_n 0, 1) := by decide +kernel
theorem dX11_becomes_8 : decode cX11_becomes 8 = .ok (.invokevirtual 120, 3) := by decide +kernel
theorem dX11_becomes_11 : decode cX11_becomes 11 = .ok (.aload_n 0, 1) := by decide +kernel
theorem dX11_becomes_12 : decode cX11_becomes 12 = .ok (.getfield 7, 3) := by decide +kernel
theorem dX11_becomes_15 : decode cX11_becomes 15 = .ok (.iload_n 1, 1) := by decide +kernel
theorem dX11_becomes_16 : decode cX11_becomes 16 = .ok (.iload_n 2, 1) := by decide +kernel
theorem dX11_becomes_17 : decode cX11_becomes 17 = .ok (.iastore, 1) := by decide +kernel
theorem dX11_becomes_18 : decode cX11_becomes 18 = .ok (.iload_n 3, 1) := by decide +kernel
theorem dX11_becomes_19 : decode cX11_becomes 19 = .ok (.ireturn, 1) := by decide +kernel
theorem dX11_promises_0 : decode cX11_promises 0 = .ok (.iload_n 1, 1) := by decide +kernel
theorem dX11_promises_1 : decode cX11_promises 1 = .ok (.iconst 0, 1) := by decide +kernel
theorem dX11_promises_2 : decode cX11_promises 2 = .ok (.bipush 99, 2) := by decide +kernel
theorem dX11_promises_4 : decode cX11_promises 4 = .ok (.invokestatic 48, 3) := by decide +kernel
theorem dX11_promises_7 : decode cX11_promises 7 = .ok (.ifCond .eq 12, 3) := by decide +kernel
theorem dX11_promises_10 : decode cX11_promises 10 = .ok (.aload_n 0, 1) := by decide +kernel
theorem dX11_promises_11 : decode cX11_promises 11 = .ok (.iconst 1, 1) := by decide +kernel
theorem dX11_promises_12 : decode cX11_promises 12 = .ok (.iload_n 1, 1) := by decide +kernel
theorem dX11_promises_13 : decode cX11_promises 13 = .ok (.invokevirtual 127, 3) := by decide +kernel
theorem dX11_promises_16 : decode cX11_promises 16 = .ok (.goto 4, 3) := by decide +kernel
theorem dX11_promises_19 : decode cX11_promises 19 = .ok (.iconst (-1), 1) := by decide +kernel
theorem dX11_promises_20 : decode cX11_promises 20 = .ok (.ireturn, 1) := by decide +kernel
theorem dX11_delays_0 : decode cX11_delays 0 = .ok (.iload_n 1, 1) := by decide +kernel
theorem dX11_delays_1 : decode cX11_delays 1 = .ok (.iconst 1, 1) := by decide +kernel
theorem dX11_delays_2 : decode cX11_delays 2 = .ok (.bipush 14, 2) := by decide +kernel
theorem dX11_delays_4 : decode cX11_delays 4 = .ok (.invokestatic 48, 3) := by decide +kernel
theorem dX11_delays_7 : decode cX11_delays 7 = .ok (.ifCond .eq 12, 3) := by decide +kernel
theorem dX11_delays_10 : decode cX11_delays 10 = .ok (.aload_n 0, 1) := by decide +kernel
theorem dX11_delays_11 : decode cX11_delays 11 = .ok (.iconst 2, 1) := by decide +kernel
theorem dX11_delays_12 : decode cX11_delays 12 = .ok (.iload_n 1, 1) := by decide +kernel
theorem dX11_delays_13 : decode cX11_delays 13 = .ok (.invokevirtual 127, 3) := by decide +kernel
theorem dX11_delays_16 : decode cX11_delays 16 = .ok (.goto 4, 3) := by decide +kernel
theorem dX11_delays_19 : decode cX11_delays 19 = .ok (.iconst (-1), 1) := by decide +kernel
theorem dX11_delays_20 : decode cX11_delays 20 = .ok (.ireturn, 1) := by decide +kernel
theorem dX11_undo_0 : decode cX11_undo 0 = .ok (.aload_n 0, 1) := by decide +kernel
theorem dX11_undo_1 : decode cX11_undo 1 = .ok (.getfield 107, 3) := by decide +kernel
theorem dX11_undo_4 : decode cX11_undo 4 = .ok (.ifCond .ne 6, 3) := by decide +kernel
theorem dX11_undo_7 : decode cX11_undo 7 = .ok (.bipush (-2), 2) := by decide +kernel
theorem dX11_undo_9 : decode cX11_undo 9 = .ok (.ireturn, 1) := by decide +kernel
theorem dX11_undo_10 : decode cX11_undo 10 = .ok (.aload_n 0, 1) := by decide +kernel
theorem dX11_undo_11 : decode cX11_undo 11 = .ok (.aload_n 0, 1) := by decide +kernel
theorem dX11_undo_12 : decode cX11_undo 12 = .ok (.getfield 117, 3) := by decide +kernel
theorem dX11_undo_15 : decode cX11_undo 15 = .ok (.bipush 10, 2) := by decide +kernel
theorem dX11_undo_17 : decode cX11_undo 17 = .ok (.iadd, 1) := by decide +kernel
theorem dX11_undo_18 : decode cX11_undo 18 = .ok (.iconst 1, 1) := by decide +kernel
theorem dX11_undo_19 : decode cX11_undo 19 = .ok (.isub, 1) := by decide +kernel
theorem dX11_undo_20 : decode cX11_undo 20 = .ok (.bipush 10, 2) := by decide +kernel
theorem dX11_undo_22 : decode cX11_undo 22 = .ok (.irem, 1) := by decide +kernel
theorem dX11_undo_23 : decode cX11_undo 23 = .ok (.putfield 117, 3) := by decide +kernel
theorem dX11_undo_26 : decode cX11_undo 26 = .ok (.aload_n 0, 1) := by decide +kernel
theorem dX11_undo_27 : decode cX11_undo 27 = .ok (.dup, 1) := by decide +kernel
theorem dX11_undo_28 : decode cX11_undo 28 = .ok (.getfield 107, 3) := by decide +kernel
theorem dX11_undo_31 : decode cX11_undo 31 = .ok (.iconst 1, 1) := by decide +kernel
theorem dX11_undo_32 : decode cX11_undo 32 = .ok (.isub, 1) := by decide +kernel
theorem dX11_undo_33 : decode cX11_undo 33 = .ok (.putfield 107, 3) := by decide +kernel
theorem dX11_undo_36 : decode cX11_undo 36 = .ok (.iconst 0, 1) := by decide +kernel
theorem dX11_undo_37 : decode cX11_undo 37 = .ok (.istore_n 1, 1) := by decide +kernel
theorem dX11_undo_38 : decode cX11_undo 38 = .ok (.iload_n 1, 1) := by decide +kernel
theorem dX11_undo_39 : decode cX11_undo 39 = .ok (.bipush 31, 2) := by decide +kernel
theorem dX11_undo_41 : decode cX11_undo 41 = .ok (.if_icmp .ge 29, 3) := by decide +kernel
theorem dX11_undo_44 : decode cX11_undo 44 = .ok (.aload_n 0, 1) := by decide +kernel
theorem dX11_undo_45 : decode cX11_undo 45 = .ok (.getfield 7, 3) := by decide +kernel
theorem dX11_undo_48 : decode cX11_undo 48 = .ok (.iload_n 1, 1) := by decide +kernel
theorem dX11_undo_49 : decode cX11_undo 49 = .ok (.aload_n 0, 1) := by decide +kernel
theorem dX11_undo_50 : decode cX11_undo 50 = .ok (.getfield 13, 3) := by decide +kernel
theorem dX11_undo_53 : decode cX11_undo 53 = .ok (.bipush 31, 2) := by decide +kernel
theorem dX11_undo_55 : decode cX11_undo 55 = .ok (.aload_n 0, 1) := by decide +kernel
theorem dX11_undo_56 : decode cX11_undo 56 = .ok (.getfield 117, 3) := by decide +kernel
theorem dX11_undo_59 : decode cX11_undo 59 = .ok (.imul, 1) := by decide +kernel
theorem dX11_undo_60 : decode cX11_undo 60 = .ok (.iload_n 1, 1) := by decide +kernel
theorem dX11_undo_61 : decode cX11_undo 61 = .ok (.iadd, 1) := by decide +kernel
theorem dX11_undo_62 : decode cX11_undo 62 = .ok (.iaload, 1) := by decide +kernel
theorem dX11_undo_63 : decode cX11_undo 63 = .ok (.iastore, 1) := by decide +kernel
theorem dX11_undo_64 : decode cX11_undo 64 = .ok (.iinc 1 1, 3) := by decide +kernel
theorem dX11_undo_67 : decode cX11_undo 67 = .ok (.goto (-29), 3) := by decide +kernel
theorem dX11_undo_70 : decode cX11_undo 70 = .ok (.aload_n 0, 1) := by decide +kernel
theorem dX11_undo_71 : decode cX11_undo 71 = .ok (.getfield 107, 3) := by decide +kernel
theorem dX11_undo_74 : decode cX11_undo 74 = .ok (.ireturn, 1) := by decide +kernel
theorem dX11_isFirst_0 : decode cX11_isFirst 0 = .ok (.aload_n 0, 1) := by decide +kernel
theorem dX11_isFirst_1 : decode cX11_isFirst 1 = .ok (.iload_n 1, 1) := by decide +kernel
theorem dX11_isFirst_2 : decode cX11_isFirst 2 = .ok (.invokevirtual 130, 3) := by decide +kernel
theorem dX11_isFirst_5 : decode cX11_isFirst 5 = .ok (.ifCond .eq 17, 3) := by decide +kernel
theorem dX11_isFirst_8 : decode cX11_isFirst 8 = .ok (.aload_n 0, 1) := by decide +kernel
theorem dX11_isFirst_9 : decode cX11_isFirst 9 = .ok (.iload_n 1, 1) := by decide +kernel
theorem dX11_isFirst_10 : decode cX11_isFirst 10 = .ok (.iconst 1, 1) := by decide +kernel
theorem dX11_isFirst_11 : decode cX11_isFirst 11 = .ok (.isub, 1) := by decide +kernel
theorem dX11_isFirst_12 : decode cX11_isFirst 12 = .ok (.invokevirtual 130, 3) := by decide +kernel
theorem dX11_isFirst_15 : decode cX11_isFirst 15 = .ok (.ifCond .ne 7, 3) := by decide +kernel
theorem dX11_isFirst_18 : decode cX11_isFirst 18 = .ok (.iconst 1, 1) := by decide +kernel
theorem dX11_isFirst_19 : decode cX11_isFirst 19 = .ok (.goto 4, 3) := by decide +kernel
theorem dX11_isFirst_22 : decode cX11_isFirst 22 = .ok (.iconst 0, 1) := by decide +kernel
theorem dX11_isFirst_23 : decode cX11_isFirst 23 = .ok (.ireturn, 1) := by decide +kernel
theorem dX11_isLast_0 : decode cX11_isLast 0 = .ok (.aload_n 0, 1) := by decide +kernel
theorem dX11_isLast_1 : decode cX11_isLast 1 = .ok (.iload_n 1, 1) := by decide +kernel
theorem dX11_isLast_2 : decode cX11_isLast 2 = .ok (.invokevirtual 130, 3) := by decide +kernel
theorem dX11_isLast_5 : decode cX11_isLast 5 = .ok (.ifCond .eq 17, 3) := by decide +kernel
theorem dX11_isLast_8 : decode cX11_isLast 8 = .ok (.aload_n 0, 1) := by decide +kernel
theorem dX11_isLast_9 : decode cX11_isLast 9 = .ok (.iload_n 1, 1) := by decide +kernel
theorem dX11_isLast_10 : decode cX11_isLast 10 = .ok (.iconst 1, 1) := by decide +kernel
theorem dX11_isLast_11 : decode cX11_isLast 11 = .ok (.iadd, 1) := by decide +kernel
theorem dX11_isLast_12 : decode cX11_isLast 12 = .ok (.invokevirtual 130, 3) := by decide +kernel
theorem dX11_isLast_15 : decode cX11_isLast 15 = .ok (.ifCond .ne 7, 3) := by decide +kernel
theorem dX11_isLast_18 : decode cX11_isLast 18 = .ok (.iconst 1, 1) := by decide +kernel
theorem dX11_isLast_19 : decode cX11_isLast 19 = .ok (.goto 4, 3) := by decide +kernel
theorem dX11_isLast_22 : decode cX11_isLast 22 = .ok (.iconst 0, 1) := by decide +kernel
theorem dX11_isLast_23 : decode cX11_isLast 23 = .ok (.ireturn, 1) := by decide +kernel
theorem dX11_stretchOf_0 : decode cX11_stretchOf 0 = .ok (.bipush (-9), 2) := by decide +kernel
theorem dX11_stretchOf_2 : decode cX11_stretchOf 2 = .ok (.istore_n 2, 1) := by decide +kernel
theorem dX11_stretchOf_3 : decode cX11_stretchOf 3 = .ok (.iconst 0, 1) := by decide +kernel
theorem dX11_stretchOf_4 : decode cX11_stretchOf 4 = .ok (.istore_n 3, 1) := by decide +kernel
theorem dX11_stretchOf_5 : decode cX11_stretchOf 5 = .ok (.iload_n 3, 1) := by decide +kernel
theorem dX11_stretchOf_6 : decode cX11_stretchOf 6 = .ok (.iload_n 1, 1) := by decide +kernel
theorem dX11_stretchOf_7 : decode cX11_stretchOf 7 = .ok (.if_icmp .gt 35, 3) := by decide +kernel
theorem dX11_stretchOf_10 : decode cX11_stretchOf 10 = .ok (.aload_n 0, 1) := by decide +kernel
theorem dX11_stretchOf_11 : decode cX11_stretchOf 11 = .ok (.iload_n 3, 1) := by decide +kernel
theorem dX11_stretchOf_12 : decode cX11_stretchOf 12 = .ok (.invokevirtual 133, 3) := by decide +kernel
theorem dX11_stretchOf_15 : decode cX11_stretchOf 15 = .ok (.ifCond .eq 19, 3) := by decide +kernel
theorem dX11_stretchOf_18 : decode cX11_stretchOf 18 = .ok (.iload_n 2, 1) := by decide +kernel
theorem dX11_stretchOf_19 : decode cX11_stretchOf 19 = .ok (.bipush (-9), 2) := by decide +kernel
theorem dX11_stretchOf_21 : decode cX11_stretchOf 21 = .ok (.if_icmp .ne 7, 3) := by decide +kernel
theorem dX11_stretchOf_24 : decode cX11_stretchOf 24 = .ok (.iconst 0, 1) := by decide +kernel
theorem dX11_stretchOf_25 : decode cX11_stretchOf 25 = .ok (.goto 10, 3) := by decide +kernel
theorem dX11_stretchOf_28 : decode cX11_stretchOf 28 = .ok (.iload_n 2, 1) := by decide +kernel
theorem dX11_stretchOf_29 : decode cX11_stretchOf 29 = .ok (.iconst 1, 1) := by decide +kernel
theorem dX11_stretchOf_30 : decode cX11_stretchOf 30 = .ok (.iadd, 1) := by decide +kernel
theorem dX11_stretchOf_31 : decode cX11_stretchOf 31 = .ok (.goto 4, 3) := by decide +kernel
theorem dX11_stretchOf_34 : decode cX11_stretchOf 34 = .ok (.iload_n 2, 1) := by decide +kernel
theorem dX11_stretchOf_35 : decode cX11_stretchOf 35 = .ok (.istore_n 2, 1) := by decide +kernel
theorem dX11_stretchOf_36 : decode cX11_stretchOf 36 = .ok (.iinc 3 1, 3) := by decide +kernel
theorem dX11_stretchOf_39 : decode cX11_stretchOf 39 = .ok (.goto (-34), 3) := by decide +kernel
theorem dX11_stretchOf_42 : decode cX11_stretchOf 42 = .ok (.aload_n 0, 1) := by decide +kernel
theorem dX11_stretchOf_43 : decode cX11_stretchOf 43 = .ok (.iload_n 1, 1) := by decide +kernel
theorem dX11_stretchOf_44 : decode cX11_stretchOf 44 = .ok (.invokevirtual 130, 3) := by decide +kernel
theorem dX11_stretchOf_47 : decode cX11_stretchOf 47 = .ok (.ifCond .eq 7, 3) := by decide +kernel
theorem dX11_stretchOf_50 : decode cX11_stretchOf 50 = .ok (.iload_n 2, 1) := by decide +kernel
theorem dX11_stretchOf_51 : decode cX11_stretchOf 51 = .ok (.goto 5, 3) := by decide +kernel
theorem dX11_stretchOf_54 : decode cX11_stretchOf 54 = .ok (.bipush (-9), 2) := by decide +kernel
theorem dX11_stretchOf_56 : decode cX11_stretchOf 56 = .ok (.ireturn, 1) := by decide +kernel
theorem dX11_apartBy_0 : decode cX11_apartBy 0 = .ok (.aload_n 0, 1) := by decide +kernel
theorem dX11_apartBy_1 : decode cX11_apartBy 1 = .ok (.getfield 7, 3) := by decide +kernel
theorem dX11_apartBy_4 : decode cX11_apartBy 4 = .ok (.iconst 3, 1) := by decide +kernel
theorem dX11_apartBy_5 : decode cX11_apartBy 5 = .ok (.iload_n 3, 1) := by decide +kernel
theorem dX11_apartBy_6 : decode cX11_apartBy 6 = .ok (.iadd, 1) := by decide +kernel
theorem dX11_apartBy_7 : decode cX11_apartBy 7 = .ok (.iaload, 1) := by decide +kernel
theorem dX11_apartBy_8 : decode cX11_apartBy 8 = .ok (.aload_n 0, 1) := by decide +kernel
theorem dX11_apartBy_9 : decode cX11_apartBy 9 = .ok (.getfield 7, 3) := by decide +kernel
theorem dX11_apartBy_12 : decode cX11_apartBy 12 = .ok (.iconst 3, 1) := by decide +kernel
theorem dX11_apartBy_13 : decode cX11_apartBy 13 = .ok (.iload_n 1, 1) := by decide +kernel
theorem dX11_apartBy_14 : decode cX11_apartBy 14 = .ok (.iadd, 1) := by decide +kernel
theorem dX11_apartBy_15 : decode cX11_apartBy 15 = .ok (.iaload, 1) := by decide +kernel
theorem dX11_apartBy_16 : decode cX11_apartBy 16 = .ok (.isub, 1) := by decide +kernel
theorem dX11_apartBy_17 : decode cX11_apartBy 17 = .ok (.istore 4, 2) := by decide +kernel
theorem dX11_apartBy_19 : decode cX11_apartBy 19 = .ok (.aload_n 0, 1) := by decide +kernel
theorem dX11_apartBy_20 : decode cX11_apartBy 20 = .ok (.getfield 7, 3) := by decide +kernel
theorem dX11_apartBy_23 : decode cX11_apartBy 23 = .ok (.bipush 17, 2) := by decide +kernel
theorem dX11_apartBy_25 : decode cX11_apartBy 25 = .ok (.iload_n 2, 1) := by decide +kernel
theorem dX11_apartBy_26 : decode cX11_apartBy 26 = .ok (.iadd, 1) := by decide +kernel
theorem dX11_apartBy_27 : decode cX11_apartBy 27 = .ok (.iaload, 1) := by decide +kernel
theorem dX11_apartBy_28 : decode cX11_apartBy 28 = .ok (.iload 4, 2) := by decide +kernel
theorem dX11_apartBy_30 : decode cX11_apartBy 30 = .ok (.imul, 1) := by decide +kernel
theorem dX11_apartBy_31 : decode cX11_apartBy 31 = .ok (.aload_n 0, 1) := by decide +kernel
theorem dX11_apartBy_32 : decode cX11_apartBy 32 = .ok (.getfield 7, 3) := by decide +kernel
theorem dX11_apartBy_35 : decode cX11_apartBy 35 = .ok (.bipush 17, 2) := by decide +kernel
theorem dX11_apartBy_37 : decode cX11_apartBy 37 = .ok (.iload_n 1, 1) := by decide +kernel
theorem dX11_apartBy_38 : decode cX11_apartBy 38 = .ok (.iadd, 1) := by decide +kernel
theorem dX11_apartBy_39 : decode cX11_apartBy 39 = .ok (.iaload, 1) := by decide +kernel
theorem dX11_apartBy_40 : decode cX11_apartBy 40 = .ok (.aload_n 0, 1) := by decide +kernel
theorem dX11_apartBy_41 : decode cX11_apartBy 41 = .ok (.getfield 7, 3) := by decide +kernel
theorem dX11_apartBy_44 : decode cX11_apartBy 44 = .ok (.iconst 3, 1) := by decide +kernel
theorem dX11_apartBy_45 : decode cX11_apartBy 45 = .ok (.iload_n 3, 1) := by decide +kernel
theorem dX11_apartBy_46 : decode cX11_apartBy 46 = .ok (.iadd, 1) := by decide +kernel
theorem dX11_apartBy_47 : decode cX11_apartBy 47 = .ok (.iaload, 1) := by decide +kernel
theorem dX11_apartBy_48 : decode cX11_apartBy 48 = .ok (.aload_n 0, 1) := by decide +kernel
theorem dX11_apartBy_49 : decode cX11_apartBy 49 = .ok (.getfield 7, 3) := by decide +kernel
theorem dX11_apartBy_52 : decode cX11_apartBy 52 = .ok (.iconst 3, 1) := by decide +kernel
theorem dX11_apartBy_53 : decode cX11_apartBy 53 = .ok (.iload_n 2, 1) := by decide +kernel
theorem dX11_apartBy_54 : decode cX11_apartBy 54 = .ok (.iadd, 1) := by decide +kernel
theorem dX11_apartBy_55 : decode cX11_apartBy 55 = .ok (.iaload, 1) := by decide +kernel
theorem dX11_apartBy_56 : decode cX11_apartBy 56 = .ok (.isub, 1) := by decide +kernel
theorem dX11_apartBy_57 : decode cX11_apartBy 57 = .ok (.imul, 1) := by decide +kernel
theorem dX11_apartBy_58 : decode cX11_apartBy 58 = .ok (.isub, 1) := by decide +kernel
theorem dX11_apartBy_59 : decode cX11_apartBy 59 = .ok (.aload_n 0, 1) := by decide +kernel
theorem dX11_apartBy_60 : decode cX11_apartBy 60 = .ok (.getfield 7, 3) := by decide +kernel
theorem dX11_apartBy_63 : decode cX11_apartBy 63 = .ok (.bipush 17, 2) := by decide +kernel
theorem dX11_apartBy_65 : decode cX11_apartBy 65 = .ok (.iload_n 3, 1) := by decide +kernel
theorem dX11_apartBy_66 : decode cX11_apartBy 66 = .ok (.iadd, 1) := by decide +kernel
theorem dX11_apartBy_67 : decode cX11_apartBy 67 = .ok (.iaload, 1) := by decide +kernel
theorem dX11_apartBy_68 : decode cX11_apartBy 68 = .ok (.aload_n 0, 1) := by decide +kernel
theorem dX11_apartBy_69 : decode cX11_apartBy 69 = .ok (.getfield 7, 3) := by decide +kernel
theorem dX11_apartBy_72 : decode cX11_apartBy 72 = .ok (.iconst 3, 1) := by decide +kernel
theorem dX11_apartBy_73 : decode cX11_apartBy 73 = .ok (.iload_n 2, 1) := by decide +kernel
theorem dX11_apartBy_74 : decode cX11_apartBy 74 = .ok (.iadd, 1) := by decide +kernel
theorem dX11_apartBy_75 : decode cX11_apartBy 75 = .ok (.iaload, 1) := by decide +kernel
theorem dX11_apartBy_76 : decode cX11_apartBy 76 = .ok (.aload_n 0, 1) := by decide +kernel
theorem dX11_apartBy_77 : decode cX11_apartBy 77 = .ok (.getfield 7, 3) := by decide +kernel
theorem dX11_apartBy_80 : decode cX11_apartBy 80 = .ok (.iconst 3, 1) := by decide +kernel
theorem dX11_apartBy_81 : decode cX11_apartBy 81 = .ok (.iload_n 1, 1) := by decide +kernel
theorem dX11_apartBy_82 : decode cX11_apartBy 82 = .ok (.iadd, 1) := by decide +kernel
theorem dX11_apartBy_83 : decode cX11_apartBy 83 = .ok (.iaload, 1) := by decide +kernel
theorem dX11_apartBy_84 : decode cX11_apartBy 84 = .ok (.isub, 1) := by decide +kernel
theorem dX11_apartBy_85 : decode cX11_apartBy 85 = .ok (.imul, 1) := by decide +kernel
theorem dX11_apartBy_86 : decode cX11_apartBy 86 = .ok (.isub, 1) := by decide +kernel
theorem dX11_apartBy_87 : decode cX11_apartBy 87 = .ok (.istore 5, 2) := by decide +kernel
theorem dX11_apartBy_89 : decode cX11_apartBy 89 = .ok (.iload 5, 2) := by decide +kernel
theorem dX11_apartBy_91 : decode cX11_apartBy 91 = .ok (.ifCond .ge 9, 3) := by decide +kernel
theorem dX11_apartBy_94 : decode cX11_apartBy 94 = .ok (.iload 5, 2) := by decide +kernel
theorem dX11_apartBy_96 : decode cX11_apartBy 96 = .ok (.ineg, 1) := by decide +kernel
theorem dX11_apartBy_97 : decode cX11_apartBy 97 = .ok (.goto 5, 3) := by decide +kernel
theorem dX11_apartBy_100 : decode cX11_apartBy 100 = .ok (.iload 5, 2) := by decide +kernel
theorem dX11_apartBy_102 : decode cX11_apartBy 102 = .ok (.ireturn, 1) := by decide +kernel
theorem dX11_whyNot_0 : decode cX11_whyNot 0 = .ok (.iload_n 1, 1) := by decide +kernel
theorem dX11_whyNot_1 : decode cX11_whyNot 1 = .ok (.iconst 1, 1) := by decide +kernel
theorem dX11_whyNot_2 : decode cX11_whyNot 2 = .ok (.iadd, 1) := by decide +kernel
theorem dX11_whyNot_3 : decode cX11_whyNot 3 = .ok (.istore 4, 2) := by decide +kernel
theorem dX11_whyNot_5 : decode cX11_whyNot 5 = .ok (.iload 4, 2) := by decide +kernel
theorem dX11_whyNot_7 : decode cX11_whyNot 7 = .ok (.iload_n 2, 1) := by decide +kernel
theorem dX11_whyNot_8 : decode cX11_whyNot 8 = .ok (.if_icmp .ge 42, 3) := by decide +kernel
theorem dX11_whyNot_11 : decode cX11_whyNot 11 = .ok (.aload_n 0, 1) := by decide +kernel
theorem dX11_whyNot_12 : decode cX11_whyNot 12 = .ok (.iload_n 1, 1) := by decide +kernel
theorem dX11_whyNot_13 : decode cX11_whyNot 13 = .ok (.iload 4, 2) := by decide +kernel
theorem dX11_whyNot_15 : decode cX11_whyNot 15 = .ok (.iload_n 2, 1) := by decide +kernel
theorem dX11_whyNot_16 : decode cX11_whyNot 16 = .ok (.invokevirtual 136, 3) := by decide +kernel
theorem dX11_whyNot_19 : decode cX11_whyNot 19 = .ok (.iload_n 3, 1) := by decide +kernel
theorem dX11_whyNot_20 : decode cX11_whyNot 20 = .ok (.aload_n 0, 1) := by decide +kernel
theorem dX11_whyNot_21 : decode cX11_whyNot 21 = .ok (.getfield 7, 3) := by decide +kernel
theorem dX11_whyNot_24 : decode cX11_whyNot 24 = .ok (.iconst 3, 1) := by decide +kernel
theorem dX11_whyNot_25 : decode cX11_whyNot 25 = .ok (.iload_n 2, 1) := by decide +kernel
theorem dX11_whyNot_26 : decode cX11_whyNot 26 = .ok (.iadd, 1) := by decide +kernel
theorem dX11_whyNot_27 : decode cX11_whyNot 27 = .ok (.iaload, 1) := by decide +kernel
theorem dX11_whyNot_28 : decode cX11_whyNot 28 = .ok (.aload_n 0, 1) := by decide +kernel
theorem dX11_whyNot_29 : decode cX11_whyNot 29 = .ok (.getfield 7, 3) := by decide +kernel
theorem dX11_whyNot_32 : decode cX11_whyNot 32 = .ok (.iconst 3, 1) := by decide +kernel
theorem dX11_whyNot_33 : decode cX11_whyNot 33 = .ok (.iload_n 1, 1) := by decide +kernel
theorem dX11_whyNot_34 : decode cX11_whyNot 34 = .ok (.iadd, 1) := by decide +kernel
theorem dX11_whyNot_35 : decode cX11_whyNot 35 = .ok (.iaload, 1) := by decide +kernel
theorem dX11_whyNot_36 : decode cX11_whyNot 36 = .ok (.isub, 1) := by decide +kernel
theorem dX11_whyNot_37 : decode cX11_whyNot 37 = .ok (.imul, 1) := by decide +kernel
theorem dX11_whyNot_38 : decode cX11_whyNot 38 = .ok (.if_icmp .le 6, 3) := by decide +kernel
theorem dX11_whyNot_41 : decode cX11_whyNot 41 = .ok (.iload 4, 2) := by decide +kernel
theorem dX11_whyNot_43 : decode cX11_whyNot 43 = .ok (.ireturn, 1) := by decide +kernel
theorem dX11_whyNot_44 : decode cX11_whyNot 44 = .ok (.iinc 4 1, 3) := by decide +kernel
theorem dX11_whyNot_47 : decode cX11_whyNot 47 = .ok (.goto (-42), 3) := by decide +kernel
theorem dX11_whyNot_50 : decode cX11_whyNot 50 = .ok (.bipush (-9), 2) := by decide +kernel
theorem dX11_whyNot_52 : decode cX11_whyNot 52 = .ok (.ireturn, 1) := by decide +kernel
theorem dX11_doorFrom_0 : decode cX11_doorFrom 0 = .ok (.iload_n 1, 1) := by decide +kernel
theorem dX11_doorFrom_1 : decode cX11_doorFrom 1 = .ok (.istore_n 3, 1) := by decide +kernel
theorem dX11_doorFrom_2 : decode cX11_doorFrom 2 = .ok (.aload_n 0, 1) := by decide +kernel
theorem dX11_doorFrom_3 : decode cX11_doorFrom 3 = .ok (.iload_n 3, 1) := by decide +kernel
theorem dX11_doorFrom_4 : decode cX11_doorFrom 4 = .ok (.invokevirtual 140, 3) := by decide +kernel
theorem dX11_doorFrom_7 : decode cX11_doorFrom 7 = .ok (.ifCond .ne 35, 3) := by decide +kernel
theorem dX11_doorFrom_10 : decode cX11_doorFrom 10 = .ok (.iload_n 3, 1) := by decide +kernel
theorem dX11_doorFrom_11 : decode cX11_doorFrom 11 = .ok (.iload_n 1, 1) := by decide +kernel
theorem dX11_doorFrom_12 : decode cX11_doorFrom 12 = .ok (.aload_n 0, 1) := by decide +kernel
theorem dX11_doorFrom_13 : decode cX11_doorFrom 13 = .ok (.getfield 7, 3) := by decide +kernel
theorem dX11_doorFrom_16 : decode cX11_doorFrom 16 = .ok (.iconst 2, 1) := by decide +kernel
theorem dX11_doorFrom_17 : decode cX11_doorFrom 17 = .ok (.iaload, 1) := by decide +kernel
theorem dX11_doorFrom_18 : decode cX11_doorFrom 18 = .ok (.iadd, 1) := by decide +kernel
theorem dX11_doorFrom_19 : decode cX11_doorFrom 19 = .ok (.if_icmp .ge 23, 3) := by decide +kernel
theorem dX11_doorFrom_22 : decode cX11_doorFrom 22 = .ok (.aload_n 0, 1) := by decide +kernel
theorem dX11_doorFrom_23 : decode cX11_doorFrom 23 = .ok (.iload_n 1, 1) := by decide +kernel
theorem dX11_doorFrom_24 : decode cX11_doorFrom 24 = .ok (.iload_n 3, 1) := by decide +kernel
theorem dX11_doorFrom_25 : decode cX11_doorFrom 25 = .ok (.iconst 1, 1) := by decide +kernel
theorem dX11_doorFrom_26 : decode cX11_doorFrom 26 = .ok (.iadd, 1) := by decide +kernel
theorem dX11_doorFrom_27 : decode cX11_doorFrom 27 = .ok (.iload_n 2, 1) := by decide +kernel
theorem dX11_doorFrom_28 : decode cX11_doorFrom 28 = .ok (.invokevirtual 143, 3) := by decide +kernel
theorem dX11_doorFrom_31 : decode cX11_doorFrom 31 = .ok (.bipush (-9), 2) := by decide +kernel
theorem dX11_doorFrom_33 : decode cX11_doorFrom 33 = .ok (.if_icmp .ne 9, 3) := by decide +kernel
theorem dX11_doorFrom_36 : decode cX11_doorFrom 36 = .ok (.iinc 3 1, 3) := by decide +kernel
theorem dX11_doorFrom_39 : decode cX11_doorFrom 39 = .ok (.goto (-37), 3) := by decide +kernel
theorem dX11_doorFrom_42 : decode cX11_doorFrom 42 = .ok (.iload_n 3, 1) := by decide +kernel
theorem dX11_doorFrom_43 : decode cX11_doorFrom 43 = .ok (.ireturn, 1) := by decide +kernel
theorem dX11_door_0 : decode cX11_door 0 = .ok (.iconst 0, 1) := by decide +kernel
theorem dX11_door_1 : decode cX11_door 1 = .ok (.istore_n 2, 1) := by decide +kernel
theorem dX11_door_2 : decode cX11_door 2 = .ok (.iconst 0, 1) := by decide +kernel
theorem dX11_door_3 : decode cX11_door 3 = .ok (.istore_n 3, 1) := by decide +kernel
theorem dX11_door_4 : decode cX11_door 4 = .ok (.iload_n 3, 1) := by decide +kernel
theorem dX11_door_5 : decode cX11_door 5 = .ok (.aload_n 0, 1) := by decide +kernel
theorem dX11_door_6 : decode cX11_door 6 = .ok (.getfield 7, 3) := by decide +kernel
theorem dX11_door_9 : decode cX11_door 9 = .ok (.iconst 0, 1) := by decide +kernel
theorem dX11_door_10 : decode cX11_door 10 = .ok (.iaload, 1) := by decide +kernel
theorem dX11_door_11 : decode cX11_door 11 = .ok (.if_icmp .ge 55, 3) := by decide +kernel
theorem dX11_door_14 : decode cX11_door 14 = .ok (.aload_n 0, 1) := by decide +kernel
theorem dX11_door_15 : decode cX11_door 15 = .ok (.iload_n 3, 1) := by decide +kernel
theorem dX11_door_16 : decode cX11_door 16 = .ok (.invokevirtual 133, 3) := by decide +kernel
theorem dX11_door_19 : decode cX11_door 19 = .ok (.ifCond .eq 41, 3) := by decide +kernel
theorem dX11_door_22 : decode cX11_door 22 = .ok (.iload_n 3, 1) := by decide +kernel
theorem dX11_door_23 : decode cX11_door 23 = .ok (.istore 4, 2) := by decide +kernel
theorem dX11_door_25 : decode cX11_door 25 = .ok (.iload_n 2, 1) := by decide +kernel
theorem dX11_door_26 : decode cX11_door 26 = .ok (.iconst 1, 1) := by decide +kernel
theorem dX11_door_27 : decode cX11_door 27 = .ok (.iload 4, 2) := by decide +kernel
theorem dX11_door_29 : decode cX11_door 29 = .ok (.ishl, 1) := by decide +kernel
theorem dX11_door_30 : decode cX11_door 30 = .ok (.ior, 1) := by decide +kernel
theorem dX11_door_31 : decode cX11_door 31 = .ok (.istore_n 2, 1) := by decide +kernel
theorem dX11_door_32 : decode cX11_door 32 = .ok (.aload_n 0, 1) := by decide +kernel
theorem dX11_door_33 : decode cX11_door 33 = .ok (.iload 4, 2) := by decide +kernel
theorem dX11_door_35 : decode cX11_door 35 = .ok (.invokevirtual 140, 3) := by decide +kernel
theorem dX11_door_38 : decode cX11_door 38 = .ok (.ifCond .ne 22, 3) := by decide +kernel
theorem dX11_door_41 : decode cX11_door 41 = .ok (.aload_n 0, 1) := by decide +kernel
theorem dX11_door_42 : decode cX11_door 42 = .ok (.iload 4, 2) := by decide +kernel
theorem dX11_door_44 : decode cX11_door 44 = .ok (.iload_n 1, 1) := by decide +kernel
theorem dX11_door_45 : decode cX11_door 45 = .ok (.invokevirtual 146, 3) := by decide +kernel
theorem dX11_door_48 : decode cX11_door 48 = .ok (.istore 4, 2) := by decide +kernel
theorem dX11_door_50 : decode cX11_door 50 = .ok (.iload_n 2, 1) := by decide +kernel
theorem dX11_door_51 : decode cX11_door 51 = .ok (.iconst 1, 1) := by decide +kernel
theorem dX11_door_52 : decode cX11_door 52 = .ok (.iload 4, 2) := by decide +kernel
theorem dX11_door_54 : decode cX11_door 54 = .ok (.ishl, 1) := by decide +kernel
theorem dX11_door_55 : decode cX11_door 55 = .ok (.ior, 1) := by decide +kernel
theorem dX11_door_56 : decode cX11_door 56 = .ok (.istore_n 2, 1) := by decide +kernel
theorem dX11_door_57 : decode cX11_door 57 = .ok (.goto (-25), 3) := by decide +kernel
theorem dX11_door_60 : decode cX11_door 60 = .ok (.iinc 3 1, 3) := by decide +kernel
theorem dX11_door_63 : decode cX11_door 63 = .ok (.goto (-59), 3) := by decide +kernel
theorem dX11_door_66 : decode cX11_door 66 = .ok (.iload_n 2, 1) := by decide +kernel
theorem dX11_door_67 : decode cX11_door 67 = .ok (.ireturn, 1) := by decide +kernel
theorem dX11_keptAhead_0 : decode cX11_keptAhead 0 = .ok (.iload_n 2, 1) := by decide +kernel
theorem dX11_keptAhead_1 : decode cX11_keptAhead 1 = .ok (.iconst 1, 1) := by decide +kernel
theorem dX11_keptAhead_2 : decode cX11_keptAhead 2 = .ok (.isub, 1) := by decide +kernel
theorem dX11_keptAhead_3 : decode cX11_keptAhead 3 = .ok (.istore_n 3, 1) := by decide +kernel
theorem dX11_keptAhead_4 : decode cX11_keptAhead 4 = .ok (.iload_n 1, 1) := by decide +kernel
theorem dX11_keptAhead_5 : decode cX11_keptAhead 5 = .ok (.iload_n 3, 1) := by decide +kernel
theorem dX11_keptAhead_6 : decode cX11_keptAhead 6 = .ok (.invokestatic 87, 3) := by decide +kernel
theorem dX11_keptAhead_9 : decode cX11_keptAhead 9 = .ok (.ifCond .ne 9, 3) := by decide +kernel
theorem dX11_keptAhead_12 : decode cX11_keptAhead 12 = .ok (.iinc 3 (-1), 3) := by decide +kernel
theorem dX11_keptAhead_15 : decode cX11_keptAhead 15 = .ok (.goto (-11), 3) := by decide +kernel
theorem dX11_keptAhead_18 : decode cX11_keptAhead 18 = .ok (.iload_n 3, 1) := by decide +kernel
theorem dX11_keptAhead_19 : decode cX11_keptAhead 19 = .ok (.ireturn, 1) := by decide +kernel
theorem dX11_sentAt_0 : decode cX11_sentAt 0 = .ok (.aload_n 0, 1) := by decide +kernel
theorem dX11_sentAt_1 : decode cX11_sentAt 1 = .ok (.iload_n 2, 1) := by decide +kernel
theorem dX11_sentAt_2 : decode cX11_sentAt 2 = .ok (.invokevirtual 133, 3) := by decide +kernel
theorem dX11_sentAt_5 : decode cX11_sentAt 5 = .ok (.ifCond .ne 28, 3) := by decide +kernel
theorem dX11_sentAt_8 : decode cX11_sentAt 8 = .ok (.aload_n 0, 1) := by decide +kernel
theorem dX11_sentAt_9 : decode cX11_sentAt 9 = .ok (.iload_n 2, 1) := by decide +kernel
theorem dX11_sentAt_10 : decode cX11_sentAt 10 = .ok (.invokevirtual 140, 3) := by decide +kernel
theorem dX11_sentAt_13 : decode cX11_sentAt 13 = .ok (.ifCond .ne 20, 3) := by decide +kernel
theorem dX11_sentAt_16 : decode cX11_sentAt 16 = .ok (.iload_n 2, 1) := by decide +kernel
theorem dX11_sentAt_17 : decode cX11_sentAt 17 = .ok (.aload_n 0, 1) := by decide +kernel
theorem dX11_sentAt_18 : decode cX11_sentAt 18 = .ok (.iload_n 1, 1) := by decide +kernel
theorem dX11_sentAt_19 : decode cX11_sentAt 19 = .ok (.iload_n 2, 1) := by decide +kernel
theorem dX11_sentAt_20 : decode cX11_sentAt 20 = .ok (.invokevirtual 149, 3) := by decide +kernel
theorem dX11_sentAt_23 : decode cX11_sentAt 23 = .ok (.aload_n 0, 1) := by decide +kernel
theorem dX11_sentAt_24 : decode cX11_sentAt 24 = .ok (.getfield 7, 3) := by decide +kernel
theorem dX11_sentAt_27 : decode cX11_sentAt 27 = .ok (.iconst 2, 1) := by decide +kernel
theorem dX11_sentAt_28 : decode cX11_sentAt 28 = .ok (.iaload, 1) := by decide +kernel
theorem dX11_sentAt_29 : decode cX11_sentAt 29 = .ok (.iadd, 1) := by decide +kernel
theorem dX11_sentAt_30 : decode cX11_sentAt 30 = .ok (.if_icmp .ne 7, 3) := by decide +kernel
theorem dX11_sentAt_33 : decode cX11_sentAt 33 = .ok (.iconst 1, 1) := by decide +kernel
theorem dX11_sentAt_34 : decode cX11_sentAt 34 = .ok (.goto 4, 3) := by decide +kernel
theorem dX11_sentAt_37 : decode cX11_sentAt 37 = .ok (.iconst 0, 1) := by decide +kernel
theorem dX11_sentAt_38 : decode cX11_sentAt 38 = .ok (.istore_n 3, 1) := by decide +kernel
theorem dX11_sentAt_39 : decode cX11_sentAt 39 = .ok (.aload_n 0, 1) := by decide +kernel
theorem dX11_sentAt_40 : decode cX11_sentAt 40 = .ok (.getfield 7, 3) := by decide +kernel
theorem dX11_sentAt_43 : decode cX11_sentAt 43 = .ok (.iconst 3, 1) := by decide +kernel
theorem dX11_sentAt_44 : decode cX11_sentAt 44 = .ok (.iload_n 3, 1) := by decide +kernel
theorem dX11_sentAt_45 : decode cX11_sentAt 45 = .ok (.ifCond .eq 7, 3) := by decide +kernel
theorem dX11_sentAt_48 : decode cX11_sentAt 48 = .ok (.iload_n 2, 1) := by decide +kernel
theorem dX11_sentAt_49 : decode cX11_sentAt 49 = .ok (.goto 6, 3) := by decide +kernel
theorem dX11_sentAt_52 : decode cX11_sentAt 52 = .ok (.iload_n 2, 1) := by decide +kernel
theorem dX11_sentAt_53 : decode cX11_sentAt 53 = .ok (.iconst 1, 1) := by decide +kernel
theorem dX11_sentAt_54 : decode cX11_sentAt 54 = .ok (.iadd, 1) := by decide +kernel
theorem dX11_sentAt_55 : decode cX11_sentAt 55 = .ok (.iadd, 1) := by decide +kernel
theorem dX11_sentAt_56 : decode cX11_sentAt 56 = .ok (.iaload, 1) := by decide +kernel
theorem dX11_sentAt_57 : decode cX11_sentAt 57 = .ok (.ireturn, 1) := by decide +kernel
theorem dX11_greater_0 : decode cX11_greater 0 = .ok (.lload_n 1, 1) := by decide +kernel
theorem dX11_greater_1 : decode cX11_greater 1 = .ok (.aload_n 0, 1) := by decide +kernel
theorem dX11_greater_2 : decode cX11_greater 2 = .ok (.getfield 152, 3) := by decide +kernel
theorem dX11_greater_5 : decode cX11_greater 5 = .ok (.lmul, 1) := by decide +kernel
theorem dX11_greater_6 : decode cX11_greater 6 = .ok (.aload_n 0, 1) := by decide +kernel
theorem dX11_greater_7 : decode cX11_greater 7 = .ok (.getfield 156, 3) := by decide +kernel
theorem dX11_greater_10 : decode cX11_greater 10 = .ok (.lload_n 3, 1) := by decide +kernel
theorem dX11_greater_11 : decode cX11_greater 11 = .ok (.lmul, 1) := by decide +kernel
theorem dX11_greater_12 : decode cX11_greater 12 = .ok (.lcmp, 1) := by decide +kernel
theorem dX11_greater_13 : decode cX11_greater 13 = .ok (.ifCond .le 13, 3) := by decide +kernel
theorem dX11_greater_16 : decode cX11_greater 16 = .ok (.aload_n 0, 1) := by decide +kernel
theorem dX11_greater_17 : decode cX11_greater 17 = .ok (.lload_n 1, 1) := by decide +kernel
theorem dX11_greater_18 : decode cX11_greater 18 = .ok (.putfield 156, 3) := by decide +kernel
theorem dX11_greater_21 : decode cX11_greater 21 = .ok (.aload_n 0, 1) := by decide +kernel
theorem dX11_greater_22 : decode cX11_greater 22 = .ok (.lload_n 3, 1) := by decide +kernel
theorem dX11_greater_23 : decode cX11_greater 23 = .ok (.putfield 152, 3) := by decide +kernel
theorem dX11_greater_26 : decode cX11_greater 26 = .ok (.return_, 1) := by decide +kernel
theorem dX11_layStrip_0 : decode cX11_layStrip 0 = .ok (.aload_n 0, 1) := by decide +kernel
theorem dX11_layStrip_1 : decode cX11_layStrip 1 = .ok (.lconst 0, 1) := by decide +kernel
theorem dX11_layStrip_2 : decode cX11_layStrip 2 = .ok (.putfield 156, 3) := by decide +kernel
theorem dX11_layStrip_5 : decode cX11_layStrip 5 = .ok (.aload_n 0, 1) := by decide +kernel
theorem dX11_layStrip_6 : decode cX11_layStrip 6 = .ok (.lconst 1, 1) := by decide +kernel
theorem dX11_layStrip_7 : decode cX11_layStrip 7 = .ok (.putfield 152, 3) := by decide +kernel
theorem dX11_layStrip_10 : decode cX11_layStrip 10 = .ok (.iload_n 1, 1) := by decide +kernel
theorem dX11_layStrip_11 : decode cX11_layStrip 11 = .ok (.istore_n 3, 1) := by decide +kernel
theorem dX11_layStrip_12 : decode cX11_layStrip 12 = .ok (.iload_n 3, 1) := by decide +kernel
theorem dX11_layStrip_13 : decode cX11_layStrip 13 = .ok (.iload_n 2, 1) := by decide +kernel
theorem dX11_layStrip_14 : decode cX11_layStrip 14 = .ok (.if_icmp .gt 81, 3) := by decide +kernel
theorem dX11_layStrip_17 : decode cX11_layStrip 17 = .ok (.iload_n 3, 1) := by decide +kernel
theorem dX11_layStrip_18 : decode cX11_layStrip 18 = .ok (.iconst 2, 1) := by decide +kernel
theorem dX11_layStrip_19 : decode cX11_layStrip 19 = .ok (.iadd, 1) := by decide +kernel
theorem dX11_layStrip_20 : decode cX11_layStrip 20 = .ok (.istore 4, 2) := by decide +kernel
theorem dX11_layStrip_22 : decode cX11_layStrip 22 = .ok (.iload 4, 2) := by decide +kernel
theorem dX11_layStrip_24 : decode cX11_layStrip 24 = .ok (.iload_n 2, 1) := by decide +kernel
theorem dX11_layStrip_25 : decode cX11_layStrip 25 = .ok (.if_icmp .gt 64, 3) := by decide +kernel
theorem dX11_layStrip_28 : decode cX11_layStrip 28 = .ok (.iload_n 3, 1) := by decide +kernel
theorem dX11_layStrip_29 : decode cX11_layStrip 29 = .ok (.iconst 1, 1) := by decide +kernel
theorem dX11_layStrip_30 : decode cX11_layStrip 30 = .ok (.iadd, 1) := by decide +kernel
theorem dX11_layStrip_31 : decode cX11_layStrip 31 = .ok (.istore 5, 2) := by decide +kernel
theorem dX11_layStrip_33 : decode cX11_layStrip 33 = .ok (.iload 5, 2) := by decide +kernel
theorem dX11_layStrip_35 : decode cX11_layStrip 35 = .ok (.iload 4, 2) := by decide +kernel
theorem dX11_layStrip_37 : decode cX11_layStrip 37 = .ok (.if_icmp .ge 46, 3) := by decide +kernel
theorem dX11_layStrip_40 : decode cX11_layStrip 40 = .ok (.aload_n 0, 1) := by decide +kernel
theorem dX11_layStrip_41 : decode cX11_layStrip 41 = .ok (.aload_n 0, 1) := by decide +kernel
theorem dX11_layStrip_42 : decode cX11_layStrip 42 = .ok (.iload_n 3, 1) := by decide +kernel
theorem dX11_layStrip_43 : decode cX11_layStrip 43 = .ok (.iload 5, 2) := by decide +kernel
theorem dX11_layStrip_45 : decode cX11_layStrip 45 = .ok (.iload 4, 2) := by decide +kernel
theorem dX11_layStrip_47 : decode cX11_layStrip 47 = .ok (.invokevirtual 136, 3) := by decide +kernel
theorem dX11_layStrip_50 : decode cX11_layStrip 50 = .ok (.i2l, 1) := by decide +kernel
theorem dX11_layStrip_51 : decode cX11_layStrip 51 = .ok (.ldc2_w 159, 3) := by decide +kernel
theorem dX11_layStrip_54 : decode cX11_layStrip 54 = .ok (.aload_n 0, 1) := by decide +kernel
theorem dX11_layStrip_55 : decode cX11_layStrip 55 = .ok (.getfield 7, 3) := by decide +kernel
theorem dX11_layStrip_58 : decode cX11_layStrip 58 = .ok (.iconst 3, 1) := by decide +kernel
theorem dX11_layStrip_59 : decode cX11_layStrip 59 = .ok (.iload 4, 2) := by decide +kernel
theorem dX11_layStrip_61 : decode cX11_layStrip 61 = .ok (.iadd, 1) := by decide +kernel
theorem dX11_layStrip_62 : decode cX11_layStrip 62 = .ok (.iaload, 1) := by decide +kernel
theorem dX11_layStrip_63 : decode cX11_layStrip 63 = .ok (.aload_n 0, 1) := by decide +kernel
theorem dX11_layStrip_64 : decode cX11_layStrip 64 = .ok (.getfield 7, 3) := by decide +kernel
theorem dX11_layStrip_67 : decode cX11_layStrip 67 = .ok (.iconst 3, 1) := by decide +kernel
theorem dX11_layStrip_68 : decode cX11_layStrip 68 = .ok (.iload_n 3, 1) := by decide +kernel
theorem dX11_layStrip_69 : decode cX11_layStrip 69 = .ok (.iadd, 1) := by decide +kernel
theorem dX11_layStrip_70 : decode cX11_layStrip 70 = .ok (.iaload, 1) := by decide +kernel
theorem dX11_layStrip_71 : decode cX11_layStrip 71 = .ok (.isub, 1) := by decide +kernel
theorem dX11_layStrip_72 : decode cX11_layStrip 72 = .ok (.i2l, 1) := by decide +kernel
theorem dX11_layStrip_73 : decode cX11_layStrip 73 = .ok (.lmul, 1) := by decide +kernel
theorem dX11_layStrip_74 : decode cX11_layStrip 74 = .ok (.invokevirtual 161, 3) := by decide +kernel
theorem dX11_layStrip_77 : decode cX11_layStrip 77 = .ok (.iinc 5 1, 3) := by decide +kernel
theorem dX11_layStrip_80 : decode cX11_layStrip 80 = .ok (.goto (-47), 3) := by decide +kernel
theorem dX11_layStrip_83 : decode cX11_layStrip 83 = .ok (.iinc 4 1, 3) := by decide +kernel
theorem dX11_layStrip_86 : decode cX11_layStrip 86 = .ok (.goto (-64), 3) := by decide +kernel
theorem dX11_layStrip_89 : decode cX11_layStrip 89 = .ok (.iinc 3 1, 3) := by decide +kernel
theorem dX11_layStrip_92 : decode cX11_layStrip 92 = .ok (.goto (-80), 3) := by decide +kernel
theorem dX11_layStrip_95 : decode cX11_layStrip 95 = .ok (.return_, 1) := by decide +kernel
theorem dX11_isStrip_0 : decode cX11_isStrip 0 = .ok (.aload_n 0, 1) := by decide +kernel
theorem dX11_isStrip_1 : decode cX11_isStrip 1 = .ok (.iload_n 1, 1) := by decide +kernel
theorem dX11_isStrip_2 : decode cX11_isStrip 2 = .ok (.iload_n 2, 1) := by decide +kernel
theorem dX11_isStrip_3 : decode cX11_isStrip 3 = .ok (.invokevirtual 165, 3) := by decide +kernel
theorem dX11_isStrip_6 : decode cX11_isStrip 6 = .ok (.aload_n 0, 1) := by decide +kernel
theorem dX11_isStrip_7 : decode cX11_isStrip 7 = .ok (.getfield 156, 3) := by decide +kernel
theorem dX11_isStrip_10 : decode cX11_isStrip 10 = .ok (.aload_n 0, 1) := by decide +kernel
theorem dX11_isStrip_11 : decode cX11_isStrip 11 = .ok (.getfield 7, 3) := by decide +kernel
theorem dX11_isStrip_14 : decode cX11_isStrip 14 = .ok (.iconst 1, 1) := by decide +kernel
theorem dX11_isStrip_15 : decode cX11_isStrip 15 = .ok (.iaload, 1) := by decide +kernel
theorem dX11_isStrip_16 : decode cX11_isStrip 16 = .ok (.i2l, 1) := by decide +kernel
theorem dX11_isStrip_17 : decode cX11_isStrip 17 = .ok (.aload_n 0, 1) := by decide +kernel
theorem dX11_isStrip_18 : decode cX11_isStrip 18 = .ok (.getfield 152, 3) := by decide +kernel
theorem dX11_isStrip_21 : decode cX11_isStrip 21 = .ok (.lmul, 1) := by decide +kernel
theorem dX11_isStrip_22 : decode cX11_isStrip 22 = .ok (.lcmp, 1) := by decide +kernel
theorem dX11_isStrip_23 : decode cX11_isStrip 23 = .ok (.ifCond .gt 7, 3) := by decide +kernel
theorem dX11_isStrip_26 : decode cX11_isStrip 26 = .ok (.iconst 1, 1) := by decide +kernel
theorem dX11_isStrip_27 : decode cX11_isStrip 27 = .ok (.goto 4, 3) := by decide +kernel
theorem dX11_isStrip_30 : decode cX11_isStrip 30 = .ok (.iconst 0, 1) := by decide +kernel
theorem dX11_isStrip_31 : decode cX11_isStrip 31 = .ok (.ireturn, 1) := by decide +kernel
theorem dX11_pieces_0 : decode cX11_pieces 0 = .ok (.iconst 0, 1) := by decide +kernel
theorem dX11_pieces_1 : decode cX11_pieces 1 = .ok (.istore_n 1, 1) := by decide +kernel
theorem dX11_pieces_2 : decode cX11_pieces 2 = .ok (.iconst 0, 1) := by decide +kernel
theorem dX11_pieces_3 : decode cX11_pieces 3 = .ok (.istore_n 2, 1) := by decide +kernel
theorem dX11_pieces_4 : decode cX11_pieces 4 = .ok (.iconst 0, 1) := by decide +kernel
theorem dX11_pieces_5 : decode cX11_pieces 5 = .ok (.istore_n 3, 1) := by decide +kernel
theorem dX11_pieces_6 : decode cX11_pieces 6 = .ok (.iload_n 3, 1) := by decide +kernel
theorem dX11_pieces_7 : decode cX11_pieces 7 = .ok (.aload_n 0, 1) := by decide +kernel
theorem dX11_pieces_8 : decode cX11_pieces 8 = .ok (.getfield 7, 3) := by decide +kernel
theorem dX11_pieces_11 : decode cX11_pieces 11 = .ok (.iconst 0, 1) := by decide +kernel
theorem dX11_pieces_12 : decode cX11_pieces 12 = .ok (.iaload, 1) := by decide +kernel
theorem dX11_pieces_13 : decode cX11_pieces 13 = .ok (.if_icmp .ge 67, 3) := by decide +kernel
theorem dX11_pieces_16 : decode cX11_pieces 16 = .ok (.aload_n 0, 1) := by decide +kernel
theorem dX11_pieces_17 : decode cX11_pieces 17 = .ok (.iload_n 3, 1) := by decide +kernel
theorem dX11_pieces_18 : decode cX11_pieces 18 = .ok (.invokevirtual 130, 3) := by decide +kernel
theorem dX11_pieces_21 : decode cX11_pieces 21 = .ok (.ifCond .eq 53, 3) := by decide +kernel
theorem dX11_pieces_24 : decode cX11_pieces 24 = .ok (.aload_n 0, 1) := by decide +kernel
theorem dX11_pieces_25 : decode cX11_pieces 25 = .ok (.iload_n 3, 1) := by decide +kernel
theorem dX11_pieces_26 : decode cX11_pieces 26 = .ok (.invokevirtual 133, 3) := by decide +kernel
theorem dX11_pieces_29 : decode cX11_pieces 29 = .ok (.ifCond .ne 12, 3) := by decide +kernel
theorem dX11_pieces_32 : decode cX11_pieces 32 = .ok (.aload_n 0, 1) := by decide +kernel
theorem dX11_pieces_33 : decode cX11_pieces 33 = .ok (.iload_n 2, 1) := by decide +kernel
theorem dX11_pieces_34 : decode cX11_pieces 34 = .ok (.iload_n 3, 1) := by decide +kernel
theorem dX11_pieces_35 : decode cX11_pieces 35 = .ok (.invokevirtual 169, 3) := by decide +kernel
theorem dX11_pieces_38 : decode cX11_pieces 38 = .ok (.ifCond .ne 7, 3) := by decide +kernel
theorem dX11_pieces_41 : decode cX11_pieces 41 = .ok (.iconst 1, 1) := by decide +kernel
theorem dX11_pieces_42 : decode cX11_pieces 42 = .ok (.goto 4, 3) := by decide +kernel
theorem dX11_pieces_45 : decode cX11_pieces 45 = .ok (.iconst 0, 1) := by decide +kernel
theorem dX11_pieces_46 : decode cX11_pieces 46 = .ok (.istore 4, 2) := by decide +kernel
theorem dX11_pieces_48 : decode cX11_pieces 48 = .ok (.iload 4, 2) := by decide +kernel
theorem dX11_pieces_50 : decode cX11_pieces 50 = .ok (.ifCond .eq 7, 3) := by decide +kernel
theorem dX11_pieces_53 : decode cX11_pieces 53 = .ok (.iload_n 3, 1) := by decide +kernel
theorem dX11_pieces_54 : decode cX11_pieces 54 = .ok (.goto 4, 3) := by decide +kernel
theorem dX11_pieces_57 : decode cX11_pieces 57 = .ok (.iload_n 2, 1) := by decide +kernel
theorem dX11_pieces_58 : decode cX11_pieces 58 = .ok (.istore_n 2, 1) := by decide +kernel
theorem dX11_pieces_59 : decode cX11_pieces 59 = .ok (.iload_n 1, 1) := by decide +kernel
theorem dX11_pieces_60 : decode cX11_pieces 60 = .ok (.iload 4, 2) := by decide +kernel
theorem dX11_pieces_62 : decode cX11_pieces 62 = .ok (.ifCond .eq 9, 3) := by decide +kernel
theorem dX11_pieces_65 : decode cX11_pieces 65 = .ok (.iconst 1, 1) := by decide +kernel
theorem dX11_pieces_66 : decode cX11_pieces 66 = .ok (.iload_n 3, 1) := by decide +kernel
theorem dX11_pieces_67 : decode cX11_pieces 67 = .ok (.ishl, 1) := by decide +kernel
theorem dX11_pieces_68 : decode cX11_pieces 68 = .ok (.goto 4, 3) := by decide +kernel
theorem dX11_pieces_71 : decode cX11_pieces 71 = .ok (.iconst 0, 1) := by decide +kernel
theorem dX11_pieces_72 : decode cX11_pieces 72 = .ok (.ior, 1) := by decide +kernel
theorem dX11_pieces_73 : decode cX11_pieces 73 = .ok (.istore_n 1, 1) := by decide +kernel
theorem dX11_pieces_74 : decode cX11_pieces 74 = .ok (.iinc 3 1, 3) := by decide +kernel
theorem dX11_pieces_77 : decode cX11_pieces 77 = .ok (.goto (-71), 3) := by decide +kernel
theorem dX11_pieces_80 : decode cX11_pieces 80 = .ok (.iload_n 1, 1) := by decide +kernel
theorem dX11_pieces_81 : decode cX11_pieces 81 = .ok (.ireturn, 1) := by decide +kernel
theorem dX11_least_0 : decode cX11_least 0 = .ok (.iconst 0, 1) := by decide +kernel
theorem dX11_least_1 : decode cX11_least 1 = .ok (.istore_n 1, 1) := by decide +kernel
theorem dX11_least_2 : decode cX11_least 2 = .ok (.aload_n 0, 1) := by decide +kernel
theorem dX11_least_3 : decode cX11_least 3 = .ok (.getfield 7, 3) := by decide +kernel
theorem dX11_least_6 : decode cX11_least 6 = .ok (.iconst 0, 1) := by decide +kernel
theorem dX11_least_7 : decode cX11_least 7 = .ok (.iaload, 1) := by decide +kernel
theorem dX11_least_8 : decode cX11_least 8 = .ok (.iconst 1, 1) := by decide +kernel
theorem dX11_least_9 : decode cX11_least 9 = .ok (.isub, 1) := by decide +kernel
theorem dX11_least_10 : decode cX11_least 10 = .ok (.istore_n 2, 1) := by decide +kernel
theorem dX11_least_11 : decode cX11_least 11 = .ok (.iload_n 2, 1) := by decide +kernel
theorem dX11_least_12 : decode cX11_least 12 = .ok (.ifCond .lt 138, 3) := by decide +kernel
theorem dX11_least_15 : decode cX11_least 15 = .ok (.aload_n 0, 1) := by decide +kernel
theorem dX11_least_16 : decode cX11_least 16 = .ok (.getfield 35, 3) := by decide +kernel
theorem dX11_least_19 : decode cX11_least 19 = .ok (.iload_n 2, 1) := by decide +kernel
theorem dX11_least_20 : decode cX11_least 20 = .ok (.iconst 1, 1) := by decide +kernel
theorem dX11_least_21 : decode cX11_least 21 = .ok (.iastore, 1) := by decide +kernel
theorem dX11_least_22 : decode cX11_least 22 = .ok (.aload_n 0, 1) := by decide +kernel
theorem dX11_least_23 : decode cX11_least 23 = .ok (.iload_n 2, 1) := by decide +kernel
theorem dX11_least_24 : decode cX11_least 24 = .ok (.invokevirtual 130, 3) := by decide +kernel
theorem dX11_least_27 : decode cX11_least 27 = .ok (.ifCond .eq 117, 3) := by decide +kernel
theorem dX11_least_30 : decode cX11_least 30 = .ok (.aload_n 0, 1) := by decide +kernel
theorem dX11_least_31 : decode cX11_least 31 = .ok (.iload_n 2, 1) := by decide +kernel
theorem dX11_least_32 : decode cX11_least 32 = .ok (.invokevirtual 140, 3) := by decide +kernel
theorem dX11_least_35 : decode cX11_least 35 = .ok (.ifCond .ne 109, 3) := by decide +kernel
theorem dX11_least_38 : decode cX11_least 38 = .ok (.aload_n 0, 1) := by decide +kernel
theorem dX11_least_39 : decode cX11_least 39 = .ok (.getfield 35, 3) := by decide +kernel
theorem dX11_least_42 : decode cX11_least 42 = .ok (.iload_n 2, 1) := by decide +kernel
theorem dX11_least_43 : decode cX11_least 43 = .ok (.bipush 15, 2) := by decide +kernel
theorem dX11_least_45 : decode cX11_least 45 = .ok (.iastore, 1) := by decide +kernel
theorem dX11_least_46 : decode cX11_least 46 = .ok (.iload_n 2, 1) := by decide +kernel
theorem dX11_least_47 : decode cX11_least 47 = .ok (.iconst 1, 1) := by decide +kernel
theorem dX11_least_48 : decode cX11_least 48 = .ok (.iadd, 1) := by decide +kernel
theorem dX11_least_49 : decode cX11_least 49 = .ok (.istore_n 3, 1) := by decide +kernel
theorem dX11_least_50 : decode cX11_least 50 = .ok (.aload_n 0, 1) := by decide +kernel
theorem dX11_least_51 : decode cX11_least 51 = .ok (.iload_n 3, 1) := by decide +kernel
theorem dX11_least_52 : decode cX11_least 52 = .ok (.invokevirtual 130, 3) := by decide +kernel
theorem dX11_least_55 : decode cX11_least 55 = .ok (.ifCond .eq 89, 3) := by decide +kernel
theorem dX11_least_58 : decode cX11_least 58 = .ok (.aload_n 0, 1) := by decide +kernel
theorem dX11_least_59 : decode cX11_least 59 = .ok (.iload_n 2, 1) := by decide +kernel
theorem dX11_least_60 : decode cX11_least 60 = .ok (.iload_n 3, 1) := by decide +kernel
theorem dX11_least_61 : decode cX11_least 61 = .ok (.aload_n 0, 1) := by decide +kernel
theorem dX11_least_62 : decode cX11_least 62 = .ok (.getfield 7, 3) := by decide +kernel
theorem dX11_least_65 : decode cX11_least 65 = .ok (.iconst 1, 1) := by decide +kernel
theorem dX11_least_66 : decode cX11_least 66 = .ok (.iaload, 1) := by decide +kernel
theorem dX11_least_67 : decode cX11_least 67 = .ok (.invokevirtual 143, 3) := by decide +kernel
theorem dX11_least_70 : decode cX11_least 70 = .ok (.bipush (-9), 2) := by decide +kernel
theorem dX11_least_72 : decode cX11_least 72 = .ok (.if_icmp .ne 24, 3) := by decide +kernel
theorem dX11_least_75 : decode cX11_least 75 = .ok (.aload_n 0, 1) := by decide +kernel
theorem dX11_least_76 : decode cX11_least 76 = .ok (.getfield 35, 3) := by decide +kernel
theorem dX11_least_79 : decode cX11_least 79 = .ok (.iload_n 3, 1) := by decide +kernel
theorem dX11_least_80 : decode cX11_least 80 = .ok (.iaload, 1) := by decide +kernel
theorem dX11_least_81 : decode cX11_least 81 = .ok (.iconst 1, 1) := by decide +kernel
theorem dX11_least_82 : decode cX11_least 82 = .ok (.iadd, 1) := by decide +kernel
theorem dX11_least_83 : decode cX11_least 83 = .ok (.aload_n 0, 1) := by decide +kernel
theorem dX11_least_84 : decode cX11_least 84 = .ok (.getfield 35, 3) := by decide +kernel
theorem dX11_least_87 : decode cX11_least 87 = .ok (.iload_n 2, 1) := by decide +kernel
theorem dX11_least_88 : decode cX11_least 88 = .ok (.iaload, 1) := by decide +kernel
theorem dX11_least_89 : decode cX11_least 89 = .ok (.if_icmp .ge 7, 3) := by decide +kernel
theorem dX11_least_92 : decode cX11_least 92 = .ok (.iconst 1, 1) := by decide +kernel
theorem dX11_least_93 : decode cX11_least 93 = .ok (.goto 4, 3) := by decide +kernel
theorem dX11_least_96 : decode cX11_least 96 = .ok (.iconst 0, 1) := by decide +kernel
theorem dX11_least_97 : decode cX11_least 97 = .ok (.istore 4, 2) := by decide +kernel
theorem dX11_least_99 : decode cX11_least 99 = .ok (.aload_n 0, 1) := by decide +kernel
theorem dX11_least_100 : decode cX11_least 100 = .ok (.getfield 35, 3) := by decide +kernel
theorem dX11_least_103 : decode cX11_least 103 = .ok (.iload_n 2, 1) := by decide +kernel
theorem dX11_least_104 : decode cX11_least 104 = .ok (.iload 4, 2) := by decide +kernel
theorem dX11_least_106 : decode cX11_least 106 = .ok (.ifCond .eq 14, 3) := by decide +kernel
theorem dX11_least_109 : decode cX11_least 109 = .ok (.aload_n 0, 1) := by decide +kernel
theorem dX11_least_110 : decode cX11_least 110 = .ok (.getfield 35, 3) := by decide +kernel
theorem dX11_least_113 : decode cX11_least 113 = .ok (.iload_n 3, 1) := by decide +kernel
theorem dX11_least_114 : decode cX11_least 114 = .ok (.iaload, 1) := by decide +kernel
theorem dX11_least_115 : decode cX11_least 115 = .ok (.iconst 1, 1) := by decide +kernel
theorem dX11_least_116 : decode cX11_least 116 = .ok (.iadd, 1) := by decide +kernel
theorem dX11_least_117 : decode cX11_least 117 = .ok (.goto 9, 3) := by decide +kernel
theorem dX11_least_120 : decode cX11_least 120 = .ok (.aload_n 0, 1) := by decide +kernel
theorem dX11_least_121 : decode cX11_least 121 = .ok (.getfield 35, 3) := by decide +kernel
theorem dX11_least_124 : decode cX11_least 124 = .ok (.iload_n 2, 1) := by decide +kernel
theorem dX11_least_125 : decode cX11_least 125 = .ok (.iaload, 1) := by decide +kernel
theorem dX11_least_126 : decode cX11_least 126 = .ok (.iastore, 1) := by decide +kernel
theorem dX11_least_127 : decode cX11_least 127 = .ok (.aload_n 0, 1) := by decide +kernel
theorem dX11_least_128 : decode cX11_least 128 = .ok (.iload_n 3, 1) := by decide +kernel
theorem dX11_least_129 : decode cX11_least 129 = .ok (.invokevirtual 140, 3) := by decide +kernel
theorem dX11_least_132 : decode cX11_least 132 = .ok (.ifCond .eq 6, 3) := by decide +kernel
theorem dX11_least_135 : decode cX11_least 135 = .ok (.goto 9, 3) := by decide +kernel
theorem dX11_least_138 : decode cX11_least 138 = .ok (.iinc 3 1, 3) := by decide +kernel
theorem dX11_least_141 : decode cX11_least 141 = .ok (.goto (-91), 3) := by decide +kernel
theorem dX11_least_144 : decode cX11_least 144 = .ok (.iinc 2 (-1), 3) := by decide +kernel
theorem dX11_least_147 : decode cX11_least 147 = .ok (.goto (-136), 3) := by decide +kernel
theorem dX11_least_150 : decode cX11_least 150 = .ok (.iconst 0, 1) := by decide +kernel
theorem dX11_least_151 : decode cX11_least 151 = .ok (.istore_n 2, 1) := by decide +kernel
theorem dX11_least_152 : decode cX11_least 152 = .ok (.iload_n 2, 1) := by decide +kernel
theorem dX11_least_153 : decode cX11_least 153 = .ok (.aload_n 0, 1) := by decide +kernel
theorem dX11_least_154 : decode cX11_least 154 = .ok (.getfield 7, 3) := by decide +kernel
theorem dX11_least_157 : decode cX11_least 157 = .ok (.iconst 0, 1) := by decide +kernel
theorem dX11_least_158 : decode cX11_least 158 = .ok (.iaload, 1) := by decide +kernel
theorem dX11_least_159 : decode cX11_least 159 = .ok (.if_icmp .ge 92, 3) := by decide +kernel
theorem dX11_least_162 : decode cX11_least 162 = .ok (.aload_n 0, 1) := by decide +kernel
theorem dX11_least_163 : decode cX11_least 163 = .ok (.iload_n 2, 1) := by decide +kernel
theorem dX11_least_164 : decode cX11_least 164 = .ok (.invokevirtual 133, 3) := by decide +kernel
theorem dX11_least_167 : decode cX11_least 167 = .ok (.ifCond .eq 78, 3) := by decide +kernel
theorem dX11_least_170 : decode cX11_least 170 = .ok (.iload_n 2, 1) := by decide +kernel
theorem dX11_least_171 : decode cX11_least 171 = .ok (.istore_n 3, 1) := by decide +kernel
theorem dX11_least_172 : decode cX11_least 172 = .ok (.iload_n 1, 1) := by decide +kernel
theorem dX11_least_173 : decode cX11_least 173 = .ok (.iconst 1, 1) := by decide +kernel
theorem dX11_least_174 : decode cX11_least 174 = .ok (.iload_n 3, 1) := by decide +kernel
theorem dX11_least_175 : decode cX11_least 175 = .ok (.ishl, 1) := by decide +kernel
theorem dX11_least_176 : decode cX11_least 176 = .ok (.ior, 1) := by decide +kernel
theorem dX11_least_177 : decode cX11_least 177 = .ok (.istore_n 1, 1) := by decide +kernel
theorem dX11_least_178 : decode cX11_least 178 = .ok (.aload_n 0, 1) := by decide +kernel
theorem dX11_least_179 : decode cX11_least 179 = .ok (.iload_n 3, 1) := by decide +kernel
theorem dX11_least_180 : decode cX11_least 180 = .ok (.invokevirtual 140, 3) := by decide +kernel
theorem dX11_least_183 : decode cX11_least 183 = .ok (.ifCond .ne 62, 3) := by decide +kernel
theorem dX11_least_186 : decode cX11_least 186 = .ok (.iload_n 3, 1) := by decide +kernel
theorem dX11_least_187 : decode cX11_least 187 = .ok (.iconst 1, 1) := by decide +kernel
theorem dX11_least_188 : decode cX11_least 188 = .ok (.iadd, 1) := by decide +kernel
theorem dX11_least_189 : decode cX11_least 189 = .ok (.istore 4, 2) := by decide +kernel
theorem dX11_least_191 : decode cX11_least 191 = .ok (.aload_n 0, 1) := by decide +kernel
theorem dX11_least_192 : decode cX11_least 192 = .ok (.iload_n 3, 1) := by decide +kernel
theorem dX11_least_193 : decode cX11_least 193 = .ok (.iload 4, 2) := by decide +kernel
theorem dX11_least_195 : decode cX11_least 195 = .ok (.aload_n 0, 1) := by decide +kernel
theorem dX11_least_196 : decode cX11_least 196 = .ok (.getfield 7, 3) := by decide +kernel
theorem dX11_least_199 : decode cX11_least 199 = .ok (.iconst 1, 1) := by decide +kernel
theorem dX11_least_200 : decode cX11_least 200 = .ok (.iaload, 1) := by decide +kernel
theorem dX11_least_201 : decode cX11_least 201 = .ok (.invokevirtual 143, 3) := by decide +kernel
theorem dX11_least_204 : decode cX11_least 204 = .ok (.bipush (-9), 2) := by decide +kernel
theorem dX11_least_206 : decode cX11_least 206 = .ok (.if_icmp .ne 21, 3) := by decide +kernel
theorem dX11_least_209 : decode cX11_least 209 = .ok (.aload_n 0, 1) := by decide +kernel
theorem dX11_least_210 : decode cX11_least 210 = .ok (.getfield 35, 3) := by decide +kernel
theorem dX11_least_213 : decode cX11_least 213 = .ok (.iload 4, 2) := by decide +kernel
theorem dX11_least_215 : decode cX11_least 215 = .ok (.iaload, 1) := by decide +kernel
theorem dX11_least_216 : decode cX11_least 216 = .ok (.iconst 1, 1) := by decide +kernel
theorem dX11_least_217 : decode cX11_least 217 = .ok (.iadd, 1) := by decide +kernel
theorem dX11_least_218 : decode cX11_least 218 = .ok (.aload_n 0, 1) := by decide +kernel
theorem dX11_least_219 : decode cX11_least 219 = .ok (.getfield 35, 3) := by decide +kernel
theorem dX11_least_222 : decode cX11_least 222 = .ok (.iload_n 3, 1) := by decide +kernel
theorem dX11_least_223 : decode cX11_least 223 = .ok (.iaload, 1) := by decide +kernel
theorem dX11_least_224 : decode cX11_least 224 = .ok (.if_icmp .eq 9, 3) := by decide +kernel
theorem dX11_least_227 : decode cX11_least 227 = .ok (.iinc 4 1, 3) := by decide +kernel
theorem dX11_least_230 : decode cX11_least 230 = .ok (.goto (-39), 3) := by decide +kernel
theorem dX11_least_233 : decode cX11_least 233 = .ok (.iload 4, 2) := by decide +kernel
theorem dX11_least_235 : decode cX11_least 235 = .ok (.istore_n 3, 1) := by decide +kernel
theorem dX11_least_236 : decode cX11_least 236 = .ok (.iload_n 1, 1) := by decide +kernel
theorem dX11_least_237 : decode cX11_least 237 = .ok (.iconst 1, 1) := by decide +kernel
theorem dX11_least_238 : decode cX11_least 238 = .ok (.iload_n 3, 1) := by decide +kernel
theorem dX11_least_239 : decode cX11_least 239 = .ok (.ishl, 1) := by decide +kernel
theorem dX11_least_240 : decode cX11_least 240 = .ok (.ior, 1) := by decide +kernel
theorem dX11_least_241 : decode cX11_least 241 = .ok (.istore_n 1, 1) := by decide +kernel
theorem dX11_least_242 : decode cX11_least 242 = .ok (.goto (-64), 3) := by decide +kernel
theorem dX11_least_245 : decode cX11_least 245 = .ok (.iinc 2 1, 3) := by decide +kernel
theorem dX11_least_248 : decode cX11_least 248 = .ok (.goto (-96), 3) := by decide +kernel
theorem dX11_least_251 : decode cX11_least 251 = .ok (.iload_n 1, 1) := by decide +kernel
theorem dX11_least_252 : decode cX11_least 252 = .ok (.ireturn, 1) := by decide +kernel
theorem dX11_reading_0 : decode cX11_reading 0 = .ok (.aload_n 0, 1) := by decide +kernel
theorem dX11_reading_1 : decode cX11_reading 1 = .ok (.iload_n 1, 1) := by decide +kernel
theorem dX11_reading_2 : decode cX11_reading 2 = .ok (.invokevirtual 113, 3) := by decide +kernel
theorem dX11_reading_5 : decode cX11_reading 5 = .ok (.ifCond .eq 13, 3) := by decide +kernel
theorem dX11_reading_8 : decode cX11_reading 8 = .ok (.iload_n 2, 1) := by decide +kernel
theorem dX11_reading_9 : decode cX11_reading 9 = .ok (.iconst 0, 1) := by decide +kernel
theorem dX11_reading_10 : decode cX11_reading 10 = .ok (.bipush 6, 2) := by decide +kernel
theorem dX11_reading_12 : decode cX11_reading 12 = .ok (.invokestatic 48, 3) := by decide +kernel
theorem dX11_reading_15 : decode cX11_reading 15 = .ok (.ifCond .ne 5, 3) := by decide +kernel
theorem dX11_reading_18 : decode cX11_reading 18 = .ok (.iconst (-1), 1) := by decide +kernel
theorem dX11_reading_19 : decode cX11_reading 19 = .ok (.ireturn, 1) := by decide +kernel
theorem dX11_reading_20 : decode cX11_reading 20 = .ok (.aload_n 0, 1) := by decide +kernel
theorem dX11_reading_21 : decode cX11_reading 21 = .ok (.iload_n 1, 1) := by decide +kernel
theorem dX11_reading_22 : decode cX11_reading 22 = .ok (.invokevirtual 130, 3) := by decide +kernel
theorem dX11_reading_25 : decode cX11_reading 25 = .ok (.istore_n 3, 1) := by decide +kernel
theorem dX11_reading_26 : decode cX11_reading 26 = .ok (.iload_n 2, 1) := by decide +kernel
theorem dX11_reading_27 : decode cX11_reading 27 = .ok (.iconst 4, 1) := by decide +kernel
theorem dX11_reading_28 : decode cX11_reading 28 = .ok (.if_icmp .eq 8, 3) := by decide +kernel
theorem dX11_reading_31 : decode cX11_reading 31 = .ok (.iload_n 2, 1) := by decide +kernel
theorem dX11_reading_32 : decode cX11_reading 32 = .ok (.iconst 5, 1) := by decide +kernel
theorem dX11_reading_33 : decode cX11_reading 33 = .ok (.if_icmp .ne 16, 3) := by decide +kernel
theorem dX11_reading_36 : decode cX11_reading 36 = .ok (.aload_n 0, 1) := by decide +kernel
theorem dX11_reading_37 : decode cX11_reading 37 = .ok (.aload_n 0, 1) := by decide +kernel
theorem dX11_reading_38 : decode cX11_reading 38 = .ok (.getfield 7, 3) := by decide +kernel
theorem dX11_reading_41 : decode cX11_reading 41 = .ok (.iconst 1, 1) := by decide +kernel
theorem dX11_reading_42 : decode cX11_reading 42 = .ok (.iaload, 1) := by decide +kernel
theorem dX11_reading_43 : decode cX11_reading 43 = .ok (.invokevirtual 172, 3) := by decide +kernel
theorem dX11_reading_46 : decode cX11_reading 46 = .ok (.goto 29, 3) := by decide +kernel
theorem dX11_reading_49 : decode cX11_reading 49 = .ok (.iload_n 2, 1) := by decide +kernel
theorem dX11_reading_50 : decode cX11_reading 50 = .ok (.bipush 6, 2) := by decide +kernel
theorem dX11_reading_52 : decode cX11_reading 52 = .ok (.if_icmp .ne 10, 3) := by decide +kernel
theorem dX11_reading_55 : decode cX11_reading 55 = .ok (.aload_n 0, 1) := by decide +kernel
theorem dX11_reading_56 : decode cX11_reading 56 = .ok (.invokevirtual 176, 3) := by decide +kernel
theorem dX11_reading_59 : decode cX11_reading 59 = .ok (.goto 16, 3) := by decide +kernel
theorem dX11_reading_62 : decode cX11_reading 62 = .ok (.iload_n 2, 1) := by decide +kernel
theorem dX11_reading_63 : decode cX11_reading 63 = .ok (.iconst 3, 1) := by decide +kernel
theorem dX11_reading_64 : decode cX11_reading 64 = .ok (.if_icmp .ne 10, 3) := by decide +kernel
theorem dX11_reading_67 : decode cX11_reading 67 = .ok (.aload_n 0, 1) := by decide +kernel
theorem dX11_reading_68 : decode cX11_reading 68 = .ok (.invokevirtual 180, 3) := by decide +kernel
theorem dX11_reading_71 : decode cX11_reading 71 = .ok (.goto 4, 3) := by decide +kernel
theorem dX11_reading_74 : decode cX11_reading 74 = .ok (.iconst 0, 1) := by decide +kernel
theorem dX11_reading_75 : decode cX11_reading 75 = .ok (.istore 4, 2) := by decide +kernel
theorem dX11_reading_77 : decode cX11_reading 77 = .ok (.iload_n 2, 1) := by decide +kernel
theorem dX11_reading_78 : decode cX11_reading 78 = .ok (.tableswitch 108 0 5 #[38, 47, 57, 63, 108, 86], 38) := by decide +kernel
theorem dX11_reading_116 : decode cX11_reading 116 = .ok (.aload_n 0, 1) := by decide +kernel
theorem dX11_reading_117 : decode cX11_reading 117 = .ok (.getfield 7, 3) := by decide +kernel
theorem dX11_reading_120 : decode cX11_reading 120 = .ok (.iconst 3, 1) := by decide +kernel
theorem dX11_reading_121 : decode cX11_reading 121 = .ok (.iload_n 1, 1) := by decide +kernel
theorem dX11_reading_122 : decode cX11_reading 122 = .ok (.iadd, 1) := by decide +kernel
theorem dX11_reading_123 : decode cX11_reading 123 = .ok (.iaload, 1) := by decide +kernel
theorem dX11_reading_124 : decode cX11_reading 124 = .ok (.ireturn, 1) := by decide +kernel
theorem dX11_reading_125 : decode cX11_reading 125 = .ok (.aload_n 0, 1) := by decide +kernel
theorem dX11_reading_126 : decode cX11_reading 126 = .ok (.getfield 7, 3) := by decide +kernel
theorem dX11_reading_129 : decode cX11_reading 129 = .ok (.bipush 17, 2) := by decide +kernel
theorem dX11_reading_131 : decode cX11_reading 131 = .ok (.iload_n 1, 1) := by decide +kernel
theorem dX11_reading_132 : decode cX11_reading 132 = .ok (.iadd, 1) := by decide +kernel
theorem dX11_reading_133 : decode cX11_reading 133 = .ok (.iaload, 1) := by decide +kernel
theorem dX11_reading_134 : decode cX11_reading 134 = .ok (.ireturn, 1) := by decide +kernel
theorem dX11_reading_135 : decode cX11_reading 135 = .ok (.aload_n 0, 1) := by decide +kernel
theorem dX11_reading_136 : decode cX11_reading 136 = .ok (.iload_n 1, 1) := by decide +kernel
theorem dX11_reading_137 : decode cX11_reading 137 = .ok (.invokevirtual 183, 3) := by decide +kernel
theorem dX11_reading_140 : decode cX11_reading 140 = .ok (.ireturn, 1) := by decide +kernel
theorem dX11_reading_141 : decode cX11_reading 141 = .ok (.iload_n 3, 1) := by decide +kernel
theorem dX11_reading_142 : decode cX11_reading 142 = .ok (.ifCond .eq 19, 3) := by decide +kernel
theorem dX11_reading_145 : decode cX11_reading 145 = .ok (.iload 4, 2) := by decide +kernel
theorem dX11_reading_147 : decode cX11_reading 147 = .ok (.iconst 2, 1) := by decide +kernel
theorem dX11_reading_148 : decode cX11_reading 148 = .ok (.iload_n 1, 1) := by decide +kernel
theorem dX11_reading_149 : decode cX11_reading 149 = .ok (.ishl, 1) := by decide +kernel
theorem dX11_reading_150 : decode cX11_reading 150 = .ok (.iconst 1, 1) := by decide +kernel
theorem dX11_reading_151 : decode cX11_reading 151 = .ok (.isub, 1) := by decide +kernel
theorem dX11_reading_152 : decode cX11_reading 152 = .ok (.iand, 1) := by decide +kernel
theorem dX11_reading_153 : decode cX11_reading 153 = .ok (.invokestatic 186, 3) := by decide +kernel
theorem dX11_reading_156 : decode cX11_reading 156 = .ok (.iconst 1, 1) := by decide +kernel
theorem dX11_reading_157 : decode cX11_reading 157 = .ok (.isub, 1) := by decide +kernel
theorem dX11_reading_158 : decode cX11_reading 158 = .ok (.goto 5, 3) := by decide +kernel
theorem dX11_reading_161 : decode cX11_reading 161 = .ok (.bipush (-9), 2) := by decide +kernel
theorem dX11_reading_163 : decode cX11_reading 163 = .ok (.ireturn, 1) := by decide +kernel
theorem dX11_reading_164 : decode cX11_reading 164 = .ok (.iload 4, 2) := by decide +kernel
theorem dX11_reading_166 : decode cX11_reading 166 = .ok (.iload_n 1, 1) := by decide +kernel
theorem dX11_reading_167 : decode cX11_reading 167 = .ok (.invokestatic 87, 3) := by decide +kernel
theorem dX11_reading_170 : decode cX11_reading 170 = .ok (.ifCond .eq 13, 3) := by decide +kernel
theorem dX11_reading_173 : decode cX11_reading 173 = .ok (.aload_n 0, 1) := by decide +kernel
theorem dX11_reading_174 : decode cX11_reading 174 = .ok (.iload 4, 2) := by decide +kernel
theorem dX11_reading_176 : decode cX11_reading 176 = .ok (.iload_n 1, 1) := by decide +kernel
theorem dX11_reading_177 : decode cX11_reading 177 = .ok (.invokevirtual 189, 3) := by decide +kernel
theorem dX11_reading_180 : decode cX11_reading 180 = .ok (.goto 5, 3) := by decide +kernel
theorem dX11_reading_183 : decode cX11_reading 183 = .ok (.bipush (-9), 2) := by decide +kernel
theorem dX11_reading_185 : decode cX11_reading 185 = .ok (.ireturn, 1) := by decide +kernel
theorem dX11_reading_186 : decode cX11_reading 186 = .ok (.iload 4, 2) := by decide +kernel
theorem dX11_reading_188 : decode cX11_reading 188 = .ok (.iload_n 1, 1) := by decide +kernel
theorem dX11_reading_189 : decode cX11_reading 189 = .ok (.invokestatic 87, 3) := by decide +kernel
theorem dX11_reading_192 : decode cX11_reading 192 = .ok (.ifCond .eq 7, 3) := by decide +kernel
theorem dX11_reading_195 : decode cX11_reading 195 = .ok (.iconst 1, 1) := by decide +kernel
theorem dX11_reading_196 : decode cX11_reading 196 = .ok (.goto 4, 3) := by decide +kernel
theorem dX11_reading_199 : decode cX11_reading 199 = .ok (.iconst 0, 1) := by decide +kernel
theorem dX11_reading_200 : decode cX11_reading 200 = .ok (.ireturn, 1) := by decide +kernel
theorem dX11_isSide_0 : decode cX11_isSide 0 = .ok (.aload_n 0, 1) := by decide +kernel
theorem dX11_isSide_1 : decode cX11_isSide 1 = .ok (.iload_n 1, 1) := by decide +kernel
theorem dX11_isSide_2 : decode cX11_isSide 2 = .ok (.invokevirtual 130, 3) := by decide +kernel
theorem dX11_isSide_5 : decode cX11_isSide 5 = .ok (.ifCond .eq 28, 3) := by decide +kernel
theorem dX11_isSide_8 : decode cX11_isSide 8 = .ok (.aload_n 0, 1) := by decide +kernel
theorem dX11_isSide_9 : decode cX11_isSide 9 = .ok (.iload_n 2, 1) := by decide +kernel
theorem dX11_isSide_10 : decode cX11_isSide 10 = .ok (.invokevirtual 130, 3) := by decide +kernel
theorem dX11_isSide_13 : decode cX11_isSide 13 = .ok (.ifCond .eq 20, 3) := by decide +kernel
theorem dX11_isSide_16 : decode cX11_isSide 16 = .ok (.aload_n 0, 1) := by decide +kernel
theorem dX11_isSide_17 : decode cX11_isSide 17 = .ok (.iload_n 1, 1) := by decide +kernel
theorem dX11_isSide_18 : decode cX11_isSide 18 = .ok (.invokevirtual 183, 3) := by decide +kernel
theorem dX11_isSide_21 : decode cX11_isSide 21 = .ok (.aload_n 0, 1) := by decide +kernel
theorem dX11_isSide_22 : decode cX11_isSide 22 = .ok (.iload_n 2, 1) := by decide +kernel
theorem dX11_isSide_23 : decode cX11_isSide 23 = .ok (.invokevirtual 183, 3) := by decide +kernel
theorem dX11_isSide_26 : decode cX11_isSide 26 = .ok (.if_icmp .ne 7, 3) := by decide +kernel
theorem dX11_isSide_29 : decode cX11_isSide 29 = .ok (.iconst 1, 1) := by decide +kernel
theorem dX11_isSide_30 : decode cX11_isSide 30 = .ok (.goto 4, 3) := by decide +kernel
theorem dX11_isSide_33 : decode cX11_isSide 33 = .ok (.iconst 0, 1) := by decide +kernel
theorem dX11_isSide_34 : decode cX11_isSide 34 = .ok (.ireturn, 1) := by decide +kernel
theorem dX11_lowest_0 : decode cX11_lowest 0 = .ok (.lload_n 0, 1) := by decide +kernel
theorem dX11_lowest_1 : decode cX11_lowest 1 = .ok (.lstore 5, 2) := by decide +kernel
theorem dX11_lowest_3 : decode cX11_lowest 3 = .ok (.lload_n 2, 1) := by decide +kernel
theorem dX11_lowest_4 : decode cX11_lowest 4 = .ok (.lstore 7, 2) := by decide +kernel
theorem dX11_lowest_6 : decode cX11_lowest 6 = .ok (.lload 7, 2) := by decide +kernel
theorem dX11_lowest_8 : decode cX11_lowest 8 = .ok (.lconst 0, 1) := by decide +kernel
theorem dX11_lowest_9 : decode cX11_lowest 9 = .ok (.lcmp, 1) := by decide +kernel
theorem dX11_lowest_10 : decode cX11_lowest 10 = .ok (.ifCond .eq 21, 3) := by decide +kernel
theorem dX11_lowest_13 : decode cX11_lowest 13 = .ok (.lload 5, 2) := by decide +kernel
theorem dX11_lowest_15 : decode cX11_lowest 15 = .ok (.lload 7, 2) := by decide +kernel
theorem dX11_lowest_17 : decode cX11_lowest 17 = .ok (.lrem, 1) := by decide +kernel
theorem dX11_lowest_18 : decode cX11_lowest 18 = .ok (.lstore 9, 2) := by decide +kernel
theorem dX11_lowest_20 : decode cX11_lowest 20 = .ok (.lload 7, 2) := by decide +kernel
theorem dX11_lowest_22 : decode cX11_lowest 22 = .ok (.lstore 5, 2) := by decide +kernel
theorem dX11_lowest_24 : decode cX11_lowest 24 = .ok (.lload 9, 2) := by decide +kernel
theorem dX11_lowest_26 : decode cX11_lowest 26 = .ok (.lstore 7, 2) := by decide +kernel
theorem dX11_lowest_28 : decode cX11_lowest 28 = .ok (.goto (-22), 3) := by decide +kernel
theorem dX11_lowest_31 : decode cX11_lowest 31 = .ok (.iload 4, 2) := by decide +kernel
theorem dX11_lowest_33 : decode cX11_lowest 33 = .ok (.ifCond .eq 10, 3) := by decide +kernel
theorem dX11_lowest_36 : decode cX11_lowest 36 = .ok (.lload_n 0, 1) := by decide +kernel
theorem dX11_lowest_37 : decode cX11_lowest 37 = .ok (.lload 5, 2) := by decide +kernel
theorem dX11_lowest_39 : decode cX11_lowest 39 = .ok (.ldiv, 1) := by decide +kernel
theorem dX11_lowest_40 : decode cX11_lowest 40 = .ok (.goto 7, 3) := by decide +kernel
theorem dX11_lowest_43 : decode cX11_lowest 43 = .ok (.lload_n 2, 1) := by decide +kernel
theorem dX11_lowest_44 : decode cX11_lowest 44 = .ok (.lload 5, 2) := by decide +kernel
theorem dX11_lowest_46 : decode cX11_lowest 46 = .ok (.ldiv, 1) := by decide +kernel
theorem dX11_lowest_47 : decode cX11_lowest 47 = .ok (.l2i, 1) := by decide +kernel
theorem dX11_lowest_48 : decode cX11_lowest 48 = .ok (.ireturn, 1) := by decide +kernel
theorem dX11_apart_0 : decode cX11_apart 0 = .ok (.aload_n 0, 1) := by decide +kernel
theorem dX11_apart_1 : decode cX11_apart 1 = .ok (.iload_n 1, 1) := by decide +kernel
theorem dX11_apart_2 : decode cX11_apart 2 = .ok (.iload_n 2, 1) := by decide +kernel
theorem dX11_apart_3 : decode cX11_apart 3 = .ok (.invokevirtual 192, 3) := by decide +kernel
theorem dX11_apart_6 : decode cX11_apart 6 = .ok (.ifCond .eq 17, 3) := by decide +kernel
theorem dX11_apart_9 : decode cX11_apart 9 = .ok (.iload_n 1, 1) := by decide +kernel
theorem dX11_apart_10 : decode cX11_apart 10 = .ok (.iload_n 2, 1) := by decide +kernel
theorem dX11_apart_11 : decode cX11_apart 11 = .ok (.if_icmp .ge 12, 3) := by decide +kernel
theorem dX11_apart_14 : decode cX11_apart 14 = .ok (.iload_n 3, 1) := by decide +kernel
theorem dX11_apart_15 : decode cX11_apart 15 = .ok (.iconst 0, 1) := by decide +kernel
theorem dX11_apart_16 : decode cX11_apart 16 = .ok (.iconst 2, 1) := by decide +kernel
theorem dX11_apart_17 : decode cX11_apart 17 = .ok (.invokestatic 48, 3) := by decide +kernel
theorem dX11_apart_20 : decode cX11_apart 20 = .ok (.ifCond .ne 5, 3) := by decide +kernel
theorem dX11_apart_23 : decode cX11_apart 23 = .ok (.iconst (-1), 1) := by decide +kernel
theorem dX11_apart_24 : decode cX11_apart 24 = .ok (.ireturn, 1) := by decide +kernel
theorem dX11_apart_25 : decode cX11_apart 25 = .ok (.bipush (-9), 2) := by decide +kernel
theorem dX11_apart_27 : decode cX11_apart 27 = .ok (.istore 4, 2) := by decide +kernel
theorem dX11_apart_29 : decode cX11_apart 29 = .ok (.iconst (-1), 1) := by decide +kernel
theorem dX11_apart_30 : decode cX11_apart 30 = .ok (.istore 5, 2) := by decide +kernel
theorem dX11_apart_32 : decode cX11_apart 32 = .ok (.iload_n 1, 1) := by decide +kernel
theorem dX11_apart_33 : decode cX11_apart 33 = .ok (.iconst 1, 1) := by decide +kernel
theorem dX11_apart_34 : decode cX11_apart 34 = .ok (.iadd, 1) := by decide +kernel
theorem dX11_apart_35 : decode cX11_apart 35 = .ok (.istore 6, 2) := by decide +kernel
theorem dX11_apart_37 : decode cX11_apart 37 = .ok (.iload 6, 2) := by decide +kernel
theorem dX11_apart_39 : decode cX11_apart 39 = .ok (.iload_n 2, 1) := by decide +kernel
theorem dX11_apart_40 : decode cX11_apart 40 = .ok (.if_icmp .ge 51, 3) := by decide +kernel
theorem dX11_apart_43 : decode cX11_apart 43 = .ok (.aload_n 0, 1) := by decide +kernel
theorem dX11_apart_44 : decode cX11_apart 44 = .ok (.iload_n 1, 1) := by decide +kernel
theorem dX11_apart_45 : decode cX11_apart 45 = .ok (.iload 6, 2) := by decide +kernel
theorem dX11_apart_47 : decode cX11_apart 47 = .ok (.iload_n 2, 1) := by decide +kernel
theorem dX11_apart_48 : decode cX11_apart 48 = .ok (.invokevirtual 136, 3) := by decide +kernel
theorem dX11_apart_51 : decode cX11_apart 51 = .ok (.istore 7, 2) := by decide +kernel
theorem dX11_apart_53 : decode cX11_apart 53 = .ok (.iload 7, 2) := by decide +kernel
theorem dX11_apart_55 : decode cX11_apart 55 = .ok (.iload 5, 2) := by decide +kernel
theorem dX11_apart_57 : decode cX11_apart 57 = .ok (.if_icmp .le 8, 3) := by decide +kernel
theorem dX11_apart_60 : decode cX11_apart 60 = .ok (.iload 6, 2) := by decide +kernel
theorem dX11_apart_62 : decode cX11_apart 62 = .ok (.goto 5, 3) := by decide +kernel
theorem dX11_apart_65 : decode cX11_apart 65 = .ok (.iload 4, 2) := by decide +kernel
theorem dX11_apart_67 : decode cX11_apart 67 = .ok (.istore 4, 2) := by decide +kernel
theorem dX11_apart_69 : decode cX11_apart 69 = .ok (.iload 7, 2) := by decide +kernel
theorem dX11_apart_71 : decode cX11_apart 71 = .ok (.iload 5, 2) := by decide +kernel
theorem dX11_apart_73 : decode cX11_apart 73 = .ok (.if_icmp .le 8, 3) := by decide +kernel
theorem dX11_apart_76 : decode cX11_apart 76 = .ok (.iload 7, 2) := by decide +kernel
theorem dX11_apart_78 : decode cX11_apart 78 = .ok (.goto 5, 3) := by decide +kernel
theorem dX11_apart_81 : decode cX11_apart 81 = .ok (.iload 5, 2) := by decide +kernel
theorem dX11_apart_83 : decode cX11_apart 83 = .ok (.istore 5, 2) := by decide +kernel
theorem dX11_apart_85 : decode cX11_apart 85 = .ok (.iinc 6 1, 3) := by decide +kernel
theorem dX11_apart_88 : decode cX11_apart 88 = .ok (.goto (-51), 3) := by decide +kernel
theorem dX11_apart_91 : decode cX11_apart 91 = .ok (.iload 4, 2) := by decide +kernel
theorem dX11_apart_93 : decode cX11_apart 93 = .ok (.bipush (-9), 2) := by decide +kernel
theorem dX11_apart_95 : decode cX11_apart 95 = .ok (.if_icmp .eq 8, 3) := by decide +kernel
theorem dX11_apart_98 : decode cX11_apart 98 = .ok (.iload_n 3, 1) := by decide +kernel
theorem dX11_apart_99 : decode cX11_apart 99 = .ok (.iconst 2, 1) := by decide +kernel
theorem dX11_apart_100 : decode cX11_apart 100 = .ok (.if_icmp .ne 8, 3) := by decide +kernel
theorem dX11_apart_103 : decode cX11_apart 103 = .ok (.iload 4, 2) := by decide +kernel
theorem dX11_apart_105 : decode cX11_apart 105 = .ok (.goto 36, 3) := by decide +kernel
theorem dX11_apart_108 : decode cX11_apart 108 = .ok (.iload 5, 2) := by decide +kernel
theorem dX11_apart_110 : decode cX11_apart 110 = .ok (.i2l, 1) := by decide +kernel
theorem dX11_apart_111 : decode cX11_apart 111 = .ok (.aload_n 0, 1) := by decide +kernel
theorem dX11_apart_112 : decode cX11_apart 112 = .ok (.getfield 7, 3) := by decide +kernel
theorem dX11_apart_115 : decode cX11_apart 115 = .ok (.iconst 3, 1) := by decide +kernel
theorem dX11_apart_116 : decode cX11_apart 116 = .ok (.iload_n 2, 1) := by decide +kernel
theorem dX11_apart_117 : decode cX11_apart 117 = .ok (.iadd, 1) := by decide +kernel
theorem dX11_apart_118 : decode cX11_apart 118 = .ok (.iaload, 1) := by decide +kernel
theorem dX11_apart_119 : decode cX11_apart 119 = .ok (.aload_n 0, 1) := by decide +kernel
theorem dX11_apart_120 : decode cX11_apart 120 = .ok (.getfield 7, 3) := by decide +kernel
theorem dX11_apart_123 : decode cX11_apart 123 = .ok (.iconst 3, 1) := by decide +kernel
theorem dX11_apart_124 : decode cX11_apart 124 = .ok (.iload_n 1, 1) := by decide +kernel
theorem dX11_apart_125 : decode cX11_apart 125 = .ok (.iadd, 1) := by decide +kernel
theorem dX11_apart_126 : decode cX11_apart 126 = .ok (.iaload, 1) := by decide +kernel
theorem dX11_apart_127 : decode cX11_apart 127 = .ok (.isub, 1) := by decide +kernel
theorem dX11_apart_128 : decode cX11_apart 128 = .ok (.i2l, 1) := by decide +kernel
theorem dX11_apart_129 : decode cX11_apart 129 = .ok (.iload_n 3, 1) := by decide +kernel
theorem dX11_apart_130 : decode cX11_apart 130 = .ok (.ifCond .ne 7, 3) := by decide +kernel
theorem dX11_apart_133 : decode cX11_apart 133 = .ok (.iconst 1, 1) := by decide +kernel
theorem dX11_apart_134 : decode cX11_apart 134 = .ok (.goto 4, 3) := by decide +kernel
theorem dX11_apart_137 : decode cX11_apart 137 = .ok (.iconst 0, 1) := by decide +kernel
theorem dX11_apart_138 : decode cX11_apart 138 = .ok (.invokestatic 195, 3) := by decide +kernel
theorem dX11_apart_141 : decode cX11_apart 141 = .ok (.ireturn, 1) := by decide +kernel
theorem dX11_why_0 : decode cX11_why 0 = .ok (.aload_n 0, 1) := by decide +kernel
theorem dX11_why_1 : decode cX11_why 1 = .ok (.iload_n 1, 1) := by decide +kernel
theorem dX11_why_2 : decode cX11_why 2 = .ok (.iload_n 2, 1) := by decide +kernel
theorem dX11_why_3 : decode cX11_why 3 = .ok (.invokevirtual 192, 3) := by decide +kernel
theorem dX11_why_6 : decode cX11_why 6 = .ok (.ifCond .eq 23, 3) := by decide +kernel
theorem dX11_why_9 : decode cX11_why 9 = .ok (.iload_n 1, 1) := by decide +kernel
theorem dX11_why_10 : decode cX11_why 10 = .ok (.iload_n 2, 1) := by decide +kernel
theorem dX11_why_11 : decode cX11_why 11 = .ok (.if_icmp .ge 18, 3) := by decide +kernel
theorem dX11_why_14 : decode cX11_why 14 = .ok (.aload_n 0, 1) := by decide +kernel
theorem dX11_why_15 : decode cX11_why 15 = .ok (.iload_n 1, 1) := by decide +kernel
theorem dX11_why_16 : decode cX11_why 16 = .ok (.iload_n 2, 1) := by decide +kernel
theorem dX11_why_17 : decode cX11_why 17 = .ok (.aload_n 0, 1) := by decide +kernel
theorem dX11_why_18 : decode cX11_why 18 = .ok (.getfield 7, 3) := by decide +kernel
theorem dX11_why_21 : decode cX11_why 21 = .ok (.iconst 1, 1) := by decide +kernel
theorem dX11_why_22 : decode cX11_why 22 = .ok (.iaload, 1) := by decide +kernel
theorem dX11_why_23 : decode cX11_why 23 = .ok (.invokevirtual 143, 3) := by decide +kernel
theorem dX11_why_26 : decode cX11_why 26 = .ok (.goto 4, 3) := by decide +kernel
theorem dX11_why_29 : decode cX11_why 29 = .ok (.iconst (-1), 1) := by decide +kernel
theorem dX11_why_30 : decode cX11_why 30 = .ok (.ireturn, 1) := by decide +kernel
theorem dX11_strip_0 : decode cX11_strip 0 = .ok (.aload_n 0, 1) := by decide +kernel
theorem dX11_strip_1 : decode cX11_strip 1 = .ok (.iload_n 1, 1) := by decide +kernel
theorem dX11_strip_2 : decode cX11_strip 2 = .ok (.iload_n 2, 1) := by decide +kernel
theorem dX11_strip_3 : decode cX11_strip 3 = .ok (.invokevirtual 192, 3) := by decide +kernel
theorem dX11_strip_6 : decode cX11_strip 6 = .ok (.ifCond .eq 17, 3) := by decide +kernel
theorem dX11_strip_9 : decode cX11_strip 9 = .ok (.iload_n 1, 1) := by decide +kernel
theorem dX11_strip_10 : decode cX11_strip 10 = .ok (.iload_n 2, 1) := by decide +kernel
theorem dX11_strip_11 : decode cX11_strip 11 = .ok (.if_icmp .gt 12, 3) := by decide +kernel
theorem dX11_strip_14 : decode cX11_strip 14 = .ok (.iload_n 3, 1) := by decide +kernel
theorem dX11_strip_15 : decode cX11_strip 15 = .ok (.iconst 0, 1) := by decide +kernel
theorem dX11_strip_16 : decode cX11_strip 16 = .ok (.iconst 1, 1) := by decide +kernel
theorem dX11_strip_17 : decode cX11_strip 17 = .ok (.invokestatic 48, 3) := by decide +kernel
theorem dX11_strip_20 : decode cX11_strip 20 = .ok (.ifCond .ne 5, 3) := by decide +kernel
theorem dX11_strip_23 : decode cX11_strip 23 = .ok (.iconst (-1), 1) := by decide +kernel
theorem dX11_strip_24 : decode cX11_strip 24 = .ok (.ireturn, 1) := by decide +kernel
theorem dX11_strip_25 : decode cX11_strip 25 = .ok (.aload_n 0, 1) := by decide +kernel
theorem dX11_strip_26 : decode cX11_strip 26 = .ok (.iload_n 1, 1) := by decide +kernel
theorem dX11_strip_27 : decode cX11_strip 27 = .ok (.iload_n 2, 1) := by decide +kernel
theorem dX11_strip_28 : decode cX11_strip 28 = .ok (.invokevirtual 165, 3) := by decide +kernel
theorem dX11_strip_31 : decode cX11_strip 31 = .ok (.aload_n 0, 1) := by decide +kernel
theorem dX11_strip_32 : decode cX11_strip 32 = .ok (.getfield 156, 3) := by decide +kernel
theorem dX11_strip_35 : decode cX11_strip 35 = .ok (.aload_n 0, 1) := by decide +kernel
theorem dX11_strip_36 : decode cX11_strip 36 = .ok (.getfield 152, 3) := by decide +kernel
theorem dX11_strip_39 : decode cX11_strip 39 = .ok (.iload_n 3, 1) := by decide +kernel
theorem dX11_strip_40 : decode cX11_strip 40 = .ok (.ifCond .ne 7, 3) := by decide +kernel
theorem dX11_strip_43 : decode cX11_strip 43 = .ok (.iconst 1, 1) := by decide +kernel
