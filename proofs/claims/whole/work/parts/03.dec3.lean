theorem dX11_strip_44 : decode cX11_strip 44 = .ok (.goto 4, 3) := by decide +kernel
theorem dX11_strip_47 : decode cX11_strip 47 = .ok (.iconst 0, 1) := by decide +kernel
theorem dX11_strip_48 : decode cX11_strip 48 = .ok (.invokestatic 195, 3) := by decide +kernel
theorem dX11_strip_51 : decode cX11_strip 51 = .ok (.ireturn, 1) := by decide +kernel
theorem dX11_told_0 : decode cX11_told 0 = .ok (.iload_n 1, 1) := by decide +kernel
theorem dX11_told_1 : decode cX11_told 1 = .ok (.iconst 0, 1) := by decide +kernel
theorem dX11_told_2 : decode cX11_told 2 = .ok (.sipush 999, 3) := by decide +kernel
theorem dX11_told_5 : decode cX11_told 5 = .ok (.invokestatic 48, 3) := by decide +kernel
theorem dX11_told_8 : decode cX11_told 8 = .ok (.ifCond .eq 21, 3) := by decide +kernel
theorem dX11_told_11 : decode cX11_told 11 = .ok (.iload_n 2, 1) := by decide +kernel
theorem dX11_told_12 : decode cX11_told 12 = .ok (.iconst 0, 1) := by decide +kernel
theorem dX11_told_13 : decode cX11_told 13 = .ok (.iconst 1, 1) := by decide +kernel
theorem dX11_told_14 : decode cX11_told 14 = .ok (.invokestatic 48, 3) := by decide +kernel
theorem dX11_told_17 : decode cX11_told 17 = .ok (.ifCond .eq 12, 3) := by decide +kernel
theorem dX11_told_20 : decode cX11_told 20 = .ok (.iload_n 3, 1) := by decide +kernel
theorem dX11_told_21 : decode cX11_told 21 = .ok (.iconst 0, 1) := by decide +kernel
theorem dX11_told_22 : decode cX11_told 22 = .ok (.iconst 1, 1) := by decide +kernel
theorem dX11_told_23 : decode cX11_told 23 = .ok (.invokestatic 48, 3) := by decide +kernel
theorem dX11_told_26 : decode cX11_told 26 = .ok (.ifCond .ne 5, 3) := by decide +kernel
theorem dX11_told_29 : decode cX11_told 29 = .ok (.iconst (-1), 1) := by decide +kernel
theorem dX11_told_30 : decode cX11_told 30 = .ok (.ireturn, 1) := by decide +kernel
theorem dX11_told_31 : decode cX11_told 31 = .ok (.iload_n 2, 1) := by decide +kernel
theorem dX11_told_32 : decode cX11_told 32 = .ok (.ifCond .ne 16, 3) := by decide +kernel
theorem dX11_told_35 : decode cX11_told 35 = .ok (.aload_n 0, 1) := by decide +kernel
theorem dX11_told_36 : decode cX11_told 36 = .ok (.aload_n 0, 1) := by decide +kernel
theorem dX11_told_37 : decode cX11_told 37 = .ok (.getfield 7, 3) := by decide +kernel
theorem dX11_told_40 : decode cX11_told 40 = .ok (.iconst 1, 1) := by decide +kernel
theorem dX11_told_41 : decode cX11_told 41 = .ok (.iaload, 1) := by decide +kernel
theorem dX11_told_42 : decode cX11_told 42 = .ok (.invokevirtual 172, 3) := by decide +kernel
theorem dX11_told_45 : decode cX11_told 45 = .ok (.goto 7, 3) := by decide +kernel
theorem dX11_told_48 : decode cX11_told 48 = .ok (.aload_n 0, 1) := by decide +kernel
theorem dX11_told_49 : decode cX11_told 49 = .ok (.invokevirtual 176, 3) := by decide +kernel
theorem dX11_told_52 : decode cX11_told 52 = .ok (.istore 4, 2) := by decide +kernel
theorem dX11_told_54 : decode cX11_told 54 = .ok (.bipush (-9), 2) := by decide +kernel
theorem dX11_told_56 : decode cX11_told 56 = .ok (.istore 5, 2) := by decide +kernel
theorem dX11_told_58 : decode cX11_told 58 = .ok (.iconst 0, 1) := by decide +kernel
theorem dX11_told_59 : decode cX11_told 59 = .ok (.istore 6, 2) := by decide +kernel
theorem dX11_told_61 : decode cX11_told 61 = .ok (.iload 6, 2) := by decide +kernel
theorem dX11_told_63 : decode cX11_told 63 = .ok (.aload_n 0, 1) := by decide +kernel
theorem dX11_told_64 : decode cX11_told 64 = .ok (.getfield 7, 3) := by decide +kernel
theorem dX11_told_67 : decode cX11_told 67 = .ok (.iconst 0, 1) := by decide +kernel
theorem dX11_told_68 : decode cX11_told 68 = .ok (.iaload, 1) := by decide +kernel
theorem dX11_told_69 : decode cX11_told 69 = .ok (.if_icmp .ge 176, 3) := by decide +kernel
theorem dX11_told_72 : decode cX11_told 72 = .ok (.iload 4, 2) := by decide +kernel
theorem dX11_told_74 : decode cX11_told 74 = .ok (.iload 6, 2) := by decide +kernel
theorem dX11_told_76 : decode cX11_told 76 = .ok (.invokestatic 87, 3) := by decide +kernel
theorem dX11_told_79 : decode cX11_told 79 = .ok (.ifCond .eq 160, 3) := by decide +kernel
theorem dX11_told_82 : decode cX11_told 82 = .ok (.aload_n 0, 1) := by decide +kernel
theorem dX11_told_83 : decode cX11_told 83 = .ok (.getfield 7, 3) := by decide +kernel
theorem dX11_told_86 : decode cX11_told 86 = .ok (.iconst 3, 1) := by decide +kernel
theorem dX11_told_87 : decode cX11_told 87 = .ok (.iload 6, 2) := by decide +kernel
theorem dX11_told_89 : decode cX11_told 89 = .ok (.iadd, 1) := by decide +kernel
theorem dX11_told_90 : decode cX11_told 90 = .ok (.iaload, 1) := by decide +kernel
theorem dX11_told_91 : decode cX11_told 91 = .ok (.iload_n 1, 1) := by decide +kernel
theorem dX11_told_92 : decode cX11_told 92 = .ok (.if_icmp .ne 22, 3) := by decide +kernel
theorem dX11_told_95 : decode cX11_told 95 = .ok (.iload_n 3, 1) := by decide +kernel
theorem dX11_told_96 : decode cX11_told 96 = .ok (.ifCond .ne 16, 3) := by decide +kernel
theorem dX11_told_99 : decode cX11_told 99 = .ok (.aload_n 0, 1) := by decide +kernel
theorem dX11_told_100 : decode cX11_told 100 = .ok (.getfield 7, 3) := by decide +kernel
theorem dX11_told_103 : decode cX11_told 103 = .ok (.bipush 17, 2) := by decide +kernel
theorem dX11_told_105 : decode cX11_told 105 = .ok (.iload 6, 2) := by decide +kernel
theorem dX11_told_107 : decode cX11_told 107 = .ok (.iadd, 1) := by decide +kernel
theorem dX11_told_108 : decode cX11_told 108 = .ok (.iaload, 1) := by decide +kernel
theorem dX11_told_109 : decode cX11_told 109 = .ok (.goto 4, 3) := by decide +kernel
theorem dX11_told_112 : decode cX11_told 112 = .ok (.iconst 1, 1) := by decide +kernel
theorem dX11_told_113 : decode cX11_told 113 = .ok (.ireturn, 1) := by decide +kernel
theorem dX11_told_114 : decode cX11_told 114 = .ok (.aload_n 0, 1) := by decide +kernel
theorem dX11_told_115 : decode cX11_told 115 = .ok (.getfield 7, 3) := by decide +kernel
theorem dX11_told_118 : decode cX11_told 118 = .ok (.iconst 3, 1) := by decide +kernel
theorem dX11_told_119 : decode cX11_told 119 = .ok (.iload 6, 2) := by decide +kernel
theorem dX11_told_121 : decode cX11_told 121 = .ok (.iadd, 1) := by decide +kernel
theorem dX11_told_122 : decode cX11_told 122 = .ok (.iaload, 1) := by decide +kernel
theorem dX11_told_123 : decode cX11_told 123 = .ok (.iload_n 1, 1) := by decide +kernel
theorem dX11_told_124 : decode cX11_told 124 = .ok (.if_icmp .le 111, 3) := by decide +kernel
theorem dX11_told_127 : decode cX11_told 127 = .ok (.iload 5, 2) := by decide +kernel
theorem dX11_told_129 : decode cX11_told 129 = .ok (.bipush (-9), 2) := by decide +kernel
theorem dX11_told_131 : decode cX11_told 131 = .ok (.if_icmp .eq 14, 3) := by decide +kernel
theorem dX11_told_134 : decode cX11_told 134 = .ok (.aload_n 0, 1) := by decide +kernel
theorem dX11_told_135 : decode cX11_told 135 = .ok (.iload 5, 2) := by decide +kernel
theorem dX11_told_137 : decode cX11_told 137 = .ok (.iload 6, 2) := by decide +kernel
theorem dX11_told_139 : decode cX11_told 139 = .ok (.invokevirtual 192, 3) := by decide +kernel
theorem dX11_told_142 : decode cX11_told 142 = .ok (.ifCond .ne 6, 3) := by decide +kernel
theorem dX11_told_145 : decode cX11_told 145 = .ok (.bipush (-9), 2) := by decide +kernel
theorem dX11_told_147 : decode cX11_told 147 = .ok (.ireturn, 1) := by decide +kernel
theorem dX11_told_148 : decode cX11_told 148 = .ok (.aload_n 0, 1) := by decide +kernel
theorem dX11_told_149 : decode cX11_told 149 = .ok (.getfield 7, 3) := by decide +kernel
theorem dX11_told_152 : decode cX11_told 152 = .ok (.iconst 3, 1) := by decide +kernel
theorem dX11_told_153 : decode cX11_told 153 = .ok (.iload 6, 2) := by decide +kernel
theorem dX11_told_155 : decode cX11_told 155 = .ok (.iadd, 1) := by decide +kernel
theorem dX11_told_156 : decode cX11_told 156 = .ok (.iaload, 1) := by decide +kernel
theorem dX11_told_157 : decode cX11_told 157 = .ok (.aload_n 0, 1) := by decide +kernel
theorem dX11_told_158 : decode cX11_told 158 = .ok (.getfield 7, 3) := by decide +kernel
theorem dX11_told_161 : decode cX11_told 161 = .ok (.iconst 3, 1) := by decide +kernel
theorem dX11_told_162 : decode cX11_told 162 = .ok (.iload 5, 2) := by decide +kernel
theorem dX11_told_164 : decode cX11_told 164 = .ok (.iadd, 1) := by decide +kernel
theorem dX11_told_165 : decode cX11_told 165 = .ok (.iaload, 1) := by decide +kernel
theorem dX11_told_166 : decode cX11_told 166 = .ok (.isub, 1) := by decide +kernel
theorem dX11_told_167 : decode cX11_told 167 = .ok (.istore 7, 2) := by decide +kernel
theorem dX11_told_169 : decode cX11_told 169 = .ok (.aload_n 0, 1) := by decide +kernel
theorem dX11_told_170 : decode cX11_told 170 = .ok (.getfield 7, 3) := by decide +kernel
theorem dX11_told_173 : decode cX11_told 173 = .ok (.bipush 17, 2) := by decide +kernel
theorem dX11_told_175 : decode cX11_told 175 = .ok (.iload 5, 2) := by decide +kernel
theorem dX11_told_177 : decode cX11_told 177 = .ok (.iadd, 1) := by decide +kernel
theorem dX11_told_178 : decode cX11_told 178 = .ok (.iaload, 1) := by decide +kernel
theorem dX11_told_179 : decode cX11_told 179 = .ok (.aload_n 0, 1) := by decide +kernel
theorem dX11_told_180 : decode cX11_told 180 = .ok (.getfield 7, 3) := by decide +kernel
theorem dX11_told_183 : decode cX11_told 183 = .ok (.iconst 3, 1) := by decide +kernel
theorem dX11_told_184 : decode cX11_told 184 = .ok (.iload 6, 2) := by decide +kernel
theorem dX11_told_186 : decode cX11_told 186 = .ok (.iadd, 1) := by decide +kernel
theorem dX11_told_187 : decode cX11_told 187 = .ok (.iaload, 1) := by decide +kernel
theorem dX11_told_188 : decode cX11_told 188 = .ok (.iload_n 1, 1) := by decide +kernel
theorem dX11_told_189 : decode cX11_told 189 = .ok (.isub, 1) := by decide +kernel
theorem dX11_told_190 : decode cX11_told 190 = .ok (.imul, 1) := by decide +kernel
theorem dX11_told_191 : decode cX11_told 191 = .ok (.aload_n 0, 1) := by decide +kernel
theorem dX11_told_192 : decode cX11_told 192 = .ok (.getfield 7, 3) := by decide +kernel
theorem dX11_told_195 : decode cX11_told 195 = .ok (.bipush 17, 2) := by decide +kernel
theorem dX11_told_197 : decode cX11_told 197 = .ok (.iload 6, 2) := by decide +kernel
theorem dX11_told_199 : decode cX11_told 199 = .ok (.iadd, 1) := by decide +kernel
theorem dX11_told_200 : decode cX11_told 200 = .ok (.iaload, 1) := by decide +kernel
theorem dX11_told_201 : decode cX11_told 201 = .ok (.iload_n 1, 1) := by decide +kernel
theorem dX11_told_202 : decode cX11_told 202 = .ok (.aload_n 0, 1) := by decide +kernel
theorem dX11_told_203 : decode cX11_told 203 = .ok (.getfield 7, 3) := by decide +kernel
theorem dX11_told_206 : decode cX11_told 206 = .ok (.iconst 3, 1) := by decide +kernel
theorem dX11_told_207 : decode cX11_told 207 = .ok (.iload 5, 2) := by decide +kernel
theorem dX11_told_209 : decode cX11_told 209 = .ok (.iadd, 1) := by decide +kernel
theorem dX11_told_210 : decode cX11_told 210 = .ok (.iaload, 1) := by decide +kernel
theorem dX11_told_211 : decode cX11_told 211 = .ok (.isub, 1) := by decide +kernel
theorem dX11_told_212 : decode cX11_told 212 = .ok (.imul, 1) := by decide +kernel
theorem dX11_told_213 : decode cX11_told 213 = .ok (.iadd, 1) := by decide +kernel
theorem dX11_told_214 : decode cX11_told 214 = .ok (.istore 8, 2) := by decide +kernel
theorem dX11_told_216 : decode cX11_told 216 = .ok (.iload 8, 2) := by decide +kernel
theorem dX11_told_218 : decode cX11_told 218 = .ok (.i2l, 1) := by decide +kernel
theorem dX11_told_219 : decode cX11_told 219 = .ok (.iload 7, 2) := by decide +kernel
theorem dX11_told_221 : decode cX11_told 221 = .ok (.i2l, 1) := by decide +kernel
theorem dX11_told_222 : decode cX11_told 222 = .ok (.iload_n 3, 1) := by decide +kernel
theorem dX11_told_223 : decode cX11_told 223 = .ok (.ifCond .ne 7, 3) := by decide +kernel
theorem dX11_told_226 : decode cX11_told 226 = .ok (.iconst 1, 1) := by decide +kernel
theorem dX11_told_227 : decode cX11_told 227 = .ok (.goto 4, 3) := by decide +kernel
theorem dX11_told_230 : decode cX11_told 230 = .ok (.iconst 0, 1) := by decide +kernel
theorem dX11_told_231 : decode cX11_told 231 = .ok (.invokestatic 195, 3) := by decide +kernel
theorem dX11_told_234 : decode cX11_told 234 = .ok (.ireturn, 1) := by decide +kernel
theorem dX11_told_235 : decode cX11_told 235 = .ok (.iload 6, 2) := by decide +kernel
theorem dX11_told_237 : decode cX11_told 237 = .ok (.istore 5, 2) := by decide +kernel
theorem dX11_told_239 : decode cX11_told 239 = .ok (.iinc 6 1, 3) := by decide +kernel
theorem dX11_told_242 : decode cX11_told 242 = .ok (.goto (-181), 3) := by decide +kernel
theorem dX11_told_245 : decode cX11_told 245 = .ok (.bipush (-9), 2) := by decide +kernel
theorem dX11_told_247 : decode cX11_told 247 = .ok (.ireturn, 1) := by decide +kernel
theorem dX11_layUnseen_0 : decode cX11_layUnseen 0 = .ok (.iconst 0, 1) := by decide +kernel
theorem dX11_layUnseen_1 : decode cX11_layUnseen 1 = .ok (.istore_n 1, 1) := by decide +kernel
theorem dX11_layUnseen_2 : decode cX11_layUnseen 2 = .ok (.iconst 0, 1) := by decide +kernel
theorem dX11_layUnseen_3 : decode cX11_layUnseen 3 = .ok (.istore_n 2, 1) := by decide +kernel
theorem dX11_layUnseen_4 : decode cX11_layUnseen 4 = .ok (.iload_n 2, 1) := by decide +kernel
theorem dX11_layUnseen_5 : decode cX11_layUnseen 5 = .ok (.bipush 100, 2) := by decide +kernel
theorem dX11_layUnseen_7 : decode cX11_layUnseen 7 = .ok (.if_icmp .ge 103, 3) := by decide +kernel
theorem dX11_layUnseen_10 : decode cX11_layUnseen 10 = .ok (.aload_n 0, 1) := by decide +kernel
theorem dX11_layUnseen_11 : decode cX11_layUnseen 11 = .ok (.getfield 38, 3) := by decide +kernel
theorem dX11_layUnseen_14 : decode cX11_layUnseen 14 = .ok (.iload_n 2, 1) := by decide +kernel
theorem dX11_layUnseen_15 : decode cX11_layUnseen 15 = .ok (.aload_n 0, 1) := by decide +kernel
theorem dX11_layUnseen_16 : decode cX11_layUnseen 16 = .ok (.iload_n 2, 1) := by decide +kernel
theorem dX11_layUnseen_17 : decode cX11_layUnseen 17 = .ok (.invokevirtual 172, 3) := by decide +kernel
theorem dX11_layUnseen_20 : decode cX11_layUnseen 20 = .ok (.iastore, 1) := by decide +kernel
theorem dX11_layUnseen_21 : decode cX11_layUnseen 21 = .ok (.iconst 1, 1) := by decide +kernel
theorem dX11_layUnseen_22 : decode cX11_layUnseen 22 = .ok (.istore_n 3, 1) := by decide +kernel
theorem dX11_layUnseen_23 : decode cX11_layUnseen 23 = .ok (.iconst 0, 1) := by decide +kernel
theorem dX11_layUnseen_24 : decode cX11_layUnseen 24 = .ok (.istore 4, 2) := by decide +kernel
theorem dX11_layUnseen_26 : decode cX11_layUnseen 26 = .ok (.iload 4, 2) := by decide +kernel
theorem dX11_layUnseen_28 : decode cX11_layUnseen 28 = .ok (.aload_n 0, 1) := by decide +kernel
theorem dX11_layUnseen_29 : decode cX11_layUnseen 29 = .ok (.getfield 110, 3) := by decide +kernel
theorem dX11_layUnseen_32 : decode cX11_layUnseen 32 = .ok (.if_icmp .ge 53, 3) := by decide +kernel
theorem dX11_layUnseen_35 : decode cX11_layUnseen 35 = .ok (.iload_n 3, 1) := by decide +kernel
theorem dX11_layUnseen_36 : decode cX11_layUnseen 36 = .ok (.ifCond .eq 41, 3) := by decide +kernel
theorem dX11_layUnseen_39 : decode cX11_layUnseen 39 = .ok (.aload_n 0, 1) := by decide +kernel
theorem dX11_layUnseen_40 : decode cX11_layUnseen 40 = .ok (.getfield 38, 3) := by decide +kernel
theorem dX11_layUnseen_43 : decode cX11_layUnseen 43 = .ok (.iload_n 2, 1) := by decide +kernel
theorem dX11_layUnseen_44 : decode cX11_layUnseen 44 = .ok (.iaload, 1) := by decide +kernel
theorem dX11_layUnseen_45 : decode cX11_layUnseen 45 = .ok (.aload_n 0, 1) := by decide +kernel
theorem dX11_layUnseen_46 : decode cX11_layUnseen 46 = .ok (.getfield 16, 3) := by decide +kernel
theorem dX11_layUnseen_49 : decode cX11_layUnseen 49 = .ok (.iload 4, 2) := by decide +kernel
theorem dX11_layUnseen_51 : decode cX11_layUnseen 51 = .ok (.iaload, 1) := by decide +kernel
theorem dX11_layUnseen_52 : decode cX11_layUnseen 52 = .ok (.invokestatic 87, 3) := by decide +kernel
theorem dX11_layUnseen_55 : decode cX11_layUnseen 55 = .ok (.ifCond .eq 7, 3) := by decide +kernel
theorem dX11_layUnseen_58 : decode cX11_layUnseen 58 = .ok (.iconst 1, 1) := by decide +kernel
theorem dX11_layUnseen_59 : decode cX11_layUnseen 59 = .ok (.goto 4, 3) := by decide +kernel
theorem dX11_layUnseen_62 : decode cX11_layUnseen 62 = .ok (.iconst 0, 1) := by decide +kernel
theorem dX11_layUnseen_63 : decode cX11_layUnseen 63 = .ok (.aload_n 0, 1) := by decide +kernel
theorem dX11_layUnseen_64 : decode cX11_layUnseen 64 = .ok (.getfield 19, 3) := by decide +kernel
theorem dX11_layUnseen_67 : decode cX11_layUnseen 67 = .ok (.iload 4, 2) := by decide +kernel
theorem dX11_layUnseen_69 : decode cX11_layUnseen 69 = .ok (.iaload, 1) := by decide +kernel
theorem dX11_layUnseen_70 : decode cX11_layUnseen 70 = .ok (.if_icmp .ne 7, 3) := by decide +kernel
theorem dX11_layUnseen_73 : decode cX11_layUnseen 73 = .ok (.iconst 1, 1) := by decide +kernel
theorem dX11_layUnseen_74 : decode cX11_layUnseen 74 = .ok (.goto 4, 3) := by decide +kernel
theorem dX11_layUnseen_77 : decode cX11_layUnseen 77 = .ok (.iconst 0, 1) := by decide +kernel
theorem dX11_layUnseen_78 : decode cX11_layUnseen 78 = .ok (.istore_n 3, 1) := by decide +kernel
theorem dX11_layUnseen_79 : decode cX11_layUnseen 79 = .ok (.iinc 4 1, 3) := by decide +kernel
theorem dX11_layUnseen_82 : decode cX11_layUnseen 82 = .ok (.goto (-56), 3) := by decide +kernel
theorem dX11_layUnseen_85 : decode cX11_layUnseen 85 = .ok (.aload_n 0, 1) := by decide +kernel
theorem dX11_layUnseen_86 : decode cX11_layUnseen 86 = .ok (.getfield 41, 3) := by decide +kernel
theorem dX11_layUnseen_89 : decode cX11_layUnseen 89 = .ok (.iload_n 2, 1) := by decide +kernel
theorem dX11_layUnseen_90 : decode cX11_layUnseen 90 = .ok (.iload_n 3, 1) := by decide +kernel
theorem dX11_layUnseen_91 : decode cX11_layUnseen 91 = .ok (.bastore, 1) := by decide +kernel
theorem dX11_layUnseen_92 : decode cX11_layUnseen 92 = .ok (.iload_n 1, 1) := by decide +kernel
theorem dX11_layUnseen_93 : decode cX11_layUnseen 93 = .ok (.iload_n 3, 1) := by decide +kernel
theorem dX11_layUnseen_94 : decode cX11_layUnseen 94 = .ok (.ifCond .eq 7, 3) := by decide +kernel
theorem dX11_layUnseen_97 : decode cX11_layUnseen 97 = .ok (.iconst 1, 1) := by decide +kernel
theorem dX11_layUnseen_98 : decode cX11_layUnseen 98 = .ok (.goto 4, 3) := by decide +kernel
theorem dX11_layUnseen_101 : decode cX11_layUnseen 101 = .ok (.iconst 0, 1) := by decide +kernel
theorem dX11_layUnseen_102 : decode cX11_layUnseen 102 = .ok (.iadd, 1) := by decide +kernel
theorem dX11_layUnseen_103 : decode cX11_layUnseen 103 = .ok (.istore_n 1, 1) := by decide +kernel
theorem dX11_layUnseen_104 : decode cX11_layUnseen 104 = .ok (.iinc 2 1, 3) := by decide +kernel
theorem dX11_layUnseen_107 : decode cX11_layUnseen 107 = .ok (.goto (-103), 3) := by decide +kernel
theorem dX11_layUnseen_110 : decode cX11_layUnseen 110 = .ok (.iload_n 1, 1) := by decide +kernel
theorem dX11_layUnseen_111 : decode cX11_layUnseen 111 = .ok (.ireturn, 1) := by decide +kernel
theorem dX11_sees_0 : decode cX11_sees 0 = .ok (.aload_n 0, 1) := by decide +kernel
theorem dX11_sees_1 : decode cX11_sees 1 = .ok (.iload_n 1, 1) := by decide +kernel
theorem dX11_sees_2 : decode cX11_sees 2 = .ok (.invokevirtual 130, 3) := by decide +kernel
theorem dX11_sees_5 : decode cX11_sees 5 = .ok (.ifCond .eq 12, 3) := by decide +kernel
theorem dX11_sees_8 : decode cX11_sees 8 = .ok (.iload_n 2, 1) := by decide +kernel
theorem dX11_sees_9 : decode cX11_sees 9 = .ok (.iconst 0, 1) := by decide +kernel
theorem dX11_sees_10 : decode cX11_sees 10 = .ok (.iconst 1, 1) := by decide +kernel
theorem dX11_sees_11 : decode cX11_sees 11 = .ok (.invokestatic 48, 3) := by decide +kernel
theorem dX11_sees_14 : decode cX11_sees 14 = .ok (.ifCond .ne 5, 3) := by decide +kernel
theorem dX11_sees_17 : decode cX11_sees 17 = .ok (.iconst (-1), 1) := by decide +kernel
theorem dX11_sees_18 : decode cX11_sees 18 = .ok (.ireturn, 1) := by decide +kernel
theorem dX11_sees_19 : decode cX11_sees 19 = .ok (.aload_n 0, 1) := by decide +kernel
theorem dX11_sees_20 : decode cX11_sees 20 = .ok (.getfield 110, 3) := by decide +kernel
theorem dX11_sees_23 : decode cX11_sees 23 = .ok (.bipush 6, 2) := by decide +kernel
theorem dX11_sees_25 : decode cX11_sees 25 = .ok (.if_icmp .ne 6, 3) := by decide +kernel
theorem dX11_sees_28 : decode cX11_sees 28 = .ok (.bipush (-3), 2) := by decide +kernel
theorem dX11_sees_30 : decode cX11_sees 30 = .ok (.ireturn, 1) := by decide +kernel
theorem dX11_sees_31 : decode cX11_sees 31 = .ok (.aload_n 0, 1) := by decide +kernel
theorem dX11_sees_32 : decode cX11_sees 32 = .ok (.getfield 16, 3) := by decide +kernel
theorem dX11_sees_35 : decode cX11_sees 35 = .ok (.aload_n 0, 1) := by decide +kernel
theorem dX11_sees_36 : decode cX11_sees 36 = .ok (.getfield 110, 3) := by decide +kernel
theorem dX11_sees_39 : decode cX11_sees 39 = .ok (.iload_n 1, 1) := by decide +kernel
theorem dX11_sees_40 : decode cX11_sees 40 = .ok (.iastore, 1) := by decide +kernel
theorem dX11_sees_41 : decode cX11_sees 41 = .ok (.aload_n 0, 1) := by decide +kernel
theorem dX11_sees_42 : decode cX11_sees 42 = .ok (.getfield 19, 3) := by decide +kernel
theorem dX11_sees_45 : decode cX11_sees 45 = .ok (.aload_n 0, 1) := by decide +kernel
theorem dX11_sees_46 : decode cX11_sees 46 = .ok (.getfield 110, 3) := by decide +kernel
theorem dX11_sees_49 : decode cX11_sees 49 = .ok (.iload_n 2, 1) := by decide +kernel
theorem dX11_sees_50 : decode cX11_sees 50 = .ok (.iastore, 1) := by decide +kernel
theorem dX11_sees_51 : decode cX11_sees 51 = .ok (.aload_n 0, 1) := by decide +kernel
theorem dX11_sees_52 : decode cX11_sees 52 = .ok (.dup, 1) := by decide +kernel
theorem dX11_sees_53 : decode cX11_sees 53 = .ok (.getfield 110, 3) := by decide +kernel
theorem dX11_sees_56 : decode cX11_sees 56 = .ok (.iconst 1, 1) := by decide +kernel
theorem dX11_sees_57 : decode cX11_sees 57 = .ok (.iadd, 1) := by decide +kernel
theorem dX11_sees_58 : decode cX11_sees 58 = .ok (.putfield 110, 3) := by decide +kernel
theorem dX11_sees_61 : decode cX11_sees 61 = .ok (.aload_n 0, 1) := by decide +kernel
theorem dX11_sees_62 : decode cX11_sees 62 = .ok (.getfield 110, 3) := by decide +kernel
theorem dX11_sees_65 : decode cX11_sees 65 = .ok (.ireturn, 1) := by decide +kernel
theorem dX11_forget_0 : decode cX11_forget 0 = .ok (.aload_n 0, 1) := by decide +kernel
theorem dX11_forget_1 : decode cX11_forget 1 = .ok (.getfield 110, 3) := by decide +kernel
theorem dX11_forget_4 : decode cX11_forget 4 = .ok (.istore_n 1, 1) := by decide +kernel
theorem dX11_forget_5 : decode cX11_forget 5 = .ok (.aload_n 0, 1) := by decide +kernel
theorem dX11_forget_6 : decode cX11_forget 6 = .ok (.iconst 0, 1) := by decide +kernel
theorem dX11_forget_7 : decode cX11_forget 7 = .ok (.putfield 110, 3) := by decide +kernel
theorem dX11_forget_10 : decode cX11_forget 10 = .ok (.iload_n 1, 1) := by decide +kernel
theorem dX11_forget_11 : decode cX11_forget 11 = .ok (.ireturn, 1) := by decide +kernel
theorem dX11_unseen_0 : decode cX11_unseen 0 = .ok (.iload_n 1, 1) := by decide +kernel
theorem dX11_unseen_1 : decode cX11_unseen 1 = .ok (.iconst 0, 1) := by decide +kernel
theorem dX11_unseen_2 : decode cX11_unseen 2 = .ok (.iconst 2, 1) := by decide +kernel
theorem dX11_unseen_3 : decode cX11_unseen 3 = .ok (.invokestatic 48, 3) := by decide +kernel
theorem dX11_unseen_6 : decode cX11_unseen 6 = .ok (.ifCond .ne 5, 3) := by decide +kernel
theorem dX11_unseen_9 : decode cX11_unseen 9 = .ok (.iconst (-1), 1) := by decide +kernel
theorem dX11_unseen_10 : decode cX11_unseen 10 = .ok (.ireturn, 1) := by decide +kernel
theorem dX11_unseen_11 : decode cX11_unseen 11 = .ok (.aload_n 0, 1) := by decide +kernel
theorem dX11_unseen_12 : decode cX11_unseen 12 = .ok (.invokevirtual 199, 3) := by decide +kernel
theorem dX11_unseen_15 : decode cX11_unseen 15 = .ok (.istore_n 2, 1) := by decide +kernel
theorem dX11_unseen_16 : decode cX11_unseen 16 = .ok (.bipush (-9), 2) := by decide +kernel
theorem dX11_unseen_18 : decode cX11_unseen 18 = .ok (.istore_n 3, 1) := by decide +kernel
theorem dX11_unseen_19 : decode cX11_unseen 19 = .ok (.bipush (-9), 2) := by decide +kernel
theorem dX11_unseen_21 : decode cX11_unseen 21 = .ok (.istore 4, 2) := by decide +kernel
theorem dX11_unseen_23 : decode cX11_unseen 23 = .ok (.iconst 0, 1) := by decide +kernel
theorem dX11_unseen_24 : decode cX11_unseen 24 = .ok (.istore 5, 2) := by decide +kernel
theorem dX11_unseen_26 : decode cX11_unseen 26 = .ok (.iload 5, 2) := by decide +kernel
theorem dX11_unseen_28 : decode cX11_unseen 28 = .ok (.bipush 100, 2) := by decide +kernel
theorem dX11_unseen_30 : decode cX11_unseen 30 = .ok (.if_icmp .ge 51, 3) := by decide +kernel
theorem dX11_unseen_33 : decode cX11_unseen 33 = .ok (.aload_n 0, 1) := by decide +kernel
theorem dX11_unseen_34 : decode cX11_unseen 34 = .ok (.getfield 41, 3) := by decide +kernel
theorem dX11_unseen_37 : decode cX11_unseen 37 = .ok (.iload 5, 2) := by decide +kernel
theorem dX11_unseen_39 : decode cX11_unseen 39 = .ok (.baload, 1) := by decide +kernel
theorem dX11_unseen_40 : decode cX11_unseen 40 = .ok (.ifCond .eq 14, 3) := by decide +kernel
theorem dX11_unseen_43 : decode cX11_unseen 43 = .ok (.iload_n 3, 1) := by decide +kernel
theorem dX11_unseen_44 : decode cX11_unseen 44 = .ok (.bipush (-9), 2) := by decide +kernel
theorem dX11_unseen_46 : decode cX11_unseen 46 = .ok (.if_icmp .ne 8, 3) := by decide +kernel
theorem dX11_unseen_49 : decode cX11_unseen 49 = .ok (.iload 5, 2) := by decide +kernel
theorem dX11_unseen_51 : decode cX11_unseen 51 = .ok (.goto 4, 3) := by decide +kernel
theorem dX11_unseen_54 : decode cX11_unseen 54 = .ok (.iload_n 3, 1) := by decide +kernel
theorem dX11_unseen_55 : decode cX11_unseen 55 = .ok (.istore_n 3, 1) := by decide +kernel
theorem dX11_unseen_56 : decode cX11_unseen 56 = .ok (.aload_n 0, 1) := by decide +kernel
theorem dX11_unseen_57 : decode cX11_unseen 57 = .ok (.getfield 41, 3) := by decide +kernel
theorem dX11_unseen_60 : decode cX11_unseen 60 = .ok (.iload 5, 2) := by decide +kernel
theorem dX11_unseen_62 : decode cX11_unseen 62 = .ok (.baload, 1) := by decide +kernel
theorem dX11_unseen_63 : decode cX11_unseen 63 = .ok (.ifCond .eq 8, 3) := by decide +kernel
theorem dX11_unseen_66 : decode cX11_unseen 66 = .ok (.iload 5, 2) := by decide +kernel
theorem dX11_unseen_68 : decode cX11_unseen 68 = .ok (.goto 5, 3) := by decide +kernel
theorem dX11_unseen_71 : decode cX11_unseen 71 = .ok (.iload 4, 2) := by decide +kernel
theorem dX11_unseen_73 : decode cX11_unseen 73 = .ok (.istore 4, 2) := by decide +kernel
theorem dX11_unseen_75 : decode cX11_unseen 75 = .ok (.iinc 5 1, 3) := by decide +kernel
theorem dX11_unseen_78 : decode cX11_unseen 78 = .ok (.goto (-52), 3) := by decide +kernel
theorem dX11_unseen_81 : decode cX11_unseen 81 = .ok (.iload_n 1, 1) := by decide +kernel
theorem dX11_unseen_82 : decode cX11_unseen 82 = .ok (.ifCond .ne 7, 3) := by decide +kernel
theorem dX11_unseen_85 : decode cX11_unseen 85 = .ok (.iload_n 2, 1) := by decide +kernel
theorem dX11_unseen_86 : decode cX11_unseen 86 = .ok (.goto 14, 3) := by decide +kernel
theorem dX11_unseen_89 : decode cX11_unseen 89 = .ok (.iload_n 1, 1) := by decide +kernel
theorem dX11_unseen_90 : decode cX11_unseen 90 = .ok (.iconst 1, 1) := by decide +kernel
theorem dX11_unseen_91 : decode cX11_unseen 91 = .ok (.if_icmp .ne 7, 3) := by decide +kernel
theorem dX11_unseen_94 : decode cX11_unseen 94 = .ok (.iload_n 3, 1) := by decide +kernel
theorem dX11_unseen_95 : decode cX11_unseen 95 = .ok (.goto 5, 3) := by decide +kernel
theorem dX11_unseen_98 : decode cX11_unseen 98 = .ok (.iload 4, 2) := by decide +kernel
theorem dX11_unseen_100 : decode cX11_unseen 100 = .ok (.ireturn, 1) := by decide +kernel
theorem dX11_ask_0 : decode cX11_ask 0 = .ok (.aload_n 0, 1) := by decide +kernel
theorem dX11_ask_1 : decode cX11_ask 1 = .ok (.invokevirtual 199, 3) := by decide +kernel
theorem dX11_ask_4 : decode cX11_ask 4 = .ok (.istore_n 1, 1) := by decide +kernel
theorem dX11_ask_5 : decode cX11_ask 5 = .ok (.bipush (-9), 2) := by decide +kernel
theorem dX11_ask_7 : decode cX11_ask 7 = .ok (.istore_n 2, 1) := by decide +kernel
theorem dX11_ask_8 : decode cX11_ask 8 = .ok (.bipush 101, 2) := by decide +kernel
theorem dX11_ask_10 : decode cX11_ask 10 = .ok (.istore_n 3, 1) := by decide +kernel
theorem dX11_ask_11 : decode cX11_ask 11 = .ok (.iconst 0, 1) := by decide +kernel
theorem dX11_ask_12 : decode cX11_ask 12 = .ok (.istore 4, 2) := by decide +kernel
theorem dX11_ask_14 : decode cX11_ask 14 = .ok (.iload 4, 2) := by decide +kernel
theorem dX11_ask_16 : decode cX11_ask 16 = .ok (.aload_n 0, 1) := by decide +kernel
theorem dX11_ask_17 : decode cX11_ask 17 = .ok (.getfield 7, 3) := by decide +kernel
theorem dX11_ask_20 : decode cX11_ask 20 = .ok (.iconst 0, 1) := by decide +kernel
theorem dX11_ask_21 : decode cX11_ask 21 = .ok (.iaload, 1) := by decide +kernel
theorem dX11_ask_22 : decode cX11_ask 22 = .ok (.if_icmp .ge 134, 3) := by decide +kernel
theorem dX11_ask_25 : decode cX11_ask 25 = .ok (.iload_n 1, 1) := by decide +kernel
theorem dX11_ask_26 : decode cX11_ask 26 = .ok (.iconst 1, 1) := by decide +kernel
theorem dX11_ask_27 : decode cX11_ask 27 = .ok (.if_icmp .le 129, 3) := by decide +kernel
theorem dX11_ask_30 : decode cX11_ask 30 = .ok (.iconst 0, 1) := by decide +kernel
theorem dX11_ask_31 : decode cX11_ask 31 = .ok (.istore 5, 2) := by decide +kernel
theorem dX11_ask_33 : decode cX11_ask 33 = .ok (.iconst 0, 1) := by decide +kernel
theorem dX11_ask_34 : decode cX11_ask 34 = .ok (.istore 6, 2) := by decide +kernel
theorem dX11_ask_36 : decode cX11_ask 36 = .ok (.iload 6, 2) := by decide +kernel
theorem dX11_ask_38 : decode cX11_ask 38 = .ok (.bipush 100, 2) := by decide +kernel
theorem dX11_ask_40 : decode cX11_ask 40 = .ok (.if_icmp .ge 44, 3) := by decide +kernel
theorem dX11_ask_43 : decode cX11_ask 43 = .ok (.iload 5, 2) := by decide +kernel
theorem dX11_ask_45 : decode cX11_ask 45 = .ok (.aload_n 0, 1) := by decide +kernel
theorem dX11_ask_46 : decode cX11_ask 46 = .ok (.getfield 41, 3) := by decide +kernel
theorem dX11_ask_49 : decode cX11_ask 49 = .ok (.iload 6, 2) := by decide +kernel
theorem dX11_ask_51 : decode cX11_ask 51 = .ok (.baload, 1) := by decide +kernel
theorem dX11_ask_52 : decode cX11_ask 52 = .ok (.ifCond .eq 22, 3) := by decide +kernel
theorem dX11_ask_55 : decode cX11_ask 55 = .ok (.aload_n 0, 1) := by decide +kernel
theorem dX11_ask_56 : decode cX11_ask 56 = .ok (.getfield 38, 3) := by decide +kernel
theorem dX11_ask_59 : decode cX11_ask 59 = .ok (.iload 6, 2) := by decide +kernel
theorem dX11_ask_61 : decode cX11_ask 61 = .ok (.iaload, 1) := by decide +kernel
theorem dX11_ask_62 : decode cX11_ask 62 = .ok (.iload 4, 2) := by decide +kernel
theorem dX11_ask_64 : decode cX11_ask 64 = .ok (.invokestatic 87, 3) := by decide +kernel
theorem dX11_ask_67 : decode cX11_ask 67 = .ok (.ifCond .eq 7, 3) := by decide +kernel
theorem dX11_ask_70 : decode cX11_ask 70 = .ok (.iconst 1, 1) := by decide +kernel
theorem dX11_ask_71 : decode cX11_ask 71 = .ok (.goto 4, 3) := by decide +kernel
theorem dX11_ask_74 : decode cX11_ask 74 = .ok (.iconst 0, 1) := by decide +kernel
theorem dX11_ask_75 : decode cX11_ask 75 = .ok (.iadd, 1) := by decide +kernel
theorem dX11_ask_76 : decode cX11_ask 76 = .ok (.istore 5, 2) := by decide +kernel
theorem dX11_ask_78 : decode cX11_ask 78 = .ok (.iinc 6 1, 3) := by decide +kernel
theorem dX11_ask_81 : decode cX11_ask 81 = .ok (.goto (-45), 3) := by decide +kernel
theorem dX11_ask_84 : decode cX11_ask 84 = .ok (.iload 5, 2) := by decide +kernel
theorem dX11_ask_86 : decode cX11_ask 86 = .ok (.iload_n 1, 1) := by decide +kernel
theorem dX11_ask_87 : decode cX11_ask 87 = .ok (.iload 5, 2) := by decide +kernel
theorem dX11_ask_89 : decode cX11_ask 89 = .ok (.isub, 1) := by decide +kernel
theorem dX11_ask_90 : decode cX11_ask 90 = .ok (.if_icmp .le 8, 3) := by decide +kernel
theorem dX11_ask_93 : decode cX11_ask 93 = .ok (.iload 5, 2) := by decide +kernel
theorem dX11_ask_95 : decode cX11_ask 95 = .ok (.goto 7, 3) := by decide +kernel
theorem dX11_ask_98 : decode cX11_ask 98 = .ok (.iload_n 1, 1) := by decide +kernel
theorem dX11_ask_99 : decode cX11_ask 99 = .ok (.iload 5, 2) := by decide +kernel
theorem dX11_ask_101 : decode cX11_ask 101 = .ok (.isub, 1) := by decide +kernel
theorem dX11_ask_102 : decode cX11_ask 102 = .ok (.istore 6, 2) := by decide +kernel
theorem dX11_ask_104 : decode cX11_ask 104 = .ok (.aload_n 0, 1) := by decide +kernel
theorem dX11_ask_105 : decode cX11_ask 105 = .ok (.iload 4, 2) := by decide +kernel
theorem dX11_ask_107 : decode cX11_ask 107 = .ok (.invokevirtual 130, 3) := by decide +kernel
theorem dX11_ask_110 : decode cX11_ask 110 = .ok (.ifCond .eq 13, 3) := by decide +kernel
theorem dX11_ask_113 : decode cX11_ask 113 = .ok (.iload 6, 2) := by decide +kernel
theorem dX11_ask_115 : decode cX11_ask 115 = .ok (.iload_n 3, 1) := by decide +kernel
theorem dX11_ask_116 : decode cX11_ask 116 = .ok (.if_icmp .ge 7, 3) := by decide +kernel
theorem dX11_ask_119 : decode cX11_ask 119 = .ok (.iconst 1, 1) := by decide +kernel
theorem dX11_ask_120 : decode cX11_ask 120 = .ok (.goto 4, 3) := by decide +kernel
theorem dX11_ask_123 : decode cX11_ask 123 = .ok (.iconst 0, 1) := by decide +kernel
theorem dX11_ask_124 : decode cX11_ask 124 = .ok (.istore 7, 2) := by decide +kernel
theorem dX11_ask_126 : decode cX11_ask 126 = .ok (.iload 7, 2) := by decide +kernel
theorem dX11_ask_128 : decode cX11_ask 128 = .ok (.ifCond .eq 8, 3) := by decide +kernel
theorem dX11_ask_131 : decode cX11_ask 131 = .ok (.iload 4, 2) := by decide +kernel
theorem dX11_ask_133 : decode cX11_ask 133 = .ok (.goto 4, 3) := by decide +kernel
theorem dX11_ask_136 : decode cX11_ask 136 = .ok (.iload_n 2, 1) := by decide +kernel
theorem dX11_ask_137 : decode cX11_ask 137 = .ok (.istore_n 2, 1) := by decide +kernel
theorem dX11_ask_138 : decode cX11_ask 138 = .ok (.iload 7, 2) := by decide +kernel
theorem dX11_ask_140 : decode cX11_ask 140 = .ok (.ifCond .eq 8, 3) := by decide +kernel
theorem dX11_ask_143 : decode cX11_ask 143 = .ok (.iload 6, 2) := by decide +kernel
theorem dX11_ask_145 : decode cX11_ask 145 = .ok (.goto 4, 3) := by decide +kernel
theorem dX11_ask_148 : decode cX11_ask 148 = .ok (.iload_n 3, 1) := by decide +kernel
theorem dX11_ask_149 : decode cX11_ask 149 = .ok (.istore_n 3, 1) := by decide +kernel
theorem dX11_ask_150 : decode cX11_ask 150 = .ok (.iinc 4 1, 3) := by decide +kernel
theorem dX11_ask_153 : decode cX11_ask 153 = .ok (.goto (-139), 3) := by decide +kernel
theorem dX11_ask_156 : decode cX11_ask 156 = .ok (.iload_n 2, 1) := by decide +kernel
theorem dX11_ask_157 : decode cX11_ask 157 = .ok (.ireturn, 1) := by decide +kernel
theorem dX11_keep_0 : decode cX11_keep 0 = .ok (.iload_n 1, 1) := by decide +kernel
theorem dX11_keep_1 : decode cX11_keep 1 = .ok (.iconst 0, 1) := by decide +kernel
theorem dX11_keep_2 : decode cX11_keep 2 = .ok (.iconst 1, 1) := by decide +kernel
theorem dX11_keep_3 : decode cX11_keep 3 = .ok (.invokestatic 48, 3) := by decide +kernel
theorem dX11_keep_6 : decode cX11_keep 6 = .ok (.ifCond .ne 5, 3) := by decide +kernel
theorem dX11_keep_9 : decode cX11_keep 9 = .ok (.iconst (-1), 1) := by decide +kernel
theorem dX11_keep_10 : decode cX11_keep 10 = .ok (.ireturn, 1) := by decide +kernel
theorem dX11_keep_11 : decode cX11_keep 11 = .ok (.aload_n 0, 1) := by decide +kernel
theorem dX11_keep_12 : decode cX11_keep 12 = .ok (.getfield 22, 3) := by decide +kernel
theorem dX11_keep_15 : decode cX11_keep 15 = .ok (.iload_n 1, 1) := by decide +kernel
theorem dX11_keep_16 : decode cX11_keep 16 = .ok (.iconst 1, 1) := by decide +kernel
theorem dX11_keep_17 : decode cX11_keep 17 = .ok (.bastore, 1) := by decide +kernel
theorem dX11_keep_18 : decode cX11_keep 18 = .ok (.iconst 0, 1) := by decide +kernel
theorem dX11_keep_19 : decode cX11_keep 19 = .ok (.istore_n 2, 1) := by decide +kernel
theorem dX11_keep_20 : decode cX11_keep 20 = .ok (.iload_n 2, 1) := by decide +kernel
theorem dX11_keep_21 : decode cX11_keep 21 = .ok (.bipush 31, 2) := by decide +kernel
theorem dX11_keep_23 : decode cX11_keep 23 = .ok (.if_icmp .ge 26, 3) := by decide +kernel
theorem dX11_keep_26 : decode cX11_keep 26 = .ok (.aload_n 0, 1) := by decide +kernel
theorem dX11_keep_27 : decode cX11_keep 27 = .ok (.getfield 26, 3) := by decide +kernel
theorem dX11_keep_30 : decode cX11_keep 30 = .ok (.bipush 31, 2) := by decide +kernel
theorem dX11_keep_32 : decode cX11_keep 32 = .ok (.iload_n 1, 1) := by decide +kernel
theorem dX11_keep_33 : decode cX11_keep 33 = .ok (.imul, 1) := by decide +kernel
theorem dX11_keep_34 : decode cX11_keep 34 = .ok (.iload_n 2, 1) := by decide +kernel
theorem dX11_keep_35 : decode cX11_keep 35 = .ok (.iadd, 1) := by decide +kernel
theorem dX11_keep_36 : decode cX11_keep 36 = .ok (.aload_n 0, 1) := by decide +kernel
theorem dX11_keep_37 : decode cX11_keep 37 = .ok (.getfield 7, 3) := by decide +kernel
theorem dX11_keep_40 : decode cX11_keep 40 = .ok (.iload_n 2, 1) := by decide +kernel
theorem dX11_keep_41 : decode cX11_keep 41 = .ok (.iaload, 1) := by decide +kernel
theorem dX11_keep_42 : decode cX11_keep 42 = .ok (.iastore, 1) := by decide +kernel
theorem dX11_keep_43 : decode cX11_keep 43 = .ok (.iinc 2 1, 3) := by decide +kernel
theorem dX11_keep_46 : decode cX11_keep 46 = .ok (.goto (-26), 3) := by decide +kernel
theorem dX11_keep_49 : decode cX11_keep 49 = .ok (.aload_n 0, 1) := by decide +kernel
theorem dX11_keep_50 : decode cX11_keep 50 = .ok (.getfield 7, 3) := by decide +kernel
theorem dX11_keep_53 : decode cX11_keep 53 = .ok (.iconst 0, 1) := by decide +kernel
theorem dX11_keep_54 : decode cX11_keep 54 = .ok (.iaload, 1) := by decide +kernel
theorem dX11_keep_55 : decode cX11_keep 55 = .ok (.ireturn, 1) := by decide +kernel
theorem dX11_back_0 : decode cX11_back 0 = .ok (.iload_n 1, 1) := by decide +kernel
theorem dX11_back_1 : decode cX11_back 1 = .ok (.iconst 0, 1) := by decide +kernel
theorem dX11_back_2 : decode cX11_back 2 = .ok (.iconst 1, 1) := by decide +kernel
theorem dX11_back_3 : decode cX11_back 3 = .ok (.invokestatic 48, 3) := by decide +kernel
theorem dX11_back_6 : decode cX11_back 6 = .ok (.ifCond .ne 5, 3) := by decide +kernel
theorem dX11_back_9 : decode cX11_back 9 = .ok (.iconst (-1), 1) := by decide +kernel
theorem dX11_back_10 : decode cX11_back 10 = .ok (.ireturn, 1) := by decide +kernel
theorem dX11_back_11 : decode cX11_back 11 = .ok (.aload_n 0, 1) := by decide +kernel
theorem dX11_back_12 : decode cX11_back 12 = .ok (.getfield 22, 3) := by decide +kernel
theorem dX11_back_15 : decode cX11_back 15 = .ok (.iload_n 1, 1) := by decide +kernel
theorem dX11_back_16 : decode cX11_back 16 = .ok (.baload, 1) := by decide +kernel
theorem dX11_back_17 : decode cX11_back 17 = .ok (.ifCond .ne 6, 3) := by decide +kernel
theorem dX11_back_20 : decode cX11_back 20 = .ok (.bipush (-2), 2) := by decide +kernel
theorem dX11_back_22 : decode cX11_back 22 = .ok (.ireturn, 1) := by decide +kernel
theorem dX11_back_23 : decode cX11_back 23 = .ok (.iconst 0, 1) := by decide +kernel
theorem dX11_back_24 : decode cX11_back 24 = .ok (.istore_n 2, 1) := by decide +kernel
theorem dX11_back_25 : decode cX11_back 25 = .ok (.iload_n 2, 1) := by decide +kernel
theorem dX11_back_26 : decode cX11_back 26 = .ok (.bipush 31, 2) := by decide +kernel
theorem dX11_back_28 : decode cX11_back 28 = .ok (.if_icmp .ge 26, 3) := by decide +kernel
theorem dX11_back_31 : decode cX11_back 31 = .ok (.aload_n 0, 1) := by decide +kernel
theorem dX11_back_32 : decode cX11_back 32 = .ok (.getfield 7, 3) := by decide +kernel
theorem dX11_back_35 : decode cX11_back 35 = .ok (.iload_n 2, 1) := by decide +kernel
theorem dX11_back_36 : decode cX11_back 36 = .ok (.aload_n 0, 1) := by decide +kernel
theorem dX11_back_37 : decode cX11_back 37 = .ok (.getfield 26, 3) := by decide +kernel
theorem dX11_back_40 : decode cX11_back 40 = .ok (.bipush 31, 2) := by decide +kernel
theorem dX11_back_42 : decode cX11_back 42 = .ok (.iload_n 1, 1) := by decide +kernel
theorem dX11_back_43 : decode cX11_back 43 = .ok (.imul, 1) := by decide +kernel
theorem dX11_back_44 : decode cX11_back 44 = .ok (.iload_n 2, 1) := by decide +kernel
theorem dX11_back_45 : decode cX11_back 45 = .ok (.iadd, 1) := by decide +kernel
theorem dX11_back_46 : decode cX11_back 46 = .ok (.iaload, 1) := by decide +kernel
theorem dX11_back_47 : decode cX11_back 47 = .ok (.iastore, 1) := by decide +kernel
theorem dX11_back_48 : decode cX11_back 48 = .ok (.iinc 2 1, 3) := by decide +kernel
theorem dX11_back_51 : decode cX11_back 51 = .ok (.goto (-26), 3) := by decide +kernel
theorem dX11_back_54 : decode cX11_back 54 = .ok (.aload_n 0, 1) := by decide +kernel
theorem dX11_back_55 : decode cX11_back 55 = .ok (.iconst 0, 1) := by decide +kernel
theorem dX11_back_56 : decode cX11_back 56 = .ok (.putfield 107, 3) := by decide +kernel
theorem dX11_back_59 : decode cX11_back 59 = .ok (.aload_n 0, 1) := by decide +kernel
theorem dX11_back_60 : decode cX11_back 60 = .ok (.getfield 7, 3) := by decide +kernel
theorem dX11_back_63 : decode cX11_back 63 = .ok (.iconst 0, 1) := by decide +kernel
theorem dX11_back_64 : decode cX11_back 64 = .ok (.iaload, 1) := by decide +kernel
theorem dX11_back_65 : decode cX11_back 65 = .ok (.ireturn, 1) := by decide +kernel
theorem dX11_stretches_0 : decode cX11_stretches 0 = .ok (.iconst 0, 1) := by decide +kernel
theorem dX11_stretches_1 : decode cX11_stretches 1 = .ok (.istore_n 1, 1) := by decide +kernel
theorem dX11_stretches_2 : decode cX11_stretches 2 = .ok (.iconst 0, 1) := by decide +kernel
theorem dX11_stretches_3 : decode cX11_stretches 3 = .ok (.istore_n 2, 1) := by decide +kernel
theorem dX11_stretches_4 : decode cX11_stretches 4 = .ok (.iload_n 2, 1) := by decide +kernel
theorem dX11_stretches_5 : decode cX11_stretches 5 = .ok (.aload_n 0, 1) := by decide +kernel
theorem dX11_stretches_6 : decode cX11_stretches 6 = .ok (.getfield 7, 3) := by decide +kernel
theorem dX11_stretches_9 : decode cX11_stretches 9 = .ok (.iconst 0, 1) := by decide +kernel
theorem dX11_stretches_10 : decode cX11_stretches 10 = .ok (.iaload, 1) := by decide +kernel
theorem dX11_stretches_11 : decode cX11_stretches 11 = .ok (.if_icmp .ge 25, 3) := by decide +kernel
theorem dX11_stretches_14 : decode cX11_stretches 14 = .ok (.iload_n 1, 1) := by decide +kernel
theorem dX11_stretches_15 : decode cX11_stretches 15 = .ok (.aload_n 0, 1) := by decide +kernel
theorem dX11_stretches_16 : decode cX11_stretches 16 = .ok (.iload_n 2, 1) := by decide +kernel
theorem dX11_stretches_17 : decode cX11_stretches 17 = .ok (.invokevirtual 133, 3) := by decide +kernel
theorem dX11_stretches_20 : decode cX11_stretches 20 = .ok (.ifCond .eq 7, 3) := by decide +kernel
theorem dX11_stretches_23 : decode cX11_stretches 23 = .ok (.iconst 1, 1) := by decide +kernel
theorem dX11_stretches_24 : decode cX11_stretches 24 = .ok (.goto 4, 3) := by decide +kernel
theorem dX11_stretches_27 : decode cX11_stretches 27 = .ok (.iconst 0, 1) := by decide +kernel
theorem dX11_stretches_28 : decode cX11_stretches 28 = .ok (.iadd, 1) := by decide +kernel
theorem dX11_stretches_29 : decode cX11_stretches 29 = .ok (.istore_n 1, 1) := by decide +kernel
theorem dX11_stretches_30 : decode cX11_stretches 30 = .ok (.iinc 2 1, 3) := by decide +kernel
theorem dX11_stretches_33 : decode cX11_stretches 33 = .ok (.goto (-29), 3) := by decide +kernel
theorem dX11_stretches_36 : decode cX11_stretches 36 = .ok (.iload_n 1, 1) := by decide +kernel
theorem dX11_stretches_37 : decode cX11_stretches 37 = .ok (.ireturn, 1) := by decide +kernel
theorem dX11_late_0 : decode cX11_late 0 = .ok (.aload_n 0, 1) := by decide +kernel
theorem dX11_late_1 : decode cX11_late 1 = .ok (.aload_n 0, 1) := by decide +kernel
theorem dX11_late_2 : decode cX11_late 2 = .ok (.getfield 7, 3) := by decide +kernel
theorem dX11_late_5 : decode cX11_late 5 = .ok (.iconst 1, 1) := by decide +kernel
theorem dX11_late_6 : decode cX11_late 6 = .ok (.iaload, 1) := by decide +kernel
theorem dX11_late_7 : decode cX11_late 7 = .ok (.invokevirtual 172, 3) := by decide +kernel
theorem dX11_late_10 : decode cX11_late 10 = .ok (.istore_n 1, 1) := by decide +kernel
theorem dX11_late_11 : decode cX11_late 11 = .ok (.bipush (-9), 2) := by decide +kernel
theorem dX11_late_13 : decode cX11_late 13 = .ok (.istore_n 2, 1) := by decide +kernel
theorem dX11_late_14 : decode cX11_late 14 = .ok (.iconst 0, 1) := by decide +kernel
theorem dX11_late_15 : decode cX11_late 15 = .ok (.istore_n 3, 1) := by decide +kernel
theorem dX11_late_16 : decode cX11_late 16 = .ok (.iload_n 3, 1) := by decide +kernel
theorem dX11_late_17 : decode cX11_late 17 = .ok (.aload_n 0, 1) := by decide +kernel
theorem dX11_late_18 : decode cX11_late 18 = .ok (.getfield 7, 3) := by decide +kernel
theorem dX11_late_21 : decode cX11_late 21 = .ok (.iconst 0, 1) := by decide +kernel
theorem dX11_late_22 : decode cX11_late 22 = .ok (.iaload, 1) := by decide +kernel
theorem dX11_late_23 : decode cX11_late 23 = .ok (.if_icmp .ge 66, 3) := by decide +kernel
theorem dX11_late_26 : decode cX11_late 26 = .ok (.aload_n 0, 1) := by decide +kernel
theorem dX11_late_27 : decode cX11_late 27 = .ok (.iload_n 3, 1) := by decide +kernel
theorem dX11_late_28 : decode cX11_late 28 = .ok (.invokevirtual 130, 3) := by decide +kernel
theorem dX11_late_31 : decode cX11_late 31 = .ok (.ifCond .eq 52, 3) := by decide +kernel
theorem dX11_late_34 : decode cX11_late 34 = .ok (.iload_n 3, 1) := by decide +kernel
theorem dX11_late_35 : decode cX11_late 35 = .ok (.istore 4, 2) := by decide +kernel
theorem dX11_late_37 : decode cX11_late 37 = .ok (.iload_n 1, 1) := by decide +kernel
theorem dX11_late_38 : decode cX11_late 38 = .ok (.iload 4, 2) := by decide +kernel
theorem dX11_late_40 : decode cX11_late 40 = .ok (.invokestatic 87, 3) := by decide +kernel
theorem dX11_late_43 : decode cX11_late 43 = .ok (.ifCond .ne 9, 3) := by decide +kernel
theorem dX11_late_46 : decode cX11_late 46 = .ok (.iinc 4 1, 3) := by decide +kernel
theorem dX11_late_49 : decode cX11_late 49 = .ok (.goto (-12), 3) := by decide +kernel
theorem dX11_late_52 : decode cX11_late 52 = .ok (.aload_n 0, 1) := by decide +kernel
theorem dX11_late_53 : decode cX11_late 53 = .ok (.iload_n 1, 1) := by decide +kernel
theorem dX11_late_54 : decode cX11_late 54 = .ok (.iload 4, 2) := by decide +kernel
theorem dX11_late_56 : decode cX11_late 56 = .ok (.invokevirtual 189, 3) := by decide +kernel
theorem dX11_late_59 : decode cX11_late 59 = .ok (.aload_n 0, 1) := by decide +kernel
theorem dX11_late_60 : decode cX11_late 60 = .ok (.getfield 7, 3) := by decide +kernel
theorem dX11_late_63 : decode cX11_late 63 = .ok (.iconst 3, 1) := by decide +kernel
theorem dX11_late_64 : decode cX11_late 64 = .ok (.iload_n 3, 1) := by decide +kernel
theorem dX11_late_65 : decode cX11_late 65 = .ok (.iadd, 1) := by decide +kernel
theorem dX11_late_66 : decode cX11_late 66 = .ok (.iaload, 1) := by decide +kernel
theorem dX11_late_67 : decode cX11_late 67 = .ok (.isub, 1) := by decide +kernel
theorem dX11_late_68 : decode cX11_late 68 = .ok (.istore 5, 2) := by decide +kernel
theorem dX11_late_70 : decode cX11_late 70 = .ok (.iload 5, 2) := by decide +kernel
theorem dX11_late_72 : decode cX11_late 72 = .ok (.iload_n 2, 1) := by decide +kernel
theorem dX11_late_73 : decode cX11_late 73 = .ok (.if_icmp .le 8, 3) := by decide +kernel
theorem dX11_late_76 : decode cX11_late 76 = .ok (.iload 5, 2) := by decide +kernel
theorem dX11_late_78 : decode cX11_late 78 = .ok (.goto 4, 3) := by decide +kernel
theorem dX11_late_81 : decode cX11_late 81 = .ok (.iload_n 2, 1) := by decide +kernel
theorem dX11_late_82 : decode cX11_late 82 = .ok (.istore_n 2, 1) := by decide +kernel
theorem dX11_late_83 : decode cX11_late 83 = .ok (.iinc 3 1, 3) := by decide +kernel
theorem dX11_late_86 : decode cX11_late 86 = .ok (.goto (-70), 3) := by decide +kernel
theorem dX11_late_89 : decode cX11_late 89 = .ok (.iload_n 2, 1) := by decide +kernel
theorem dX11_late_90 : decode cX11_late 90 = .ok (.ireturn, 1) := by decide +kernel
theorem dX11_count_0 : decode cX11_count 0 = .ok (.iload_n 1, 1) := by decide +kernel
theorem dX11_count_1 : decode cX11_count 1 = .ok (.tableswitch 135 0 10 #[59, 66, 73, 80, 85, 99, 107, 115, 120, 125, 130], 59) := by decide +kernel
theorem dX11_count_60 : decode cX11_count 60 = .ok (.aload_n 0, 1) := by decide +kernel
theorem dX11_count_61 : decode cX11_count 61 = .ok (.getfield 7, 3) := by decide +kernel
theorem dX11_count_64 : decode cX11_count 64 = .ok (.iconst 0, 1) := by decide +kernel
theorem dX11_count_65 : decode cX11_count 65 = .ok (.iaload, 1) := by decide +kernel
theorem dX11_count_66 : decode cX11_count 66 = .ok (.ireturn, 1) := by decide +kernel
theorem dX11_count_67 : decode cX11_count 67 = .ok (.aload_n 0, 1) := by decide +kernel
theorem dX11_count_68 : decode cX11_count 68 = .ok (.getfield 7, 3) := by decide +kernel
theorem dX11_count_71 : decode cX11_count 71 = .ok (.iconst 1, 1) := by decide +kernel
theorem dX11_count_72 : decode cX11_count 72 = .ok (.iaload, 1) := by decide +kernel
theorem dX11_count_73 : decode cX11_count 73 = .ok (.ireturn, 1) := by decide +kernel
theorem dX11_count_74 : decode cX11_count 74 = .ok (.aload_n 0, 1) := by decide +kernel
theorem dX11_count_75 : decode cX11_count 75 = .ok (.getfield 7, 3) := by decide +kernel
theorem dX11_count_78 : decode cX11_count 78 = .ok (.iconst 2, 1) := by decide +kernel
theorem dX11_count_79 : decode cX11_count 79 = .ok (.iaload, 1) := by decide +kernel
theorem dX11_count_80 : decode cX11_count 80 = .ok (.ireturn, 1) := by decide +kernel
theorem dX11_count_81 : decode cX11_count 81 = .ok (.aload_n 0, 1) := by decide +kernel
theorem dX11_count_82 : decode cX11_count 82 = .ok (.invokevirtual 202, 3) := by decide +kernel
theorem dX11_count_85 : decode cX11_count 85 = .ok (.ireturn, 1) := by decide +kernel
theorem dX11_count_86 : decode cX11_count 86 = .ok (.aload_n 0, 1) := by decide +kernel
theorem dX11_count_87 : decode cX11_count 87 = .ok (.aload_n 0, 1) := by decide +kernel
theorem dX11_count_88 : decode cX11_count 88 = .ok (.getfield 7, 3) := by decide +kernel
theorem dX11_count_91 : decode cX11_count 91 = .ok (.iconst 1, 1) := by decide +kernel
theorem dX11_count_92 : decode cX11_count 92 = .ok (.iaload, 1) := by decide +kernel
theorem dX11_count_93 : decode cX11_count 93 = .ok (.invokevirtual 172, 3) := by decide +kernel
theorem dX11_count_96 : decode cX11_count 96 = .ok (.invokestatic 186, 3) := by decide +kernel
theorem dX11_count_99 : decode cX11_count 99 = .ok (.ireturn, 1) := by decide +kernel
theorem dX11_count_100 : decode cX11_count 100 = .ok (.aload_n 0, 1) := by decide +kernel
theorem dX11_count_101 : decode cX11_count 101 = .ok (.invokevirtual 180, 3) := by decide +kernel
theorem dX11_count_104 : decode cX11_count 104 = .ok (.invokestatic 186, 3) := by decide +kernel
theorem dX11_count_107 : decode cX11_count 107 = .ok (.ireturn, 1) := by decide +kernel
theorem dX11_count_108 : decode cX11_count 108 = .ok (.aload_n 0, 1) := by decide +kernel
theorem dX11_count_109 : decode cX11_count 109 = .ok (.invokevirtual 176, 3) := by decide +kernel
theorem dX11_count_112 : decode cX11_count 112 = .ok (.invokestatic 186, 3) := by decide +kernel
theorem dX11_count_115 : decode cX11_count 115 = .ok (.ireturn, 1) := by decide +kernel
theorem dX11_count_116 : decode cX11_count 116 = .ok (.aload_n 0, 1) := by decide +kernel
theorem dX11_count_117 : decode cX11_count 117 = .ok (.invokevirtual 205, 3) := by decide +kernel
theorem dX11_count_120 : decode cX11_count 120 = .ok (.ireturn, 1) := by decide +kernel
theorem dX11_count_121 : decode cX11_count 121 = .ok (.aload_n 0, 1) := by decide +kernel
theorem dX11_count_122 : decode cX11_count 122 = .ok (.getfield 110, 3) := by decide +kernel
theorem dX11_count_125 : decode cX11_count 125 = .ok (.ireturn, 1) := by decide +kernel
theorem dX11_count_126 : decode cX11_count 126 = .ok (.aload_n 0, 1) := by decide +kernel
theorem dX11_count_127 : decode cX11_count 127 = .ok (.getfield 52, 3) := by decide +kernel
theorem dX11_count_130 : decode cX11_count 130 = .ok (.ireturn, 1) := by decide +kernel
theorem dX11_count_131 : decode cX11_count 131 = .ok (.aload_n 0, 1) := by decide +kernel
theorem dX11_count_132 : decode cX11_count 132 = .ok (.getfield 107, 3) := by decide +kernel
theorem dX11_count_135 : decode cX11_count 135 = .ok (.ireturn, 1) := by decide +kernel
theorem dX11_count_136 : decode cX11_count 136 = .ok (.iconst (-1), 1) := by decide +kernel
theorem dX11_count_137 : decode cX11_count 137 = .ok (.ireturn, 1) := by decide +kernel
theorem dJ6_bitCount_0f7a4_0 : decode cJ6_bitCount_0f7a4 0 = .ok (.iload_n 0, 1) := by decide +kernel
theorem dJ6_bitCount_0f7a4_1 : decode cJ6_bitCount_0f7a4 1 = .ok (.iload_n 0, 1) := by decide +kernel
theorem dJ6_bitCount_0f7a4_2 : decode cJ6_bitCount_0f7a4 2 = .ok (.iconst 1, 1) := by decide +kernel
theorem dJ6_bitCount_0f7a4_3 : decode cJ6_bitCount_0f7a4 3 = .ok (.iushr, 1) := by decide +kernel
theorem dJ6_bitCount_0f7a4_4 : decode cJ6_bitCount_0f7a4 4 = .ok (.ldc_w 265, 3) := by decide +kernel
theorem dJ6_bitCount_0f7a4_7 : decode cJ6_bitCount_0f7a4 7 = .ok (.iand, 1) := by decide +kernel
theorem dJ6_bitCount_0f7a4_8 : decode cJ6_bitCount_0f7a4 8 = .ok (.isub, 1) := by decide +kernel
theorem dJ6_bitCount_0f7a4_9 : decode cJ6_bitCount_0f7a4 9 = .ok (.istore_n 0, 1) := by decide +kernel
theorem dJ6_bitCount_0f7a4_10 : decode cJ6_bitCount_0f7a4 10 = .ok (.iload_n 0, 1) := by decide +kernel
theorem dJ6_bitCount_0f7a4_11 : decode cJ6_bitCount_0f7a4 11 = .ok (.ldc_w 266, 3) := by decide +kernel
theorem dJ6_bitCount_0f7a4_14 : decode cJ6_bitCount_0f7a4 14 = .ok (.iand, 1) := by decide +kernel
theorem dJ6_bitCount_0f7a4_15 : decode cJ6_bitCount_0f7a4 15 = .ok (.iload_n 0, 1) := by decide +kernel
theorem dJ6_bitCount_0f7a4_16 : decode cJ6_bitCount_0f7a4 16 = .ok (.iconst 2, 1) := by decide +kernel
theorem dJ6_bitCount_0f7a4_17 : decode cJ6_bitCount_0f7a4 17 = .ok (.iushr, 1) := by decide +kernel
theorem dJ6_bitCount_0f7a4_18 : decode cJ6_bitCount_0f7a4 18 = .ok (.ldc_w 266, 3) := by decide +kernel
theorem dJ6_bitCount_0f7a4_21 : decode cJ6_bitCount_0f7a4 21 = .ok (.iand, 1) := by decide +kernel
theorem dJ6_bitCount_0f7a4_22 : decode cJ6_bitCount_0f7a4 22 = .ok (.iadd, 1) := by decide +kernel
theorem dJ6_bitCount_0f7a4_23 : decode cJ6_bitCount_0f7a4 23 = .ok (.istore_n 0, 1) := by decide +kernel
theorem dJ6_bitCount_0f7a4_24 : decode cJ6_bitCount_0f7a4 24 = .ok (.iload_n 0, 1) := by decide +kernel
theorem dJ6_bitCount_0f7a4_25 : decode cJ6_bitCount_0f7a4 25 = .ok (.iload_n 0, 1) := by decide +kernel
theorem dJ6_bitCount_0f7a4_26 : decode cJ6_bitCount_0f7a4 26 = .ok (.iconst 4, 1) := by decide +kernel
theorem dJ6_bitCount_0f7a4_27 : decode cJ6_bitCount_0f7a4 27 = .ok (.iushr, 1) := by decide +kernel
theorem dJ6_bitCount_0f7a4_28 : decode cJ6_bitCount_0f7a4 28 = .ok (.iadd, 1) := by decide +kernel
theorem dJ6_bitCount_0f7a4_29 : decode cJ6_bitCount_0f7a4 29 = .ok (.ldc_w 267, 3) := by decide +kernel
theorem dJ6_bitCount_0f7a4_32 : decode cJ6_bitCount_0f7a4 32 = .ok (.iand, 1) := by decide +kernel
theorem dJ6_bitCount_0f7a4_33 : decode cJ6_bitCount_0f7a4 33 = .ok (.istore_n 0, 1) := by decide +kernel
theorem dJ6_bitCount_0f7a4_34 : decode cJ6_bitCount_0f7a4 34 = .ok (.iload_n 0, 1) := by decide +kernel
theorem dJ6_bitCount_0f7a4_35 : decode cJ6_bitCount_0f7a4 35 = .ok (.iload_n 0, 1) := by decide +kernel
theorem dJ6_bitCount_0f7a4_36 : decode cJ6_bitCount_0f7a4 36 = .ok (.bipush 8, 2) := by decide +kernel
theorem dJ6_bitCount_0f7a4_38 : decode cJ6_bitCount_0f7a4 38 = .ok (.iushr, 1) := by decide +kernel
theorem dJ6_bitCount_0f7a4_39 : decode cJ6_bitCount_0f7a4 39 = .ok (.iadd, 1) := by decide +kernel
theorem dJ6_bitCount_0f7a4_40 : decode cJ6_bitCount_0f7a4 40 = .ok (.istore_n 0, 1) := by decide +kernel
theorem dJ6_bitCount_0f7a4_41 : decode cJ6_bitCount_0f7a4 41 = .ok (.iload_n 0, 1) := by decide +kernel
theorem dJ6_bitCount_0f7a4_42 : decode cJ6_bitCount_0f7a4 42 = .ok (.iload_n 0, 1) := by decide +kernel
theorem dJ6_bitCount_0f7a4_43 : decode cJ6_bitCount_0f7a4 43 = .ok (.bipush 16, 2) := by decide +kernel
theorem dJ6_bitCount_0f7a4_45 : decode cJ6_bitCount_0f7a4 45 = .ok (.iushr, 1) := by decide +kernel
theorem dJ6_bitCount_0f7a4_46 : decode cJ6_bitCount_0f7a4 46 = .ok (.iadd, 1) := by decide +kernel
theorem dJ6_bitCount_0f7a4_47 : decode cJ6_bitCount_0f7a4 47 = .ok (.istore_n 0, 1) := by decide +kernel
theorem dJ6_bitCount_0f7a4_48 : decode cJ6_bitCount_0f7a4 48 = .ok (.iload_n 0, 1) := by decide +kernel
theorem dJ6_bitCount_0f7a4_49 : decode cJ6_bitCount_0f7a4 49 = .ok (.bipush 63, 2) := by decide +kernel
theorem dJ6_bitCount_0f7a4_51 : decode cJ6_bitCount_0f7a4 51 = .ok (.iand, 1) := by decide +kernel
theorem dJ6_bitCount_0f7a4_52 : decode cJ6_bitCount_0f7a4 52 = .ok (.ireturn, 1) := by decide +kernel
theorem dJ9_abs_0f7a4_0 : decode cJ9_abs_0f7a4 0 = .ok (.iload_n 0, 1) := by decide +kernel
theorem dJ9_abs_0f7a4_1 : decode cJ9_abs_0f7a4 1 = .ok (.ifCond .ge 8, 3) := by decide +kernel
theorem dJ9_abs_0f7a4_4 : decode cJ9_abs_0f7a4 4 = .ok (.iload_n 0, 1) := by decide +kernel
theorem dJ9_abs_0f7a4_5 : decode cJ9_abs_0f7a4 5 = .ok (.ineg, 1) := by decide +kernel
theorem dJ9_abs_0f7a4_6 : decode cJ9_abs_0f7a4 6 = .ok (.goto 4, 3) := by decide +kernel
theorem dJ9_abs_0f7a4_9 : decode cJ9_abs_0f7a4 9 = .ok (.iload_n 0, 1) := by decide +kernel
theorem dJ9_abs_0f7a4_10 : decode cJ9_abs_0f7a4 10 = .ok (.ireturn, 1) := by decide +kernel
theorem dJ9_max_7cf53_0 : decode cJ9_max_7cf53 0 = .ok (.iload_n 0, 1) := by decide +kernel
theorem dJ9_max_7cf53_1 : decode cJ9_max_7cf53 1 = .ok (.iload_n 1, 1) := by decide +kernel
theorem dJ9_max_7cf53_2 : decode cJ9_max_7cf53 2 = .ok (.if_icmp .lt 7, 3) := by decide +kernel
theorem dJ9_max_7cf53_5 : decode cJ9_max_7cf53 5 = .ok (.iload_n 0, 1) := by decide +kernel
theorem dJ9_max_7cf53_6 : decode cJ9_max_7cf53 6 = .ok (.goto 4, 3) := by decide +kernel
theorem dJ9_max_7cf53_9 : decode cJ9_max_7cf53 9 = .ok (.iload_n 1, 1) := by decide +kernel
theorem dJ9_max_7cf53_10 : decode cJ9_max_7cf53 10 = .ok (.ireturn, 1) := by decide +kernel
theorem dJ9_min_7cf53_0 : decode cJ9_min_7cf53 0 = .ok (.iload_n 0, 1) := by decide +kernel
theorem dJ9_min_7cf53_1 : decode cJ9_min_7cf53 1 = .ok (.iload_n 1, 1) := by decide +kernel
theorem dJ9_min_7cf53_2 : decode cJ9_min_7cf53 2 = .ok (.if_icmp .gt 7, 3) := by decide +kernel
theorem dJ9_min_7cf53_5 : decode cJ9_min_7cf53 5 = .ok (.iload_n 0, 1) := by decide +kernel
theorem dJ9_min_7cf53_6 : decode cJ9_min_7cf53 6 = .ok (.goto 4, 3) := by decide +kernel
theorem dJ9_min_7cf53_9 : decode cJ9_min_7cf53 9 = .ok (.iload_n 1, 1) := by decide +kernel
theorem dJ9_min_7cf53_10 : decode cJ9_min_7cf53 10 = .ok (.ireturn, 1) := by decide +kernel
theorem dL_law_0 : decode cL_law 0 = .ok (.new 7, 3) := by decide +kernel
theorem dL_law_3 : decode cL_law 3 = .ok (.dup, 1) := by decide +kernel
theorem dL_law_4 : decode cL_law 4 = .ok (.invokespecial 9, 3) := by decide +kernel
theorem dL_law_7 : decode cL_law 7 = .ok (.astore_n 1, 1) := by decide +kernel
theorem dL_law_8 : decode cL_law 8 = .ok (.new 10, 3) := by decide +kernel
theorem dL_law_11 : decode cL_law 11 = .ok (.dup, 1) := by decide +kernel
theorem dL_law_12 : decode cL_law 12 = .ok (.invokespecial 12, 3) := by decide +kernel
theorem dL_law_15 : decode cL_law 15 = .ok (.astore_n 2, 1) := by decide +kernel
theorem dL_law_16 : decode cL_law 16 = .ok (.iconst 0, 1) := by decide +kernel
theorem dL_law_17 : decode cL_law 17 = .ok (.istore_n 3, 1) := by decide +kernel
theorem dL_law_18 : decode cL_law 18 = .ok (.iload_n 3, 1) := by decide +kernel
theorem dL_law_19 : decode cL_law 19 = .ok (.aload_n 0, 1) := by decide +kernel
theorem dL_law_20 : decode cL_law 20 = .ok (.arraylength, 1) := by decide +kernel
theorem dL_law_21 : decode cL_law 21 = .ok (.iconst 4, 1) := by decide +kernel
theorem dL_law_22 : decode cL_law 22 = .ok (.isub, 1) := by decide +kernel
theorem dL_law_23 : decode cL_law 23 = .ok (.if_icmp .gt 648, 3) := by decide +kernel
theorem dL_law_26 : decode cL_law 26 = .ok (.aload_n 0, 1) := by decide +kernel
theorem dL_law_27 : decode cL_law 27 = .ok (.iload_n 3, 1) := by decide +kernel
theorem dL_law_28 : decode cL_law 28 = .ok (.iaload, 1) := by decide +kernel
theorem dL_law_29 : decode cL_law 29 = .ok (.bipush 31, 2) := by decide +kernel
theorem dL_law_31 : decode cL_law 31 = .ok (.iand, 1) := by decide +kernel
theorem dL_law_32 : decode cL_law 32 = .ok (.tableswitch 633 0 20 #[100, 123, 136, 149, 182, 205, 228, 251, 274, 287, 320, 363, 396, 439, 482, 515, 528, 551, 564, 587, 610], 100) := by decide +kernel
theorem dL_law_132 : decode cL_law 132 = .ok (.aload_n 1, 1) := by decide +kernel
theorem dL_law_133 : decode cL_law 133 = .ok (.aload_n 0, 1) := by decide +kernel
theorem dL_law_134 : decode cL_law 134 = .ok (.iload_n 3, 1) := by decide +kernel
theorem dL_law_135 : decode cL_law 135 = .ok (.iconst 1, 1) := by decide +kernel
theorem dL_law_136 : decode cL_law 136 = .ok (.iadd, 1) := by decide +kernel
theorem dL_law_137 : decode cL_law 137 = .ok (.iaload, 1) := by decide +kernel
theorem dL_law_138 : decode cL_law 138 = .ok (.invokevirtual 13, 3) := by decide +kernel
theorem dL_law_141 : decode cL_law 141 = .ok (.aload_n 2, 1) := by decide +kernel
theorem dL_law_142 : decode cL_law 142 = .ok (.aload_n 0, 1) := by decide +kernel
theorem dL_law_143 : decode cL_law 143 = .ok (.iload_n 3, 1) := by decide +kernel
theorem dL_law_144 : decode cL_law 144 = .ok (.iconst 1, 1) := by decide +kernel
theorem dL_law_145 : decode cL_law 145 = .ok (.iadd, 1) := by decide +kernel
theorem dL_law_146 : decode cL_law 146 = .ok (.iaload, 1) := by decide +kernel
theorem dL_law_147 : decode cL_law 147 = .ok (.invokevirtual 17, 3) := by decide +kernel
theorem dL_law_150 : decode cL_law 150 = .ok (.if_icmp .eq 515, 3) := by decide +kernel
theorem dL_law_153 : decode cL_law 153 = .ok (.iconst 0, 1) := by decide +kernel
theorem dL_law_154 : decode cL_law 154 = .ok (.ireturn, 1) := by decide +kernel
theorem dL_law_155 : decode cL_law 155 = .ok (.aload_n 1, 1) := by decide +kernel
theorem dL_law_156 : decode cL_law 156 = .ok (.invokevirtual 18, 3) := by decide +kernel
theorem dL_law_159 : decode cL_law 159 = .ok (.aload_n 2, 1) := by decide +kernel
theorem dL_law_160 : decode cL_law 160 = .ok (.invokevirtual 22, 3) := by decide +kernel
theorem dL_law_163 : decode cL_law 163 = .ok (.if_icmp .eq 502, 3) := by decide +kernel
theorem dL_law_166 : decode cL_law 166 = .ok (.iconst 0, 1) := by decide +kernel
theorem dL_law_167 : decode cL_law 167 = .ok (.ireturn, 1) := by decide +kernel
theorem dL_law_168 : decode cL_law 168 = .ok (.aload_n 1, 1) := by decide +kernel
theorem dL_law_169 : decode cL_law 169 = .ok (.invokevirtual 23, 3) := by decide +kernel
theorem dL_law_172 : decode cL_law 172 = .ok (.aload_n 2, 1) := by decide +kernel
theorem dL_law_173 : decode cL_law 173 = .ok (.invokevirtual 26, 3) := by decide +kernel
theorem dL_law_176 : decode cL_law 176 = .ok (.if_icmp .eq 489, 3) := by decide +kernel
theorem dL_law_179 : decode cL_law 179 = .ok (.iconst 0, 1) := by decide +kernel
theorem dL_law_180 : decode cL_law 180 = .ok (.ireturn, 1) := by decide +kernel
theorem dL_law_181 : decode cL_law 181 = .ok (.aload_n 1, 1) := by decide +kernel
theorem dL_law_182 : decode cL_law 182 = .ok (.aload_n 0, 1) := by decide +kernel
theorem dL_law_183 : decode cL_law 183 = .ok (.iload_n 3, 1) := by decide +kernel
theorem dL_law_184 : decode cL_law 184 = .ok (.iconst 1, 1) := by decide +kernel
theorem dL_law_185 : decode cL_law 185 = .ok (.iadd, 1) := by decide +kernel
theorem dL_law_186 : decode cL_law 186 = .ok (.iaload, 1) := by decide +kernel
theorem dL_law_187 : decode cL_law 187 = .ok (.aload_n 0, 1) := by decide +kernel
theorem dL_law_188 : decode cL_law 188 = .ok (.iload_n 3, 1) := by decide +kernel
theorem dL_law_189 : decode cL_law 189 = .ok (.iconst 2, 1) := by decide +kernel
theorem dL_law_190 : decode cL_law 190 = .ok (.iadd, 1) := by decide +kernel
theorem dL_law_191 : decode cL_law 191 = .ok (.iaload, 1) := by decide +kernel
theorem dL_law_192 : decode cL_law 192 = .ok (.invokevirtual 27, 3) := by decide +kernel
theorem dL_law_195 : decode cL_law 195 = .ok (.aload_n 2, 1) := by decide +kernel
theorem dL_law_196 : decode cL_law 196 = .ok (.aload_n 0, 1) := by decide +kernel
theorem dL_law_197 : decode cL_law 197 = .ok (.iload_n 3, 1) := by decide +kernel
theorem dL_law_198 : decode cL_law 198 = .ok (.iconst 1, 1) := by decide +kernel
theorem dL_law_199 : decode cL_law 199 = .ok (.iadd, 1) := by decide +kernel
theorem dL_law_200 : decode cL_law 200 = .ok (.iaload, 1) := by decide +kernel
theorem dL_law_201 : decode cL_law 201 = .ok (.aload_n 0, 1) := by decide +kernel
theorem dL_law_202 : decode cL_law 202 = .ok (.iload_n 3, 1) := by decide +kernel
theorem dL_law_203 : decode cL_law 203 = .ok (.iconst 2, 1) := by decide +kernel
theorem dL_law_204 : decode cL_law 204 = .ok (.iadd, 1) := by decide +kernel
theorem dL_law_205 : decode cL_law 205 = .ok (.iaload, 1) := by decide +kernel
theorem dL_law_206 : decode cL_law 206 = .ok (.invokevirtual 31, 3) := by decide +kernel
theorem dL_law_209 : decode cL_law 209 = .ok (.if_icmp .eq 456, 3) := by decide +kernel
theorem dL_law_212 : decode cL_law 212 = .ok (.iconst 0, 1) := by decide +kernel
theorem dL_law_213 : decode cL_law 213 = .ok (.ireturn, 1) := by decide +kernel
theorem dL_law_214 : decode cL_law 214 = .ok (.aload_n 1, 1) := by decide +kernel
theorem dL_law_215 : decode cL_law 215 = .ok (.aload_n 0, 1) := by decide +kernel
theorem dL_law_216 : decode cL_law 216 = .ok (.iload_n 3, 1) := by decide +kernel
theorem dL_law_217 : decode cL_law 217 = .ok (.iconst 1, 1) := by decide +kernel
theorem dL_law_218 : decode cL_law 218 = .ok (.iadd, 1) := by decide +kernel
theorem dL_law_219 : decode cL_law 219 = .ok (.iaload, 1) := by decide +kernel
theorem dL_law_220 : decode cL_law 220 = .ok (.invokevirtual 32, 3) := by decide +kernel
theorem dL_law_223 : decode cL_law 223 = .ok (.aload_n 2, 1) := by decide +kernel
theorem dL_law_224 : decode cL_law 224 = .ok (.aload_n 0, 1) := by decide +kernel
theorem dL_law_225 : decode cL_law 225 = .ok (.iload_n 3, 1) := by decide +kernel
theorem dL_law_226 : decode cL_law 226 = .ok (.iconst 1, 1) := by decide +kernel
theorem dL_law_227 : decode cL_law 227 = .ok (.iadd, 1) := by decide +kernel
theorem dL_law_228 : decode cL_law 228 = .ok (.iaload, 1) := by decide +kernel
theorem dL_law_229 : decode cL_law 229 = .ok (.invokevirtual 35, 3) := by decide +kernel
theorem dL_law_232 : decode cL_law 232 = .ok (.if_icmp .eq 433, 3) := by decide +kernel
theorem dL_law_235 : decode cL_law 235 = .ok (.iconst 0, 1) := by decide +kernel
theorem dL_law_236 : decode cL_law 236 = .ok (.ireturn, 1) := by decide +kernel
theorem dL_law_237 : decode cL_law 237 = .ok (.aload_n 1, 1) := by decide +kernel
theorem dL_law_238 : decode cL_law 238 = .ok (.aload_n 0, 1) := by decide +kernel
theorem dL_law_239 : decode cL_law 239 = .ok (.iload_n 3, 1) := by decide +kernel
theorem dL_law_240 : decode cL_law 240 = .ok (.iconst 1, 1) := by decide +kernel
theorem dL_law_241 : decode cL_law 241 = .ok (.iadd, 1) := by decide +kernel
theorem dL_law_242 : decode cL_law 242 = .ok (.iaload, 1) := by decide +kernel
theorem dL_law_243 : decode cL_law 243 = .ok (.invokevirtual 36, 3) := by decide +kernel
theorem dL_law_246 : decode cL_law 246 = .ok (.aload_n 2, 1) := by decide +kernel
theorem dL_law_247 : decode cL_law 247 = .ok (.aload_n 0, 1) := by decide +kernel
theorem dL_law_248 : decode cL_law 248 = .ok (.iload_n 3, 1) := by decide +kernel
theorem dL_law_249 : decode cL_law 249 = .ok (.iconst 1, 1) := by decide +kernel
theorem dL_law_250 : decode cL_law 250 = .ok (.iadd, 1) := by decide +kernel
theorem dL_law_251 : decode cL_law 251 = .ok (.iaload, 1) := by decide +kernel
theorem dL_law_252 : decode cL_law 252 = .ok (.invokevirtual 39, 3) := by decide +kernel
theorem dL_law_255 : decode cL_law 255 = .ok (.if_icmp .eq 410, 3) := by decide +kernel
theorem dL_law_258 : decode cL_law 258 = .ok (.iconst 0, 1) := by decide +kernel
theorem dL_law_259 : decode cL_law 259 = .ok (.ireturn, 1) := by decide +kernel
theorem dL_law_260 : decode cL_law 260 = .ok (.aload_n 1, 1) := by decide +kernel
theorem dL_law_261 : decode cL_law 261 = .ok (.aload_n 0, 1) := by decide +kernel
theorem dL_law_262 : decode cL_law 262 = .ok (.iload_n 3, 1) := by decide +kernel
theorem dL_law_263 : decode cL_law 263 = .ok (.iconst 1, 1) := by decide +kernel
theorem dL_law_264 : decode cL_law 264 = .ok (.iadd, 1) := by decide +kernel
theorem dL_law_265 : decode cL_law 265 = .ok (.iaload, 1) := by decide +kernel
theorem dL_law_266 : decode cL_law 266 = .ok (.invokevirtual 40, 3) := by decide +kernel
theorem dL_law_269 : decode cL_law 269 = .ok (.aload_n 2, 1) := by decide +kernel
theorem dL_law_270 : decode cL_law 270 = .ok (.aload_n 0, 1) := by decide +kernel
theorem dL_law_271 : decode cL_law 271 = .ok (.iload_n 3, 1) := by decide +kernel
theorem dL_law_272 : decode cL_law 272 = .ok (.iconst 1, 1) := by decide +kernel
theorem dL_law_273 : decode cL_law 273 = .ok (.iadd, 1) := by decide +kernel
theorem dL_law_274 : decode cL_law 274 = .ok (.iaload, 1) := by decide +kernel
theorem dL_law_275 : decode cL_law 275 = .ok (.invokevirtual 43, 3) := by decide +kernel
theorem dL_law_278 : decode cL_law 278 = .ok (.if_icmp .eq 387, 3) := by decide +kernel
theorem dL_law_281 : decode cL_law 281 = .ok (.iconst 0, 1) := by decide +kernel
theorem dL_law_282 : decode cL_law 282 = .ok (.ireturn, 1) := by decide +kernel
theorem dL_law_283 : decode cL_law 283 = .ok (.aload_n 1, 1) := by decide +kernel
theorem dL_law_284 : decode cL_law 284 = .ok (.aload_n 0, 1) := by decide +kernel
theorem dL_law_285 : decode cL_law 285 = .ok (.iload_n 3, 1) := by decide +kernel
theorem dL_law_286 : decode cL_law 286 = .ok (.iconst 1, 1) := by decide +kernel
theorem dL_law_287 : decode cL_law 287 = .ok (.iadd, 1) := by decide +kernel
theorem dL_law_288 : decode cL_law 288 = .ok (.iaload, 1) := by decide +kernel
theorem dL_law_289 : decode cL_law 289 = .ok (.invokevirtual 44, 3) := by decide +kernel
theorem dL_law_292 : decode cL_law 292 = .ok (.aload_n 2, 1) := by decide +kernel
theorem dL_law_293 : decode cL_law 293 = .ok (.aload_n 0, 1) := by decide +kernel
theorem dL_law_294 : decode cL_law 294 = .ok (.iload_n 3, 1) := by decide +kernel
theorem dL_law_295 : decode cL_law 295 = .ok (.iconst 1, 1) := by decide +kernel
theorem dL_law_296 : decode cL_law 296 = .ok (.iadd, 1) := by decide +kernel
theorem dL_law_297 : decode cL_law 297 = .ok (.iaload, 1) := by decide +kernel
theorem dL_law_298 : decode cL_law 298 = .ok (.invokevirtual 47, 3) := by decide +kernel
theorem dL_law_301 : decode cL_law 301 = .ok (.if_icmp .eq 364, 3) := by decide +kernel
theorem dL_law_304 : decode cL_law 304 = .ok (.iconst 0, 1) := by decide +kernel
theorem dL_law_305 : decode cL_law 305 = .ok (.ireturn, 1) := by decide +kernel
theorem dL_law_306 : decode cL_law 306 = .ok (.aload_n 1, 1) := by decide +kernel
theorem dL_law_307 : decode cL_law 307 = .ok (.invokevirtual 48, 3) := by decide +kernel
theorem dL_law_310 : decode cL_law 310 = .ok (.aload_n 2, 1) := by decide +kernel
theorem dL_law_311 : decode cL_law 311 = .ok (.invokevirtual 51, 3) := by decide +kernel
theorem dL_law_314 : decode cL_law 314 = .ok (.if_icmp .eq 351, 3) := by decide +kernel
theorem dL_law_317 : decode cL_law 317 = .ok (.iconst 0, 1) := by decide +kernel
theorem dL_law_318 : decode cL_law 318 = .ok (.ireturn, 1) := by decide +kernel
theorem dL_law_319 : decode cL_law 319 = .ok (.aload_n 1, 1) := by decide +kernel
theorem dL_law_320 : decode cL_law 320 = .ok (.aload_n 0, 1) := by decide +kernel
theorem dL_law_321 : decode cL_law 321 = .ok (.iload_n 3, 1) := by decide +kernel
theorem dL_law_322 : decode cL_law 322 = .ok (.iconst 1, 1) := by decide +kernel
theorem dL_law_323 : decode cL_law 323 = .ok (.iadd, 1) := by decide +kernel
theorem dL_law_324 : decode cL_law 324 = .ok (.iaload, 1) := by decide +kernel
theorem dL_law_325 : decode cL_law 325 = .ok (.aload_n 0, 1) := by decide +kernel
theorem dL_law_326 : decode cL_law 326 = .ok (.iload_n 3, 1) := by decide +kernel
theorem dL_law_327 : decode cL_law 327 = .ok (.iconst 2, 1) := by decide +kernel
theorem dL_law_328 : decode cL_law 328 = .ok (.iadd, 1) := by decide +kernel
theorem dL_law_329 : decode cL_law 329 = .ok (.iaload, 1) := by decide +kernel
theorem dL_law_330 : decode cL_law 330 = .ok (.invokevirtual 52, 3) := by decide +kernel
theorem dL_law_333 : decode cL_law 333 = .ok (.aload_n 2, 1) := by decide +kernel
theorem dL_law_334 : decode cL_law 334 = .ok (.aload_n 0, 1) := by decide +kernel
theorem dL_law_335 : decode cL_law 335 = .ok (.iload_n 3, 1) := by decide +kernel
theorem dL_law_336 : decode cL_law 336 = .ok (.iconst 1, 1) := by decide +kernel
theorem dL_law_337 : decode cL_law 337 = .ok (.iadd, 1) := by decide +kernel
theorem dL_law_338 : decode cL_law 338 = .ok (.iaload, 1) := by decide +kernel
theorem dL_law_339 : decode cL_law 339 = .ok (.aload_n 0, 1) := by decide +kernel
theorem dL_law_340 : decode cL_law 340 = .ok (.iload_n 3, 1) := by decide +kernel
theorem dL_law_341 : decode cL_law 341 = .ok (.iconst 2, 1) := by decide +kernel
theorem dL_law_342 : decode cL_law 342 = .ok (.iadd, 1) := by decide +kernel
theorem dL_law_343 : decode cL_law 343 = .ok (.iaload, 1) := by decide +kernel
theorem dL_law_344 : decode cL_law 344 = .ok (.invokevirtual 55, 3) := by decide +kernel
theorem dL_law_347 : decode cL_law 347 = .ok (.if_icmp .eq 318, 3) := by decide +kernel
theorem dL_law_350 : decode cL_law 350 = .ok (.iconst 0, 1) := by decide +kernel
theorem dL_law_351 : decode cL_law 351 = .ok (.ireturn, 1) := by decide +kernel
theorem dL_law_352 : decode cL_law 352 = .ok (.aload_n 1, 1) := by decide +kernel
theorem dL_law_353 : decode cL_law 353 = .ok (.aload_n 0, 1) := by decide +kernel
theorem dL_law_354 : decode cL_law 354 = .ok (.iload_n 3, 1) := by decide +kernel
theorem dL_law_355 : decode cL_law 355 = .ok (.iconst 1, 1) := by decide +kernel
theorem dL_law_356 : decode cL_law 356 = .ok (.iadd, 1) := by decide +kernel
theorem dL_law_357 : decode cL_law 357 = .ok (.iaload, 1) := by decide +kernel
theorem dL_law_358 : decode cL_law 358 = .ok (.aload_n 0, 1) := by decide +kernel
theorem dL_law_359 : decode cL_law 359 = .ok (.iload_n 3, 1) := by decide +kernel
theorem dL_law_360 : decode cL_law 360 = .ok (.iconst 2, 1) := by decide +kernel
theorem dL_law_361 : decode cL_law 361 = .ok (.iadd, 1) := by decide +kernel
theorem dL_law_362 : decode cL_law 362 = .ok (.iaload, 1) := by decide +kernel
theorem dL_law_363 : decode cL_law 363 = .ok (.aload_n 0, 1) := by decide +kernel
theorem dL_law_364 : decode cL_law 364 = .ok (.iload_n 3, 1) := by decide +kernel
theorem dL_law_365 : decode cL_law 365 = .ok (.iconst 3, 1) := by decide +kernel
theorem dL_law_366 : decode cL_law 366 = .ok (.iadd, 1) := by decide +kernel
theorem dL_law_367 : decode cL_law 367 = .ok (.iaload, 1) := by decide +kernel
theorem dL_law_368 : decode cL_law 368 = .ok (.invokevirtual 56, 3) := by decide +kernel
theorem dL_law_371 : decode cL_law 371 = .ok (.aload_n 2, 1) := by decide +kernel
theorem dL_law_372 : decode cL_law 372 = .ok (.aload_n 0, 1) := by decide +kernel
theorem dL_law_373 : decode cL_law 373 = .ok (.iload_n 3, 1) := by decide +kernel
theorem dL_law_374 : decode cL_law 374 = .ok (.iconst 1, 1) := by decide +kernel
theorem dL_law_375 : decode cL_law 375 = .ok (.iadd, 1) := by decide +kernel
theorem dL_law_376 : decode cL_law 376 = .ok (.iaload, 1) := by decide +kernel
theorem dL_law_377 : decode cL_law 377 = .ok (.aload_n 0, 1) := by decide +kernel
theorem dL_law_378 : decode cL_law 378 = .ok (.iload_n 3, 1) := by decide +kernel
theorem dL_law_379 : decode cL_law 379 = .ok (.iconst 2, 1) := by decide +kernel
theorem dL_law_380 : decode cL_law 380 = .ok (.iadd, 1) := by decide +kernel
theorem dL_law_381 : decode cL_law 381 = .ok (.iaload, 1) := by decide +kernel
theorem dL_law_382 : decode cL_law 382 = .ok (.aload_n 0, 1) := by decide +kernel
theorem dL_law_383 : decode cL_law 383 = .ok (.iload_n 3, 1) := by decide +kernel
theorem dL_law_384 : decode cL_law 384 = .ok (.iconst 3, 1) := by decide +kernel
theorem dL_law_385 : decode cL_law 385 = .ok (.iadd, 1) := by decide +kernel
theorem dL_law_386 : decode cL_law 386 = .ok (.iaload, 1) := by decide +kernel
theorem dL_law_387 : decode cL_law 387 = .ok (.invokevirtual 60, 3) := by decide +kernel
theorem dL_law_390 : decode cL_law 390 = .ok (.if_icmp .eq 275, 3) := by decide +kernel
theorem dL_law_393 : decode cL_law 393 = .ok (.iconst 0, 1) := by decide +kernel
theorem dL_law_394 : decode cL_law 394 = .ok (.ireturn, 1) := by decide +kernel
theorem dL_law_395 : decode cL_law 395 = .ok (.aload_n 1, 1) := by decide +kernel
theorem dL_law_396 : decode cL_law 396 = .ok (.aload_n 0, 1) := by decide +kernel
theorem dL_law_397 : decode cL_law 397 = .ok (.iload_n 3, 1) := by decide +kernel
theorem dL_law_398 : decode cL_law 398 = .ok (.iconst 1, 1) := by decide +kernel
theorem dL_law_399 : decode cL_law 399 = .ok (.iadd, 1) := by decide +kernel
theorem dL_law_400 : decode cL_law 400 = .ok (.iaload, 1) := by decide +kernel
theorem dL_law_401 : decode cL_law 401 = .ok (.aload_n 0, 1) := by decide +kernel
theorem dL_law_402 : decode cL_law 402 = .ok (.iload_n 3, 1) := by decide +kernel
theorem dL_law_403 : decode cL_law 403 = .ok (.iconst 2, 1) := by decide +kernel
theorem dL_law_404 : decode cL_law 404 = .ok (.iadd, 1) := by decide +kernel
theorem dL_law_405 : decode cL_law 405 = .ok (.iaload, 1) := by decide +kernel
theorem dL_law_406 : decode cL_law 406 = .ok (.invokevirtual 61, 3) := by decide +kernel
theorem dL_law_409 : decode cL_law 409 = .ok (.aload_n 2, 1) := by decide +kernel
theorem dL_law_410 : decode cL_law 410 = .ok (.aload_n 0, 1) := by decide +kernel
theorem dL_law_411 : decode cL_law 411 = .ok (.iload_n 3, 1) := by decide +kernel
theorem dL_law_412 : decode cL_law 412 = .ok (.iconst 1, 1) := by decide +kernel
theorem dL_law_413 : decode cL_law 413 = .ok (.iadd, 1) := by decide +kernel
theorem dL_law_414 : decode cL_law 414 = .ok (.iaload, 1) := by decide +kernel
theorem dL_law_415 : decode cL_law 415 = .ok (.aload_n 0, 1) := by decide +kernel
theorem dL_law_416 : decode cL_law 416 = .ok (.iload_n 3, 1) := by decide +kernel
theorem dL_law_417 : decode cL_law 417 = .ok (.iconst 2, 1) := by decide +kernel
theorem dL_law_418 : decode cL_law 418 = .ok (.iadd, 1) := by decide +kernel
theorem dL_law_419 : decode cL_law 419 = .ok (.iaload, 1) := by decide +kernel
theorem dL_law_420 : decode cL_law 420 = .ok (.invokevirtual 64, 3) := by decide +kernel
theorem dL_law_423 : decode cL_law 423 = .ok (.if_icmp .eq 242, 3) := by decide +kernel
theorem dL_law_426 : decode cL_law 426 = .ok (.iconst 0, 1) := by decide +kernel
theorem dL_law_427 : decode cL_law 427 = .ok (.ireturn, 1) := by decide +kernel
theorem dL_law_428 : decode cL_law 428 = .ok (.aload_n 1, 1) := by decide +kernel
theorem dL_law_429 : decode cL_law 429 = .ok (.aload_n 0, 1) := by decide +kernel
theorem dL_law_430 : decode cL_law 430 = .ok (.iload_n 3, 1) := by decide +kernel
theorem dL_law_431 : decode cL_law 431 = .ok (.iconst 1, 1) := by decide +kernel
theorem dL_law_432 : decode cL_law 432 = .ok (.iadd, 1) := by decide +kernel
theorem dL_law_433 : decode cL_law 433 = .ok (.iaload, 1) := by decide +kernel
theorem dL_law_434 : decode cL_law 434 = .ok (.aload_n 0, 1) := by decide +kernel
theorem dL_law_435 : decode cL_law 435 = .ok (.iload_n 3, 1) := by decide +kernel
theorem dL_law_436 : decode cL_law 436 = .ok (.iconst 2, 1) := by decide +kernel
theorem dL_law_437 : decode cL_law 437 = .ok (.iadd, 1) := by decide +kernel
theorem dL_law_438 : decode cL_law 438 = .ok (.iaload, 1) := by decide +kernel
theorem dL_law_439 : decode cL_law 439 = .ok (.aload_n 0, 1) := by decide +kernel
theorem dL_law_440 : decode cL_law 440 = .ok (.iload_n 3, 1) := by decide +kernel
theorem dL_law_441 : decode cL_law 441 = .ok (.iconst 3, 1) := by decide +kernel
theorem dL_law_442 : decode cL_law 442 = .ok (.iadd, 1) := by decide +kernel
theorem dL_law_443 : decode cL_law 443 = .ok (.iaload, 1) := by decide +kernel
theorem dL_law_444 : decode cL_law 444 = .ok (.invokevirtual 65, 3) := by decide +kernel
theorem dL_law_447 : decode cL_law 447 = .ok (.aload_n 2, 1) := by decide +kernel
theorem dL_law_448 : decode cL_law 448 = .ok (.aload_n 0, 1) := by decide +kernel
theorem dL_law_449 : decode cL_law 449 = .ok (.iload_n 3, 1) := by decide +kernel
theorem dL_law_450 : decode cL_law 450 = .ok (.iconst 1, 1) := by decide +kernel
theorem dL_law_451 : decode cL_law 451 = .ok (.iadd, 1) := by decide +kernel
theorem dL_law_452 : decode cL_law 452 = .ok (.iaload, 1) := by decide +kernel
theorem dL_law_453 : decode cL_law 453 = .ok (.aload_n 0, 1) := by decide +kernel
theorem dL_law_454 : decode cL_law 454 = .ok (.iload_n 3, 1) := by decide +kernel
theorem dL_law_455 : decode cL_law 455 = .ok (.iconst 2, 1) := by decide +kernel
theorem dL_law_456 : decode cL_law 456 = .ok (.iadd, 1) := by decide +kernel
theorem dL_law_457 : decode cL_law 457 = .ok (.iaload, 1) := by decide +kernel
theorem dL_law_458 : decode cL_law 458 = .ok (.aload_n 0, 1) := by decide +kernel
theorem dL_law_459 : decode cL_law 459 = .ok (.iload_n 3, 1) := by decide +kernel
theorem dL_law_460 : decode cL_law 460 = .ok (.iconst 3, 1) := by decide +kernel
theorem dL_law_461 : decode cL_law 461 = .ok (.iadd, 1) := by decide +kernel
theorem dL_law_462 : decode cL_law 462 = .ok (.iaload, 1) := by decide +kernel
theorem dL_law_463 : decode cL_law 463 = .ok (.invokevirtual 68, 3) := by decide +kernel
theorem dL_law_466 : decode cL_law 466 = .ok (.if_icmp .eq 199, 3) := by decide +kernel
theorem dL_law_469 : decode cL_law 469 = .ok (.iconst 0, 1) := by decide +kernel
theorem dL_law_470 : decode cL_law 470 = .ok (.ireturn, 1) := by decide +kernel
theorem dL_law_471 : decode cL_law 471 = .ok (.aload_n 1, 1) := by decide +kernel
theorem dL_law_472 : decode cL_law 472 = .ok (.aload_n 0, 1) := by decide +kernel
theorem dL_law_473 : decode cL_law 473 = .ok (.iload_n 3, 1) := by decide +kernel
theorem dL_law_474 : decode cL_law 474 = .ok (.iconst 1, 1) := by decide +kernel
theorem dL_law_475 : decode cL_law 475 = .ok (.iadd, 1) := by decide +kernel
theorem dL_law_476 : decode cL_law 476 = .ok (.iaload, 1) := by decide +kernel
theorem dL_law_477 : decode cL_law 477 = .ok (.aload_n 0, 1) := by decide +kernel
theorem dL_law_478 : decode cL_law 478 = .ok (.iload_n 3, 1) := by decide +kernel
theorem dL_law_479 : decode cL_law 479 = .ok (.iconst 2, 1) := by decide +kernel
theorem dL_law_480 : decode cL_law 480 = .ok (.iadd, 1) := by decide +kernel
theorem dL_law_481 : decode cL_law 481 = .ok (.iaload, 1) := by decide +kernel
theorem dL_law_482 : decode cL_law 482 = .ok (.aload_n 0, 1) := by decide +kernel
theorem dL_law_483 : decode cL_law 483 = .ok (.iload_n 3, 1) := by decide +kernel
theorem dL_law_484 : decode cL_law 484 = .ok (.iconst 3, 1) := by decide +kernel
theorem dL_law_485 : decode cL_law 485 = .ok (.iadd, 1) := by decide +kernel
theorem dL_law_486 : decode cL_law 486 = .ok (.iaload, 1) := by decide +kernel
theorem dL_law_487 : decode cL_law 487 = .ok (.invokevirtual 69, 3) := by decide +kernel
theorem dL_law_490 : decode cL_law 490 = .ok (.aload_n 2, 1) := by decide +kernel
theorem dL_law_491 : decode cL_law 491 = .ok (.aload_n 0, 1) := by decide +kernel
theorem dL_law_492 : decode cL_law 492 = .ok (.iload_n 3, 1) := by decide +kernel
theorem dL_law_493 : decode cL_law 493 = .ok (.iconst 1, 1) := by decide +kernel
theorem dL_law_494 : decode cL_law 494 = .ok (.iadd, 1) := by decide +kernel
theorem dL_law_495 : decode cL_law 495 = .ok (.iaload, 1) := by decide +kernel
theorem dL_law_496 : decode cL_law 496 = .ok (.aload_n 0, 1) := by decide +kernel
theorem dL_law_497 : decode cL_law 497 = .ok (.iload_n 3, 1) := by decide +kernel
theorem dL_law_498 : decode cL_law 498 = .ok (.iconst 2, 1) := by decide +kernel
theorem dL_law_499 : decode cL_law 499 = .ok (.iadd, 1) := by decide +kernel
theorem dL_law_500 : decode cL_law 500 = .ok (.iaload, 1) := by decide +kernel
theorem dL_law_501 : decode cL_law 501 = .ok (.aload_n 0, 1) := by decide +kernel
theorem dL_law_502 : decode cL_law 502 = .ok (.iload_n 3, 1) := by decide +kernel
theorem dL_law_503 : decode cL_law 503 = .ok (.iconst 3, 1) := by decide +kernel
theorem dL_law_504 : decode cL_law 504 = .ok (.iadd, 1) := by decide +kernel
theorem dL_law_505 : decode cL_law 505 = .ok (.iaload, 1) := by decide +kernel
theorem dL_law_506 : decode cL_law 506 = .ok (.invokevirtual 72, 3) := by decide +kernel
theorem dL_law_509 : decode cL_law 509 = .ok (.if_icmp .eq 156, 3) := by decide +kernel
theorem dL_law_512 : decode cL_law 512 = .ok (.iconst 0, 1) := by decide +kernel
theorem dL_law_513 : decode cL_law 513 = .ok (.ireturn, 1) := by decide +kernel
theorem dL_law_514 : decode cL_law 514 = .ok (.aload_n 1, 1) := by decide +kernel
theorem dL_law_515 : decode cL_law 515 = .ok (.aload_n 0, 1) := by decide +kernel
theorem dL_law_516 : decode cL_law 516 = .ok (.iload_n 3, 1) := by decide +kernel
theorem dL_law_517 : decode cL_law 517 = .ok (.iconst 1, 1) := by decide +kernel
theorem dL_law_518 : decode cL_law 518 = .ok (.iadd, 1) := by decide +kernel
theorem dL_law_519 : decode cL_law 519 = .ok (.iaload, 1) := by decide +kernel
theorem dL_law_520 : decode cL_law 520 = .ok (.aload_n 0, 1) := by decide +kernel
theorem dL_law_521 : decode cL_law 521 = .ok (.iload_n 3, 1) := by decide +kernel
theorem dL_law_522 : decode cL_law 522 = .ok (.iconst 2, 1) := by decide +kernel
theorem dL_law_523 : decode cL_law 523 = .ok (.iadd, 1) := by decide +kernel
theorem dL_law_524 : decode cL_law 524 = .ok (.iaload, 1) := by decide +kernel
theorem dL_law_525 : decode cL_law 525 = .ok (.invokevirtual 73, 3) := by decide +kernel
theorem dL_law_528 : decode cL_law 528 = .ok (.aload_n 2, 1) := by decide +kernel
theorem dL_law_529 : decode cL_law 529 = .ok (.aload_n 0, 1) := by decide +kernel
theorem dL_law_530 : decode cL_law 530 = .ok (.iload_n 3, 1) := by decide +kernel
theorem dL_law_531 : decode cL_law 531 = .ok (.iconst 1, 1) := by decide +kernel
theorem dL_law_532 : decode cL_law 532 = .ok (.iadd, 1) := by decide +kernel
theorem dL_law_533 : decode cL_law 533 = .ok (.iaload, 1) := by decide +kernel
theorem dL_law_534 : decode cL_law 534 = .ok (.aload_n 0, 1) := by decide +kernel
theorem dL_law_535 : decode cL_law 535 = .ok (.iload_n 3, 1) := by decide +kernel
theorem dL_law_536 : decode cL_law 536 = .ok (.iconst 2, 1) := by decide +kernel
theorem dL_law_537 : decode cL_law 537 = .ok (.iadd, 1) := by decide +kernel
theorem dL_law_538 : decode cL_law 538 = .ok (.iaload, 1) := by decide +kernel
theorem dL_law_539 : decode cL_law 539 = .ok (.invokevirtual 76, 3) := by decide +kernel
theorem dL_law_542 : decode cL_law 542 = .ok (.if_icmp .eq 123, 3) := by decide +kernel
theorem dL_law_545 : decode cL_law 545 = .ok (.iconst 0, 1) := by decide +kernel
theorem dL_law_546 : decode cL_law 546 = .ok (.ireturn, 1) := by decide +kernel
theorem dL_law_547 : decode cL_law 547 = .ok (.aload_n 1, 1) := by decide +kernel
theorem dL_law_548 : decode cL_law 548 = .ok (.invokevirtual 77, 3) := by decide +kernel
theorem dL_law_551 : decode cL_law 551 = .ok (.aload_n 2, 1) := by decide +kernel
theorem dL_law_552 : decode cL_law 552 = .ok (.invokevirtual 80, 3) := by decide +kernel
theorem dL_law_555 : decode cL_law 555 = .ok (.if_icmp .eq 110, 3) := by decide +kernel
theorem dL_law_558 : decode cL_law 558 = .ok (.iconst 0, 1) := by decide +kernel
theorem dL_law_559 : decode cL_law 559 = .ok (.ireturn, 1) := by decide +kernel
theorem dL_law_560 : decode cL_law 560 = .ok (.aload_n 1, 1) := by decide +kernel
theorem dL_law_561 : decode cL_law 561 = .ok (.aload_n 0, 1) := by decide +kernel
theorem dL_law_562 : decode cL_law 562 = .ok (.iload_n 3, 1) := by decide +kernel
theorem dL_law_563 : decode cL_law 563 = .ok (.iconst 1, 1) := by decide +kernel
theorem dL_law_564 : decode cL_law 564 = .ok (.iadd, 1) := by decide +kernel
theorem dL_law_565 : decode cL_law 565 = .ok (.iaload, 1) := by decide +kernel
theorem dL_law_566 : decode cL_law 566 = .ok (.invokevirtual 81, 3) := by decide +kernel
theorem dL_law_569 : decode cL_law 569 = .ok (.aload_n 2, 1) := by decide +kernel
theorem dL_law_570 : decode cL_law 570 = .ok (.aload_n 0, 1) := by decide +kernel
theorem dL_law_571 : decode cL_law 571 = .ok (.iload_n 3, 1) := by decide +kernel
theorem dL_law_572 : decode cL_law 572 = .ok (.iconst 1, 1) := by decide +kernel
theorem dL_law_573 : decode cL_law 573 = .ok (.iadd, 1) := by decide +kernel
theorem dL_law_574 : decode cL_law 574 = .ok (.iaload, 1) := by decide +kernel
theorem dL_law_575 : decode cL_law 575 = .ok (.invokevirtual 84, 3) := by decide +kernel
theorem dL_law_578 : decode cL_law 578 = .ok (.if_icmp .eq 87, 3) := by decide +kernel
theorem dL_law_581 : decode cL_law 581 = .ok (.iconst 0, 1) := by decide +kernel
theorem dL_law_582 : decode cL_law 582 = .ok (.ireturn, 1) := by decide +kernel
theorem dL_law_583 : decode cL_law 583 = .ok (.aload_n 1, 1) := by decide +kernel
theorem dL_law_584 : decode cL_law 584 = .ok (.invokevirtual 85, 3) := by decide +kernel
theorem dL_law_587 : decode cL_law 587 = .ok (.aload_n 2, 1) := by decide +kernel
theorem dL_law_588 : decode cL_law 588 = .ok (.invokevirtual 88, 3) := by decide +kernel
theorem dL_law_591 : decode cL_law 591 = .ok (.if_icmp .eq 74, 3) := by decide +kernel
theorem dL_law_594 : decode cL_law 594 = .ok (.iconst 0, 1) := by decide +kernel
theorem dL_law_595 : decode cL_law 595 = .ok (.ireturn, 1) := by decide +kernel
theorem dL_law_596 : decode cL_law 596 = .ok (.aload_n 1, 1) := by decide +kernel
theorem dL_law_597 : decode cL_law 597 = .ok (.aload_n 0, 1) := by decide +kernel
theorem dL_law_598 : decode cL_law 598 = .ok (.iload_n 3, 1) := by decide +kernel
theorem dL_law_599 : decode cL_law 599 = .ok (.iconst 1, 1) := by decide +kernel
theorem dL_law_600 : decode cL_law 600 = .ok (.iadd, 1) := by decide +kernel
theorem dL_law_601 : decode cL_law 601 = .ok (.iaload, 1) := by decide +kernel
theorem dL_law_602 : decode cL_law 602 = .ok (.invokevirtual 89, 3) := by decide +kernel
theorem dL_law_605 : decode cL_law 605 = .ok (.aload_n 2, 1) := by decide +kernel
theorem dL_law_606 : decode cL_law 606 = .ok (.aload_n 0, 1) := by decide +kernel
theorem dL_law_607 : decode cL_law 607 = .ok (.iload_n 3, 1) := by decide +kernel
theorem dL_law_608 : decode cL_law 608 = .ok (.iconst 1, 1) := by decide +kernel
theorem dL_law_609 : decode cL_law 609 = .ok (.iadd, 1) := by decide +kernel
theorem dL_law_610 : decode cL_law 610 = .ok (.iaload, 1) := by decide +kernel
theorem dL_law_611 : decode cL_law 611 = .ok (.invokevirtual 92, 3) := by decide +kernel
theorem dL_law_614 : decode cL_law 614 = .ok (.if_icmp .eq 51, 3) := by decide +kernel
theorem dL_law_617 : decode cL_law 617 = .ok (.iconst 0, 1) := by decide +kernel
theorem dL_law_618 : decode cL_law 618 = .ok (.ireturn, 1) := by decide +kernel
theorem dL_law_619 : decode cL_law 619 = .ok (.aload_n 1, 1) := by decide +kernel
theorem dL_law_620 : decode cL_law 620 = .ok (.aload_n 0, 1) := by decide +kernel
theorem dL_law_621 : decode cL_law 621 = .ok (.iload_n 3, 1) := by decide +kernel
theorem dL_law_622 : decode cL_law 622 = .ok (.iconst 1, 1) := by decide +kernel
theorem dL_law_623 : decode cL_law 623 = .ok (.iadd, 1) := by decide +kernel
theorem dL_law_624 : decode cL_law 624 = .ok (.iaload, 1) := by decide +kernel
theorem dL_law_625 : decode cL_law 625 = .ok (.invokevirtual 93, 3) := by decide +kernel
theorem dL_law_628 : decode cL_law 628 = .ok (.aload_n 2, 1) := by decide +kernel
theorem dL_law_629 : decode cL_law 629 = .ok (.aload_n 0, 1) := by decide +kernel
theorem dL_law_630 : decode cL_law 630 = .ok (.iload_n 3, 1) := by decide +kernel
theorem dL_law_631 : decode cL_law 631 = .ok (.iconst 1, 1) := by decide +kernel
theorem dL_law_632 : decode cL_law 632 = .ok (.iadd, 1) := by decide +kernel
theorem dL_law_633 : decode cL_law 633 = .ok (.iaload, 1) := by decide +kernel
theorem dL_law_634 : decode cL_law 634 = .ok (.invokevirtual 96, 3) := by decide +kernel
theorem dL_law_637 : decode cL_law 637 = .ok (.if_icmp .eq 28, 3) := by decide +kernel
theorem dL_law_640 : decode cL_law 640 = .ok (.iconst 0, 1) := by decide +kernel
theorem dL_law_641 : decode cL_law 641 = .ok (.ireturn, 1) := by decide +kernel
theorem dL_law_642 : decode cL_law 642 = .ok (.aload_n 1, 1) := by decide +kernel
theorem dL_law_643 : decode cL_law 643 = .ok (.aload_n 0, 1) := by decide +kernel
theorem dL_law_644 : decode cL_law 644 = .ok (.iload_n 3, 1) := by decide +kernel
theorem dL_law_645 : decode cL_law 645 = .ok (.iconst 1, 1) := by decide +kernel
theorem dL_law_646 : decode cL_law 646 = .ok (.iadd, 1) := by decide +kernel
theorem dL_law_647 : decode cL_law 647 = .ok (.iaload, 1) := by decide +kernel
theorem dL_law_648 : decode cL_law 648 = .ok (.invokevirtual 97, 3) := by decide +kernel
theorem dL_law_651 : decode cL_law 651 = .ok (.aload_n 2, 1) := by decide +kernel
theorem dL_law_652 : decode cL_law 652 = .ok (.aload_n 0, 1) := by decide +kernel
theorem dL_law_653 : decode cL_law 653 = .ok (.iload_n 3, 1) := by decide +kernel
theorem dL_law_654 : decode cL_law 654 = .ok (.iconst 1, 1) := by decide +kernel
theorem dL_law_655 : decode cL_law 655 = .ok (.iadd, 1) := by decide +kernel
theorem dL_law_656 : decode cL_law 656 = .ok (.iaload, 1) := by decide +kernel
theorem dL_law_657 : decode cL_law 657 = .ok (.invokevirtual 100, 3) := by decide +kernel
theorem dL_law_660 : decode cL_law 660 = .ok (.if_icmp .eq 5, 3) := by decide +kernel
theorem dL_law_663 : decode cL_law 663 = .ok (.iconst 0, 1) := by decide +kernel
theorem dL_law_664 : decode cL_law 664 = .ok (.ireturn, 1) := by decide +kernel
theorem dL_law_665 : decode cL_law 665 = .ok (.iinc 3 4, 3) := by decide +kernel
theorem dL_law_668 : decode cL_law 668 = .ok (.goto (-650), 3) := by decide +kernel
theorem dL_law_671 : decode cL_law 671 = .ok (.iconst 1, 1) := by decide +kernel
theorem dL_law_672 : decode cL_law 672 = .ok (.ireturn, 1) := by decide +kernel
