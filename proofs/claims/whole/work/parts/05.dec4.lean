theorem dX10_thrown_0 : decode cX10_thrown 0 = .ok (.aload_n 0, 1) := by decide +kernel
theorem dX10_thrown_1 : decode cX10_thrown 1 = .ok (.getfield 160, 3) := by decide +kernel
theorem dX10_thrown_4 : decode cX10_thrown 4 = .ok (.ireturn, 1) := by decide +kernel
theorem dX10_feed_0 : decode cX10_feed 0 = .ok (.aload_n 0, 1) := by decide +kernel
theorem dX10_feed_1 : decode cX10_feed 1 = .ok (.iconst 0, 1) := by decide +kernel
theorem dX10_feed_2 : decode cX10_feed 2 = .ok (.putfield 160, 3) := by decide +kernel
theorem dX10_feed_5 : decode cX10_feed 5 = .ok (.aload_n 0, 1) := by decide +kernel
theorem dX10_feed_6 : decode cX10_feed 6 = .ok (.getfield 163, 3) := by decide +kernel
theorem dX10_feed_9 : decode cX10_feed 9 = .ok (.sipush 680, 3) := by decide +kernel
theorem dX10_feed_12 : decode cX10_feed 12 = .ok (.if_icmp .le 5, 3) := by decide +kernel
theorem dX10_feed_15 : decode cX10_feed 15 = .ok (.iconst (-1), 1) := by decide +kernel
theorem dX10_feed_16 : decode cX10_feed 16 = .ok (.ireturn, 1) := by decide +kernel
theorem dX10_feed_17 : decode cX10_feed 17 = .ok (.iconst 0, 1) := by decide +kernel
theorem dX10_feed_18 : decode cX10_feed 18 = .ok (.istore 6, 2) := by decide +kernel
theorem dX10_feed_20 : decode cX10_feed 20 = .ok (.iload 6, 2) := by decide +kernel
theorem dX10_feed_22 : decode cX10_feed 22 = .ok (.bipush 20, 2) := by decide +kernel
theorem dX10_feed_24 : decode cX10_feed 24 = .ok (.if_icmp .ge 86, 3) := by decide +kernel
theorem dX10_feed_27 : decode cX10_feed 27 = .ok (.iload 6, 2) := by decide +kernel
theorem dX10_feed_29 : decode cX10_feed 29 = .ok (.iconst 4, 1) := by decide +kernel
theorem dX10_feed_30 : decode cX10_feed 30 = .ok (.if_icmp .ge 7, 3) := by decide +kernel
theorem dX10_feed_33 : decode cX10_feed 33 = .ok (.iload_n 1, 1) := by decide +kernel
theorem dX10_feed_34 : decode cX10_feed 34 = .ok (.goto 39, 3) := by decide +kernel
theorem dX10_feed_37 : decode cX10_feed 37 = .ok (.iload 6, 2) := by decide +kernel
theorem dX10_feed_39 : decode cX10_feed 39 = .ok (.bipush 8, 2) := by decide +kernel
theorem dX10_feed_41 : decode cX10_feed 41 = .ok (.if_icmp .ge 7, 3) := by decide +kernel
theorem dX10_feed_44 : decode cX10_feed 44 = .ok (.iload_n 2, 1) := by decide +kernel
theorem dX10_feed_45 : decode cX10_feed 45 = .ok (.goto 28, 3) := by decide +kernel
theorem dX10_feed_48 : decode cX10_feed 48 = .ok (.iload 6, 2) := by decide +kernel
theorem dX10_feed_50 : decode cX10_feed 50 = .ok (.bipush 12, 2) := by decide +kernel
theorem dX10_feed_52 : decode cX10_feed 52 = .ok (.if_icmp .ge 7, 3) := by decide +kernel
theorem dX10_feed_55 : decode cX10_feed 55 = .ok (.iload_n 3, 1) := by decide +kernel
theorem dX10_feed_56 : decode cX10_feed 56 = .ok (.goto 17, 3) := by decide +kernel
theorem dX10_feed_59 : decode cX10_feed 59 = .ok (.iload 6, 2) := by decide +kernel
theorem dX10_feed_61 : decode cX10_feed 61 = .ok (.bipush 16, 2) := by decide +kernel
theorem dX10_feed_63 : decode cX10_feed 63 = .ok (.if_icmp .ge 8, 3) := by decide +kernel
theorem dX10_feed_66 : decode cX10_feed 66 = .ok (.iload 4, 2) := by decide +kernel
theorem dX10_feed_68 : decode cX10_feed 68 = .ok (.goto 5, 3) := by decide +kernel
theorem dX10_feed_71 : decode cX10_feed 71 = .ok (.iload 5, 2) := by decide +kernel
theorem dX10_feed_73 : decode cX10_feed 73 = .ok (.istore 7, 2) := by decide +kernel
theorem dX10_feed_75 : decode cX10_feed 75 = .ok (.aload_n 0, 1) := by decide +kernel
theorem dX10_feed_76 : decode cX10_feed 76 = .ok (.getfield 7, 3) := by decide +kernel
theorem dX10_feed_79 : decode cX10_feed 79 = .ok (.aload_n 0, 1) := by decide +kernel
theorem dX10_feed_80 : decode cX10_feed 80 = .ok (.getfield 163, 3) := by decide +kernel
theorem dX10_feed_83 : decode cX10_feed 83 = .ok (.iload 6, 2) := by decide +kernel
theorem dX10_feed_85 : decode cX10_feed 85 = .ok (.iadd, 1) := by decide +kernel
theorem dX10_feed_86 : decode cX10_feed 86 = .ok (.iload 7, 2) := by decide +kernel
theorem dX10_feed_88 : decode cX10_feed 88 = .ok (.bipush 24, 2) := by decide +kernel
theorem dX10_feed_90 : decode cX10_feed 90 = .ok (.bipush 8, 2) := by decide +kernel
theorem dX10_feed_92 : decode cX10_feed 92 = .ok (.iload 6, 2) := by decide +kernel
theorem dX10_feed_94 : decode cX10_feed 94 = .ok (.iconst 4, 1) := by decide +kernel
theorem dX10_feed_95 : decode cX10_feed 95 = .ok (.irem, 1) := by decide +kernel
theorem dX10_feed_96 : decode cX10_feed 96 = .ok (.imul, 1) := by decide +kernel
theorem dX10_feed_97 : decode cX10_feed 97 = .ok (.isub, 1) := by decide +kernel
theorem dX10_feed_98 : decode cX10_feed 98 = .ok (.ishr, 1) := by decide +kernel
theorem dX10_feed_99 : decode cX10_feed 99 = .ok (.sipush 255, 3) := by decide +kernel
theorem dX10_feed_102 : decode cX10_feed 102 = .ok (.iand, 1) := by decide +kernel
theorem dX10_feed_103 : decode cX10_feed 103 = .ok (.iastore, 1) := by decide +kernel
theorem dX10_feed_104 : decode cX10_feed 104 = .ok (.iinc 6 1, 3) := by decide +kernel
theorem dX10_feed_107 : decode cX10_feed 107 = .ok (.goto (-87), 3) := by decide +kernel
theorem dX10_feed_110 : decode cX10_feed 110 = .ok (.aload_n 0, 1) := by decide +kernel
theorem dX10_feed_111 : decode cX10_feed 111 = .ok (.dup, 1) := by decide +kernel
theorem dX10_feed_112 : decode cX10_feed 112 = .ok (.getfield 163, 3) := by decide +kernel
theorem dX10_feed_115 : decode cX10_feed 115 = .ok (.bipush 20, 2) := by decide +kernel
theorem dX10_feed_117 : decode cX10_feed 117 = .ok (.iadd, 1) := by decide +kernel
theorem dX10_feed_118 : decode cX10_feed 118 = .ok (.putfield 163, 3) := by decide +kernel
theorem dX10_feed_121 : decode cX10_feed 121 = .ok (.aload_n 0, 1) := by decide +kernel
theorem dX10_feed_122 : decode cX10_feed 122 = .ok (.getfield 163, 3) := by decide +kernel
theorem dX10_feed_125 : decode cX10_feed 125 = .ok (.ireturn, 1) := by decide +kernel
theorem dX10_here_0 : decode cX10_here 0 = .ok (.aload_n 0, 1) := by decide +kernel
theorem dX10_here_1 : decode cX10_here 1 = .ok (.getfield 166, 3) := by decide +kernel
theorem dX10_here_4 : decode cX10_here 4 = .ok (.aload_n 0, 1) := by decide +kernel
theorem dX10_here_5 : decode cX10_here 5 = .ok (.getfield 169, 3) := by decide +kernel
theorem dX10_here_8 : decode cX10_here 8 = .ok (.if_icmp .ge 15, 3) := by decide +kernel
theorem dX10_here_11 : decode cX10_here 11 = .ok (.aload_n 0, 1) := by decide +kernel
theorem dX10_here_12 : decode cX10_here 12 = .ok (.getfield 7, 3) := by decide +kernel
theorem dX10_here_15 : decode cX10_here 15 = .ok (.aload_n 0, 1) := by decide +kernel
theorem dX10_here_16 : decode cX10_here 16 = .ok (.getfield 166, 3) := by decide +kernel
theorem dX10_here_19 : decode cX10_here 19 = .ok (.iaload, 1) := by decide +kernel
theorem dX10_here_20 : decode cX10_here 20 = .ok (.goto 4, 3) := by decide +kernel
theorem dX10_here_23 : decode cX10_here 23 = .ok (.iconst (-1), 1) := by decide +kernel
theorem dX10_here_24 : decode cX10_here 24 = .ok (.ireturn, 1) := by decide +kernel
theorem dX10_isSmall_0 : decode cX10_isSmall 0 = .ok (.iload_n 0, 1) := by decide +kernel
theorem dX10_isSmall_1 : decode cX10_isSmall 1 = .ok (.bipush 97, 2) := by decide +kernel
theorem dX10_isSmall_3 : decode cX10_isSmall 3 = .ok (.if_icmp .lt 13, 3) := by decide +kernel
theorem dX10_isSmall_6 : decode cX10_isSmall 6 = .ok (.iload_n 0, 1) := by decide +kernel
theorem dX10_isSmall_7 : decode cX10_isSmall 7 = .ok (.bipush 122, 2) := by decide +kernel
theorem dX10_isSmall_9 : decode cX10_isSmall 9 = .ok (.if_icmp .gt 7, 3) := by decide +kernel
theorem dX10_isSmall_12 : decode cX10_isSmall 12 = .ok (.iconst 1, 1) := by decide +kernel
theorem dX10_isSmall_13 : decode cX10_isSmall 13 = .ok (.goto 4, 3) := by decide +kernel
theorem dX10_isSmall_16 : decode cX10_isSmall 16 = .ok (.iconst 0, 1) := by decide +kernel
theorem dX10_isSmall_17 : decode cX10_isSmall 17 = .ok (.ireturn, 1) := by decide +kernel
theorem dX10_isDigit_0 : decode cX10_isDigit 0 = .ok (.iload_n 0, 1) := by decide +kernel
theorem dX10_isDigit_1 : decode cX10_isDigit 1 = .ok (.bipush 48, 2) := by decide +kernel
theorem dX10_isDigit_3 : decode cX10_isDigit 3 = .ok (.if_icmp .lt 13, 3) := by decide +kernel
theorem dX10_isDigit_6 : decode cX10_isDigit 6 = .ok (.iload_n 0, 1) := by decide +kernel
theorem dX10_isDigit_7 : decode cX10_isDigit 7 = .ok (.bipush 57, 2) := by decide +kernel
theorem dX10_isDigit_9 : decode cX10_isDigit 9 = .ok (.if_icmp .gt 7, 3) := by decide +kernel
theorem dX10_isDigit_12 : decode cX10_isDigit 12 = .ok (.iconst 1, 1) := by decide +kernel
theorem dX10_isDigit_13 : decode cX10_isDigit 13 = .ok (.goto 4, 3) := by decide +kernel
theorem dX10_isDigit_16 : decode cX10_isDigit 16 = .ok (.iconst 0, 1) := by decide +kernel
theorem dX10_isDigit_17 : decode cX10_isDigit 17 = .ok (.ireturn, 1) := by decide +kernel
theorem dX10_token_0 : decode cX10_token 0 = .ok (.aload_n 0, 1) := by decide +kernel
theorem dX10_token_1 : decode cX10_token 1 = .ok (.invokevirtual 172, 3) := by decide +kernel
theorem dX10_token_4 : decode cX10_token 4 = .ok (.bipush 10, 2) := by decide +kernel
theorem dX10_token_6 : decode cX10_token 6 = .ok (.if_icmp .eq 12, 3) := by decide +kernel
theorem dX10_token_9 : decode cX10_token 9 = .ok (.aload_n 0, 1) := by decide +kernel
theorem dX10_token_10 : decode cX10_token 10 = .ok (.invokevirtual 172, 3) := by decide +kernel
theorem dX10_token_13 : decode cX10_token 13 = .ok (.bipush 32, 2) := by decide +kernel
theorem dX10_token_15 : decode cX10_token 15 = .ok (.if_icmp .ne 16, 3) := by decide +kernel
theorem dX10_token_18 : decode cX10_token 18 = .ok (.aload_n 0, 1) := by decide +kernel
theorem dX10_token_19 : decode cX10_token 19 = .ok (.dup, 1) := by decide +kernel
theorem dX10_token_20 : decode cX10_token 20 = .ok (.getfield 166, 3) := by decide +kernel
theorem dX10_token_23 : decode cX10_token 23 = .ok (.iconst 1, 1) := by decide +kernel
theorem dX10_token_24 : decode cX10_token 24 = .ok (.iadd, 1) := by decide +kernel
theorem dX10_token_25 : decode cX10_token 25 = .ok (.putfield 166, 3) := by decide +kernel
theorem dX10_token_28 : decode cX10_token 28 = .ok (.goto (-28), 3) := by decide +kernel
theorem dX10_token_31 : decode cX10_token 31 = .ok (.aload_n 0, 1) := by decide +kernel
theorem dX10_token_32 : decode cX10_token 32 = .ok (.aload_n 0, 1) := by decide +kernel
theorem dX10_token_33 : decode cX10_token 33 = .ok (.getfield 166, 3) := by decide +kernel
theorem dX10_token_36 : decode cX10_token 36 = .ok (.putfield 176, 3) := by decide +kernel
theorem dX10_token_39 : decode cX10_token 39 = .ok (.aload_n 0, 1) := by decide +kernel
theorem dX10_token_40 : decode cX10_token 40 = .ok (.invokevirtual 172, 3) := by decide +kernel
theorem dX10_token_43 : decode cX10_token 43 = .ok (.istore_n 1, 1) := by decide +kernel
theorem dX10_token_44 : decode cX10_token 44 = .ok (.iload_n 1, 1) := by decide +kernel
theorem dX10_token_45 : decode cX10_token 45 = .ok (.iconst (-1), 1) := by decide +kernel
theorem dX10_token_46 : decode cX10_token 46 = .ok (.if_icmp .ne 11, 3) := by decide +kernel
theorem dX10_token_49 : decode cX10_token 49 = .ok (.aload_n 0, 1) := by decide +kernel
theorem dX10_token_50 : decode cX10_token 50 = .ok (.iconst 4, 1) := by decide +kernel
theorem dX10_token_51 : decode cX10_token 51 = .ok (.putfield 179, 3) := by decide +kernel
theorem dX10_token_54 : decode cX10_token 54 = .ok (.goto 171, 3) := by decide +kernel
theorem dX10_token_57 : decode cX10_token 57 = .ok (.iload_n 1, 1) := by decide +kernel
theorem dX10_token_58 : decode cX10_token 58 = .ok (.invokestatic 182, 3) := by decide +kernel
theorem dX10_token_61 : decode cX10_token 61 = .ok (.ifCond .eq 84, 3) := by decide +kernel
theorem dX10_token_64 : decode cX10_token 64 = .ok (.aload_n 0, 1) := by decide +kernel
theorem dX10_token_65 : decode cX10_token 65 = .ok (.invokevirtual 172, 3) := by decide +kernel
theorem dX10_token_68 : decode cX10_token 68 = .ok (.invokestatic 182, 3) := by decide +kernel
theorem dX10_token_71 : decode cX10_token 71 = .ok (.ifCond .eq 16, 3) := by decide +kernel
theorem dX10_token_74 : decode cX10_token 74 = .ok (.aload_n 0, 1) := by decide +kernel
theorem dX10_token_75 : decode cX10_token 75 = .ok (.dup, 1) := by decide +kernel
theorem dX10_token_76 : decode cX10_token 76 = .ok (.getfield 166, 3) := by decide +kernel
theorem dX10_token_79 : decode cX10_token 79 = .ok (.iconst 1, 1) := by decide +kernel
theorem dX10_token_80 : decode cX10_token 80 = .ok (.iadd, 1) := by decide +kernel
theorem dX10_token_81 : decode cX10_token 81 = .ok (.putfield 166, 3) := by decide +kernel
theorem dX10_token_84 : decode cX10_token 84 = .ok (.goto (-20), 3) := by decide +kernel
theorem dX10_token_87 : decode cX10_token 87 = .ok (.aload_n 0, 1) := by decide +kernel
theorem dX10_token_88 : decode cX10_token 88 = .ok (.aload_n 0, 1) := by decide +kernel
theorem dX10_token_89 : decode cX10_token 89 = .ok (.invokevirtual 186, 3) := by decide +kernel
theorem dX10_token_92 : decode cX10_token 92 = .ok (.putfield 189, 3) := by decide +kernel
theorem dX10_token_95 : decode cX10_token 95 = .ok (.aload_n 0, 1) := by decide +kernel
theorem dX10_token_96 : decode cX10_token 96 = .ok (.aload_n 0, 1) := by decide +kernel
theorem dX10_token_97 : decode cX10_token 97 = .ok (.getfield 189, 3) := by decide +kernel
theorem dX10_token_100 : decode cX10_token 100 = .ok (.iconst (-1), 1) := by decide +kernel
theorem dX10_token_101 : decode cX10_token 101 = .ok (.if_icmp .eq 7, 3) := by decide +kernel
theorem dX10_token_104 : decode cX10_token 104 = .ok (.iconst 0, 1) := by decide +kernel
theorem dX10_token_105 : decode cX10_token 105 = .ok (.goto 22, 3) := by decide +kernel
theorem dX10_token_108 : decode cX10_token 108 = .ok (.aload_n 0, 1) := by decide +kernel
theorem dX10_token_109 : decode cX10_token 109 = .ok (.getfield 166, 3) := by decide +kernel
theorem dX10_token_112 : decode cX10_token 112 = .ok (.aload_n 0, 1) := by decide +kernel
theorem dX10_token_113 : decode cX10_token 113 = .ok (.getfield 176, 3) := by decide +kernel
theorem dX10_token_116 : decode cX10_token 116 = .ok (.isub, 1) := by decide +kernel
theorem dX10_token_117 : decode cX10_token 117 = .ok (.bipush 6, 2) := by decide +kernel
theorem dX10_token_119 : decode cX10_token 119 = .ok (.if_icmp .le 7, 3) := by decide +kernel
theorem dX10_token_122 : decode cX10_token 122 = .ok (.iconst 5, 1) := by decide +kernel
theorem dX10_token_123 : decode cX10_token 123 = .ok (.goto 4, 3) := by decide +kernel
theorem dX10_token_126 : decode cX10_token 126 = .ok (.iconst 1, 1) := by decide +kernel
theorem dX10_token_127 : decode cX10_token 127 = .ok (.putfield 179, 3) := by decide +kernel
theorem dX10_token_130 : decode cX10_token 130 = .ok (.aload_n 0, 1) := by decide +kernel
theorem dX10_token_131 : decode cX10_token 131 = .ok (.getfield 179, 3) := by decide +kernel
theorem dX10_token_134 : decode cX10_token 134 = .ok (.iconst 1, 1) := by decide +kernel
theorem dX10_token_135 : decode cX10_token 135 = .ok (.if_icmp .ne 90, 3) := by decide +kernel
theorem dX10_token_138 : decode cX10_token 138 = .ok (.aload_n 0, 1) := by decide +kernel
theorem dX10_token_139 : decode cX10_token 139 = .ok (.invokevirtual 192, 3) := by decide +kernel
theorem dX10_token_142 : decode cX10_token 142 = .ok (.goto 83, 3) := by decide +kernel
theorem dX10_token_145 : decode cX10_token 145 = .ok (.iload_n 1, 1) := by decide +kernel
theorem dX10_token_146 : decode cX10_token 146 = .ok (.invokestatic 195, 3) := by decide +kernel
theorem dX10_token_149 : decode cX10_token 149 = .ok (.ifCond .eq 71, 3) := by decide +kernel
theorem dX10_token_152 : decode cX10_token 152 = .ok (.aload_n 0, 1) := by decide +kernel
theorem dX10_token_153 : decode cX10_token 153 = .ok (.iconst 2, 1) := by decide +kernel
theorem dX10_token_154 : decode cX10_token 154 = .ok (.putfield 179, 3) := by decide +kernel
theorem dX10_token_157 : decode cX10_token 157 = .ok (.aload_n 0, 1) := by decide +kernel
theorem dX10_token_158 : decode cX10_token 158 = .ok (.iconst 0, 1) := by decide +kernel
theorem dX10_token_159 : decode cX10_token 159 = .ok (.putfield 189, 3) := by decide +kernel
theorem dX10_token_162 : decode cX10_token 162 = .ok (.aload_n 0, 1) := by decide +kernel
theorem dX10_token_163 : decode cX10_token 163 = .ok (.invokevirtual 172, 3) := by decide +kernel
theorem dX10_token_166 : decode cX10_token 166 = .ok (.invokestatic 195, 3) := by decide +kernel
theorem dX10_token_169 : decode cX10_token 169 = .ok (.ifCond .eq 56, 3) := by decide +kernel
theorem dX10_token_172 : decode cX10_token 172 = .ok (.aload_n 0, 1) := by decide +kernel
theorem dX10_token_173 : decode cX10_token 173 = .ok (.aload_n 0, 1) := by decide +kernel
theorem dX10_token_174 : decode cX10_token 174 = .ok (.getfield 189, 3) := by decide +kernel
theorem dX10_token_177 : decode cX10_token 177 = .ok (.ldc 198, 2) := by decide +kernel
theorem dX10_token_179 : decode cX10_token 179 = .ok (.if_icmp .le 10, 3) := by decide +kernel
theorem dX10_token_182 : decode cX10_token 182 = .ok (.aload_n 0, 1) := by decide +kernel
theorem dX10_token_183 : decode cX10_token 183 = .ok (.getfield 189, 3) := by decide +kernel
theorem dX10_token_186 : decode cX10_token 186 = .ok (.goto 18, 3) := by decide +kernel
theorem dX10_token_189 : decode cX10_token 189 = .ok (.bipush 10, 2) := by decide +kernel
theorem dX10_token_191 : decode cX10_token 191 = .ok (.aload_n 0, 1) := by decide +kernel
theorem dX10_token_192 : decode cX10_token 192 = .ok (.getfield 189, 3) := by decide +kernel
theorem dX10_token_195 : decode cX10_token 195 = .ok (.imul, 1) := by decide +kernel
theorem dX10_token_196 : decode cX10_token 196 = .ok (.aload_n 0, 1) := by decide +kernel
theorem dX10_token_197 : decode cX10_token 197 = .ok (.invokevirtual 172, 3) := by decide +kernel
theorem dX10_token_200 : decode cX10_token 200 = .ok (.iadd, 1) := by decide +kernel
theorem dX10_token_201 : decode cX10_token 201 = .ok (.bipush 48, 2) := by decide +kernel
theorem dX10_token_203 : decode cX10_token 203 = .ok (.isub, 1) := by decide +kernel
theorem dX10_token_204 : decode cX10_token 204 = .ok (.putfield 189, 3) := by decide +kernel
theorem dX10_token_207 : decode cX10_token 207 = .ok (.aload_n 0, 1) := by decide +kernel
theorem dX10_token_208 : decode cX10_token 208 = .ok (.dup, 1) := by decide +kernel
theorem dX10_token_209 : decode cX10_token 209 = .ok (.getfield 166, 3) := by decide +kernel
theorem dX10_token_212 : decode cX10_token 212 = .ok (.iconst 1, 1) := by decide +kernel
theorem dX10_token_213 : decode cX10_token 213 = .ok (.iadd, 1) := by decide +kernel
theorem dX10_token_214 : decode cX10_token 214 = .ok (.putfield 166, 3) := by decide +kernel
theorem dX10_token_217 : decode cX10_token 217 = .ok (.goto (-55), 3) := by decide +kernel
theorem dX10_token_220 : decode cX10_token 220 = .ok (.aload_n 0, 1) := by decide +kernel
theorem dX10_token_221 : decode cX10_token 221 = .ok (.iload_n 1, 1) := by decide +kernel
theorem dX10_token_222 : decode cX10_token 222 = .ok (.invokevirtual 199, 3) := by decide +kernel
theorem dX10_token_225 : decode cX10_token 225 = .ok (.return_, 1) := by decide +kernel
theorem dX10_sign_0 : decode cX10_sign 0 = .ok (.aload_n 0, 1) := by decide +kernel
theorem dX10_sign_1 : decode cX10_sign 1 = .ok (.dup, 1) := by decide +kernel
theorem dX10_sign_2 : decode cX10_sign 2 = .ok (.getfield 166, 3) := by decide +kernel
theorem dX10_sign_5 : decode cX10_sign 5 = .ok (.iconst 1, 1) := by decide +kernel
theorem dX10_sign_6 : decode cX10_sign 6 = .ok (.iadd, 1) := by decide +kernel
theorem dX10_sign_7 : decode cX10_sign 7 = .ok (.putfield 166, 3) := by decide +kernel
theorem dX10_sign_10 : decode cX10_sign 10 = .ok (.aload_n 0, 1) := by decide +kernel
theorem dX10_sign_11 : decode cX10_sign 11 = .ok (.iload_n 1, 1) := by decide +kernel
theorem dX10_sign_12 : decode cX10_sign 12 = .ok (.bipush 59, 2) := by decide +kernel
theorem dX10_sign_14 : decode cX10_sign 14 = .ok (.if_icmp .eq 57, 3) := by decide +kernel
theorem dX10_sign_17 : decode cX10_sign 17 = .ok (.iload_n 1, 1) := by decide +kernel
theorem dX10_sign_18 : decode cX10_sign 18 = .ok (.bipush 40, 2) := by decide +kernel
theorem dX10_sign_20 : decode cX10_sign 20 = .ok (.if_icmp .eq 51, 3) := by decide +kernel
theorem dX10_sign_23 : decode cX10_sign 23 = .ok (.iload_n 1, 1) := by decide +kernel
theorem dX10_sign_24 : decode cX10_sign 24 = .ok (.bipush 41, 2) := by decide +kernel
theorem dX10_sign_26 : decode cX10_sign 26 = .ok (.if_icmp .eq 45, 3) := by decide +kernel
theorem dX10_sign_29 : decode cX10_sign 29 = .ok (.iload_n 1, 1) := by decide +kernel
theorem dX10_sign_30 : decode cX10_sign 30 = .ok (.bipush 43, 2) := by decide +kernel
theorem dX10_sign_32 : decode cX10_sign 32 = .ok (.if_icmp .eq 39, 3) := by decide +kernel
theorem dX10_sign_35 : decode cX10_sign 35 = .ok (.iload_n 1, 1) := by decide +kernel
theorem dX10_sign_36 : decode cX10_sign 36 = .ok (.bipush 45, 2) := by decide +kernel
theorem dX10_sign_38 : decode cX10_sign 38 = .ok (.if_icmp .eq 33, 3) := by decide +kernel
theorem dX10_sign_41 : decode cX10_sign 41 = .ok (.iload_n 1, 1) := by decide +kernel
theorem dX10_sign_42 : decode cX10_sign 42 = .ok (.bipush 42, 2) := by decide +kernel
theorem dX10_sign_44 : decode cX10_sign 44 = .ok (.if_icmp .eq 27, 3) := by decide +kernel
theorem dX10_sign_47 : decode cX10_sign 47 = .ok (.iload_n 1, 1) := by decide +kernel
theorem dX10_sign_48 : decode cX10_sign 48 = .ok (.bipush 47, 2) := by decide +kernel
theorem dX10_sign_50 : decode cX10_sign 50 = .ok (.if_icmp .eq 21, 3) := by decide +kernel
theorem dX10_sign_53 : decode cX10_sign 53 = .ok (.iload_n 1, 1) := by decide +kernel
theorem dX10_sign_54 : decode cX10_sign 54 = .ok (.bipush 60, 2) := by decide +kernel
theorem dX10_sign_56 : decode cX10_sign 56 = .ok (.if_icmp .eq 15, 3) := by decide +kernel
theorem dX10_sign_59 : decode cX10_sign 59 = .ok (.iload_n 1, 1) := by decide +kernel
theorem dX10_sign_60 : decode cX10_sign 60 = .ok (.bipush 61, 2) := by decide +kernel
theorem dX10_sign_62 : decode cX10_sign 62 = .ok (.if_icmp .eq 9, 3) := by decide +kernel
theorem dX10_sign_65 : decode cX10_sign 65 = .ok (.iload_n 1, 1) := by decide +kernel
theorem dX10_sign_66 : decode cX10_sign 66 = .ok (.bipush 62, 2) := by decide +kernel
theorem dX10_sign_68 : decode cX10_sign 68 = .ok (.if_icmp .ne 7, 3) := by decide +kernel
theorem dX10_sign_71 : decode cX10_sign 71 = .ok (.iconst 3, 1) := by decide +kernel
theorem dX10_sign_72 : decode cX10_sign 72 = .ok (.goto 4, 3) := by decide +kernel
theorem dX10_sign_75 : decode cX10_sign 75 = .ok (.iconst 5, 1) := by decide +kernel
theorem dX10_sign_76 : decode cX10_sign 76 = .ok (.putfield 179, 3) := by decide +kernel
theorem dX10_sign_79 : decode cX10_sign 79 = .ok (.aload_n 0, 1) := by decide +kernel
theorem dX10_sign_80 : decode cX10_sign 80 = .ok (.iload_n 1, 1) := by decide +kernel
theorem dX10_sign_81 : decode cX10_sign 81 = .ok (.putfield 189, 3) := by decide +kernel
theorem dX10_sign_84 : decode cX10_sign 84 = .ok (.iload_n 1, 1) := by decide +kernel
theorem dX10_sign_85 : decode cX10_sign 85 = .ok (.bipush 60, 2) := by decide +kernel
theorem dX10_sign_87 : decode cX10_sign 87 = .ok (.if_icmp .ne 19, 3) := by decide +kernel
theorem dX10_sign_90 : decode cX10_sign 90 = .ok (.aload_n 0, 1) := by decide +kernel
theorem dX10_sign_91 : decode cX10_sign 91 = .ok (.invokevirtual 172, 3) := by decide +kernel
theorem dX10_sign_94 : decode cX10_sign 94 = .ok (.bipush 61, 2) := by decide +kernel
theorem dX10_sign_96 : decode cX10_sign 96 = .ok (.if_icmp .ne 10, 3) := by decide +kernel
theorem dX10_sign_99 : decode cX10_sign 99 = .ok (.aload_n 0, 1) := by decide +kernel
theorem dX10_sign_100 : decode cX10_sign 100 = .ok (.sipush 256, 3) := by decide +kernel
theorem dX10_sign_103 : decode cX10_sign 103 = .ok (.putfield 189, 3) := by decide +kernel
theorem dX10_sign_106 : decode cX10_sign 106 = .ok (.iload_n 1, 1) := by decide +kernel
theorem dX10_sign_107 : decode cX10_sign 107 = .ok (.bipush 60, 2) := by decide +kernel
theorem dX10_sign_109 : decode cX10_sign 109 = .ok (.if_icmp .ne 19, 3) := by decide +kernel
theorem dX10_sign_112 : decode cX10_sign 112 = .ok (.aload_n 0, 1) := by decide +kernel
theorem dX10_sign_113 : decode cX10_sign 113 = .ok (.invokevirtual 172, 3) := by decide +kernel
theorem dX10_sign_116 : decode cX10_sign 116 = .ok (.bipush 62, 2) := by decide +kernel
theorem dX10_sign_118 : decode cX10_sign 118 = .ok (.if_icmp .ne 10, 3) := by decide +kernel
theorem dX10_sign_121 : decode cX10_sign 121 = .ok (.aload_n 0, 1) := by decide +kernel
theorem dX10_sign_122 : decode cX10_sign 122 = .ok (.sipush 257, 3) := by decide +kernel
theorem dX10_sign_125 : decode cX10_sign 125 = .ok (.putfield 189, 3) := by decide +kernel
theorem dX10_sign_128 : decode cX10_sign 128 = .ok (.iload_n 1, 1) := by decide +kernel
theorem dX10_sign_129 : decode cX10_sign 129 = .ok (.bipush 62, 2) := by decide +kernel
theorem dX10_sign_131 : decode cX10_sign 131 = .ok (.if_icmp .ne 19, 3) := by decide +kernel
theorem dX10_sign_134 : decode cX10_sign 134 = .ok (.aload_n 0, 1) := by decide +kernel
theorem dX10_sign_135 : decode cX10_sign 135 = .ok (.invokevirtual 172, 3) := by decide +kernel
theorem dX10_sign_138 : decode cX10_sign 138 = .ok (.bipush 61, 2) := by decide +kernel
theorem dX10_sign_140 : decode cX10_sign 140 = .ok (.if_icmp .ne 10, 3) := by decide +kernel
theorem dX10_sign_143 : decode cX10_sign 143 = .ok (.aload_n 0, 1) := by decide +kernel
theorem dX10_sign_144 : decode cX10_sign 144 = .ok (.sipush 258, 3) := by decide +kernel
theorem dX10_sign_147 : decode cX10_sign 147 = .ok (.putfield 189, 3) := by decide +kernel
theorem dX10_sign_150 : decode cX10_sign 150 = .ok (.aload_n 0, 1) := by decide +kernel
theorem dX10_sign_151 : decode cX10_sign 151 = .ok (.getfield 189, 3) := by decide +kernel
theorem dX10_sign_154 : decode cX10_sign 154 = .ok (.sipush 256, 3) := by decide +kernel
theorem dX10_sign_157 : decode cX10_sign 157 = .ok (.if_icmp .lt 13, 3) := by decide +kernel
theorem dX10_sign_160 : decode cX10_sign 160 = .ok (.aload_n 0, 1) := by decide +kernel
theorem dX10_sign_161 : decode cX10_sign 161 = .ok (.dup, 1) := by decide +kernel
theorem dX10_sign_162 : decode cX10_sign 162 = .ok (.getfield 166, 3) := by decide +kernel
theorem dX10_sign_165 : decode cX10_sign 165 = .ok (.iconst 1, 1) := by decide +kernel
theorem dX10_sign_166 : decode cX10_sign 166 = .ok (.iadd, 1) := by decide +kernel
theorem dX10_sign_167 : decode cX10_sign 167 = .ok (.putfield 166, 3) := by decide +kernel
theorem dX10_sign_170 : decode cX10_sign 170 = .ok (.return_, 1) := by decide +kernel
theorem dX10_word_0 : decode cX10_word 0 = .ok (.iconst 0, 1) := by decide +kernel
theorem dX10_word_1 : decode cX10_word 1 = .ok (.istore_n 1, 1) := by decide +kernel
theorem dX10_word_2 : decode cX10_word 2 = .ok (.iconst 0, 1) := by decide +kernel
theorem dX10_word_3 : decode cX10_word 3 = .ok (.istore_n 2, 1) := by decide +kernel
theorem dX10_word_4 : decode cX10_word 4 = .ok (.iload_n 2, 1) := by decide +kernel
theorem dX10_word_5 : decode cX10_word 5 = .ok (.ldc 203, 2) := by decide +kernel
theorem dX10_word_7 : decode cX10_word 7 = .ok (.invokevirtual 205, 3) := by decide +kernel
theorem dX10_word_10 : decode cX10_word 10 = .ok (.if_icmp .ge 113, 3) := by decide +kernel
theorem dX10_word_13 : decode cX10_word 13 = .ok (.iconst 0, 1) := by decide +kernel
theorem dX10_word_14 : decode cX10_word 14 = .ok (.istore_n 3, 1) := by decide +kernel
theorem dX10_word_15 : decode cX10_word 15 = .ok (.ldc 203, 2) := by decide +kernel
theorem dX10_word_17 : decode cX10_word 17 = .ok (.iload_n 2, 1) := by decide +kernel
theorem dX10_word_18 : decode cX10_word 18 = .ok (.iload_n 3, 1) := by decide +kernel
theorem dX10_word_19 : decode cX10_word 19 = .ok (.iadd, 1) := by decide +kernel
theorem dX10_word_20 : decode cX10_word 20 = .ok (.invokevirtual 210, 3) := by decide +kernel
theorem dX10_word_23 : decode cX10_word 23 = .ok (.bipush 32, 2) := by decide +kernel
theorem dX10_word_25 : decode cX10_word 25 = .ok (.if_icmp .eq 44, 3) := by decide +kernel
theorem dX10_word_28 : decode cX10_word 28 = .ok (.aload_n 0, 1) := by decide +kernel
theorem dX10_word_29 : decode cX10_word 29 = .ok (.getfield 176, 3) := by decide +kernel
theorem dX10_word_32 : decode cX10_word 32 = .ok (.iload_n 3, 1) := by decide +kernel
theorem dX10_word_33 : decode cX10_word 33 = .ok (.iadd, 1) := by decide +kernel
theorem dX10_word_34 : decode cX10_word 34 = .ok (.aload_n 0, 1) := by decide +kernel
theorem dX10_word_35 : decode cX10_word 35 = .ok (.getfield 166, 3) := by decide +kernel
theorem dX10_word_38 : decode cX10_word 38 = .ok (.if_icmp .ge 31, 3) := by decide +kernel
theorem dX10_word_41 : decode cX10_word 41 = .ok (.aload_n 0, 1) := by decide +kernel
theorem dX10_word_42 : decode cX10_word 42 = .ok (.getfield 7, 3) := by decide +kernel
theorem dX10_word_45 : decode cX10_word 45 = .ok (.aload_n 0, 1) := by decide +kernel
theorem dX10_word_46 : decode cX10_word 46 = .ok (.getfield 176, 3) := by decide +kernel
theorem dX10_word_49 : decode cX10_word 49 = .ok (.iload_n 3, 1) := by decide +kernel
theorem dX10_word_50 : decode cX10_word 50 = .ok (.iadd, 1) := by decide +kernel
theorem dX10_word_51 : decode cX10_word 51 = .ok (.iaload, 1) := by decide +kernel
theorem dX10_word_52 : decode cX10_word 52 = .ok (.ldc 203, 2) := by decide +kernel
theorem dX10_word_54 : decode cX10_word 54 = .ok (.iload_n 2, 1) := by decide +kernel
theorem dX10_word_55 : decode cX10_word 55 = .ok (.iload_n 3, 1) := by decide +kernel
theorem dX10_word_56 : decode cX10_word 56 = .ok (.iadd, 1) := by decide +kernel
theorem dX10_word_57 : decode cX10_word 57 = .ok (.invokevirtual 210, 3) := by decide +kernel
theorem dX10_word_60 : decode cX10_word 60 = .ok (.if_icmp .ne 9, 3) := by decide +kernel
theorem dX10_word_63 : decode cX10_word 63 = .ok (.iinc 3 1, 3) := by decide +kernel
theorem dX10_word_66 : decode cX10_word 66 = .ok (.goto (-51), 3) := by decide +kernel
theorem dX10_word_69 : decode cX10_word 69 = .ok (.ldc 203, 2) := by decide +kernel
theorem dX10_word_71 : decode cX10_word 71 = .ok (.iload_n 2, 1) := by decide +kernel
theorem dX10_word_72 : decode cX10_word 72 = .ok (.iload_n 3, 1) := by decide +kernel
theorem dX10_word_73 : decode cX10_word 73 = .ok (.iadd, 1) := by decide +kernel
theorem dX10_word_74 : decode cX10_word 74 = .ok (.invokevirtual 210, 3) := by decide +kernel
theorem dX10_word_77 : decode cX10_word 77 = .ok (.bipush 32, 2) := by decide +kernel
theorem dX10_word_79 : decode cX10_word 79 = .ok (.if_icmp .ne 18, 3) := by decide +kernel
theorem dX10_word_82 : decode cX10_word 82 = .ok (.aload_n 0, 1) := by decide +kernel
theorem dX10_word_83 : decode cX10_word 83 = .ok (.getfield 176, 3) := by decide +kernel
theorem dX10_word_86 : decode cX10_word 86 = .ok (.iload_n 3, 1) := by decide +kernel
theorem dX10_word_87 : decode cX10_word 87 = .ok (.iadd, 1) := by decide +kernel
theorem dX10_word_88 : decode cX10_word 88 = .ok (.aload_n 0, 1) := by decide +kernel
theorem dX10_word_89 : decode cX10_word 89 = .ok (.getfield 166, 3) := by decide +kernel
theorem dX10_word_92 : decode cX10_word 92 = .ok (.if_icmp .ne 5, 3) := by decide +kernel
theorem dX10_word_95 : decode cX10_word 95 = .ok (.iload_n 1, 1) := by decide +kernel
theorem dX10_word_96 : decode cX10_word 96 = .ok (.ireturn, 1) := by decide +kernel
theorem dX10_word_97 : decode cX10_word 97 = .ok (.ldc 203, 2) := by decide +kernel
theorem dX10_word_99 : decode cX10_word 99 = .ok (.iload_n 2, 1) := by decide +kernel
theorem dX10_word_100 : decode cX10_word 100 = .ok (.invokevirtual 210, 3) := by decide +kernel
theorem dX10_word_103 : decode cX10_word 103 = .ok (.bipush 32, 2) := by decide +kernel
theorem dX10_word_105 : decode cX10_word 105 = .ok (.if_icmp .eq 9, 3) := by decide +kernel
theorem dX10_word_108 : decode cX10_word 108 = .ok (.iinc 2 1, 3) := by decide +kernel
theorem dX10_word_111 : decode cX10_word 111 = .ok (.goto (-14), 3) := by decide +kernel
theorem dX10_word_114 : decode cX10_word 114 = .ok (.iinc 2 1, 3) := by decide +kernel
theorem dX10_word_117 : decode cX10_word 117 = .ok (.iinc 1 1, 3) := by decide +kernel
theorem dX10_word_120 : decode cX10_word 120 = .ok (.goto (-116), 3) := by decide +kernel
theorem dX10_word_123 : decode cX10_word 123 = .ok (.iconst (-1), 1) := by decide +kernel
theorem dX10_word_124 : decode cX10_word 124 = .ok (.ireturn, 1) := by decide +kernel
theorem dX10_name_0 : decode cX10_name 0 = .ok (.aload_n 0, 1) := by decide +kernel
theorem dX10_name_1 : decode cX10_name 1 = .ok (.iconst 0, 1) := by decide +kernel
theorem dX10_name_2 : decode cX10_name 2 = .ok (.putfield 189, 3) := by decide +kernel
theorem dX10_name_5 : decode cX10_name 5 = .ok (.iconst 0, 1) := by decide +kernel
theorem dX10_name_6 : decode cX10_name 6 = .ok (.istore_n 1, 1) := by decide +kernel
theorem dX10_name_7 : decode cX10_name 7 = .ok (.iload_n 1, 1) := by decide +kernel
theorem dX10_name_8 : decode cX10_name 8 = .ok (.bipush 6, 2) := by decide +kernel
theorem dX10_name_10 : decode cX10_name 10 = .ok (.if_icmp .ge 53, 3) := by decide +kernel
theorem dX10_name_13 : decode cX10_name 13 = .ok (.aload_n 0, 1) := by decide +kernel
theorem dX10_name_14 : decode cX10_name 14 = .ok (.aload_n 0, 1) := by decide +kernel
theorem dX10_name_15 : decode cX10_name 15 = .ok (.getfield 189, 3) := by decide +kernel
theorem dX10_name_18 : decode cX10_name 18 = .ok (.iconst 5, 1) := by decide +kernel
theorem dX10_name_19 : decode cX10_name 19 = .ok (.ishl, 1) := by decide +kernel
theorem dX10_name_20 : decode cX10_name 20 = .ok (.aload_n 0, 1) := by decide +kernel
theorem dX10_name_21 : decode cX10_name 21 = .ok (.getfield 176, 3) := by decide +kernel
theorem dX10_name_24 : decode cX10_name 24 = .ok (.iload_n 1, 1) := by decide +kernel
theorem dX10_name_25 : decode cX10_name 25 = .ok (.iadd, 1) := by decide +kernel
theorem dX10_name_26 : decode cX10_name 26 = .ok (.aload_n 0, 1) := by decide +kernel
theorem dX10_name_27 : decode cX10_name 27 = .ok (.getfield 166, 3) := by decide +kernel
theorem dX10_name_30 : decode cX10_name 30 = .ok (.if_icmp .ge 22, 3) := by decide +kernel
theorem dX10_name_33 : decode cX10_name 33 = .ok (.aload_n 0, 1) := by decide +kernel
theorem dX10_name_34 : decode cX10_name 34 = .ok (.getfield 7, 3) := by decide +kernel
theorem dX10_name_37 : decode cX10_name 37 = .ok (.aload_n 0, 1) := by decide +kernel
theorem dX10_name_38 : decode cX10_name 38 = .ok (.getfield 176, 3) := by decide +kernel
theorem dX10_name_41 : decode cX10_name 41 = .ok (.iload_n 1, 1) := by decide +kernel
theorem dX10_name_42 : decode cX10_name 42 = .ok (.iadd, 1) := by decide +kernel
theorem dX10_name_43 : decode cX10_name 43 = .ok (.iaload, 1) := by decide +kernel
theorem dX10_name_44 : decode cX10_name 44 = .ok (.bipush 97, 2) := by decide +kernel
theorem dX10_name_46 : decode cX10_name 46 = .ok (.isub, 1) := by decide +kernel
theorem dX10_name_47 : decode cX10_name 47 = .ok (.iconst 1, 1) := by decide +kernel
theorem dX10_name_48 : decode cX10_name 48 = .ok (.iadd, 1) := by decide +kernel
theorem dX10_name_49 : decode cX10_name 49 = .ok (.goto 4, 3) := by decide +kernel
theorem dX10_name_52 : decode cX10_name 52 = .ok (.iconst 0, 1) := by decide +kernel
theorem dX10_name_53 : decode cX10_name 53 = .ok (.ior, 1) := by decide +kernel
theorem dX10_name_54 : decode cX10_name 54 = .ok (.putfield 189, 3) := by decide +kernel
theorem dX10_name_57 : decode cX10_name 57 = .ok (.iinc 1 1, 3) := by decide +kernel
theorem dX10_name_60 : decode cX10_name 60 = .ok (.goto (-53), 3) := by decide +kernel
theorem dX10_name_63 : decode cX10_name 63 = .ok (.return_, 1) := by decide +kernel
theorem dX10_wrong_0 : decode cX10_wrong 0 = .ok (.aload_n 0, 1) := by decide +kernel
theorem dX10_wrong_1 : decode cX10_wrong 1 = .ok (.getfield 214, 3) := by decide +kernel
theorem dX10_wrong_4 : decode cX10_wrong 4 = .ok (.ifCond .eq 4, 3) := by decide +kernel
theorem dX10_wrong_7 : decode cX10_wrong 7 = .ok (.return_, 1) := by decide +kernel
theorem dX10_wrong_8 : decode cX10_wrong 8 = .ok (.aload_n 0, 1) := by decide +kernel
theorem dX10_wrong_9 : decode cX10_wrong 9 = .ok (.iload_n 1, 1) := by decide +kernel
theorem dX10_wrong_10 : decode cX10_wrong 10 = .ok (.putfield 214, 3) := by decide +kernel
theorem dX10_wrong_13 : decode cX10_wrong 13 = .ok (.aload_n 0, 1) := by decide +kernel
theorem dX10_wrong_14 : decode cX10_wrong 14 = .ok (.aload_n 0, 1) := by decide +kernel
theorem dX10_wrong_15 : decode cX10_wrong 15 = .ok (.getfield 176, 3) := by decide +kernel
theorem dX10_wrong_18 : decode cX10_wrong 18 = .ok (.putfield 217, 3) := by decide +kernel
theorem dX10_wrong_21 : decode cX10_wrong 21 = .ok (.return_, 1) := by decide +kernel
theorem dX10_isWord_0 : decode cX10_isWord 0 = .ok (.aload_n 0, 1) := by decide +kernel
theorem dX10_isWord_1 : decode cX10_isWord 1 = .ok (.getfield 214, 3) := by decide +kernel
theorem dX10_isWord_4 : decode cX10_isWord 4 = .ok (.ifCond .ne 22, 3) := by decide +kernel
theorem dX10_isWord_7 : decode cX10_isWord 7 = .ok (.aload_n 0, 1) := by decide +kernel
theorem dX10_isWord_8 : decode cX10_isWord 8 = .ok (.getfield 179, 3) := by decide +kernel
theorem dX10_isWord_11 : decode cX10_isWord 11 = .ok (.ifCond .ne 15, 3) := by decide +kernel
theorem dX10_isWord_14 : decode cX10_isWord 14 = .ok (.aload_n 0, 1) := by decide +kernel
theorem dX10_isWord_15 : decode cX10_isWord 15 = .ok (.getfield 189, 3) := by decide +kernel
theorem dX10_isWord_18 : decode cX10_isWord 18 = .ok (.iload_n 1, 1) := by decide +kernel
theorem dX10_isWord_19 : decode cX10_isWord 19 = .ok (.if_icmp .ne 7, 3) := by decide +kernel
theorem dX10_isWord_22 : decode cX10_isWord 22 = .ok (.iconst 1, 1) := by decide +kernel
theorem dX10_isWord_23 : decode cX10_isWord 23 = .ok (.goto 4, 3) := by decide +kernel
theorem dX10_isWord_26 : decode cX10_isWord 26 = .ok (.iconst 0, 1) := by decide +kernel
theorem dX10_isWord_27 : decode cX10_isWord 27 = .ok (.ireturn, 1) := by decide +kernel
theorem dX10_isSign_0 : decode cX10_isSign 0 = .ok (.aload_n 0, 1) := by decide +kernel
theorem dX10_isSign_1 : decode cX10_isSign 1 = .ok (.getfield 214, 3) := by decide +kernel
theorem dX10_isSign_4 : decode cX10_isSign 4 = .ok (.ifCond .ne 23, 3) := by decide +kernel
theorem dX10_isSign_7 : decode cX10_isSign 7 = .ok (.aload_n 0, 1) := by decide +kernel
theorem dX10_isSign_8 : decode cX10_isSign 8 = .ok (.getfield 179, 3) := by decide +kernel
theorem dX10_isSign_11 : decode cX10_isSign 11 = .ok (.iconst 3, 1) := by decide +kernel
theorem dX10_isSign_12 : decode cX10_isSign 12 = .ok (.if_icmp .ne 15, 3) := by decide +kernel
theorem dX10_isSign_15 : decode cX10_isSign 15 = .ok (.aload_n 0, 1) := by decide +kernel
theorem dX10_isSign_16 : decode cX10_isSign 16 = .ok (.getfield 189, 3) := by decide +kernel
theorem dX10_isSign_19 : decode cX10_isSign 19 = .ok (.iload_n 1, 1) := by decide +kernel
theorem dX10_isSign_20 : decode cX10_isSign 20 = .ok (.if_icmp .ne 7, 3) := by decide +kernel
theorem dX10_isSign_23 : decode cX10_isSign 23 = .ok (.iconst 1, 1) := by decide +kernel
theorem dX10_isSign_24 : decode cX10_isSign 24 = .ok (.goto 4, 3) := by decide +kernel
theorem dX10_isSign_27 : decode cX10_isSign 27 = .ok (.iconst 0, 1) := by decide +kernel
theorem dX10_isSign_28 : decode cX10_isSign 28 = .ok (.ireturn, 1) := by decide +kernel
theorem dX10_goOn_0 : decode cX10_goOn 0 = .ok (.aload_n 0, 1) := by decide +kernel
theorem dX10_goOn_1 : decode cX10_goOn 1 = .ok (.getfield 214, 3) := by decide +kernel
theorem dX10_goOn_4 : decode cX10_goOn 4 = .ok (.ifCond .ne 7, 3) := by decide +kernel
theorem dX10_goOn_7 : decode cX10_goOn 7 = .ok (.aload_n 0, 1) := by decide +kernel
theorem dX10_goOn_8 : decode cX10_goOn 8 = .ok (.invokevirtual 220, 3) := by decide +kernel
theorem dX10_goOn_11 : decode cX10_goOn 11 = .ok (.return_, 1) := by decide +kernel
theorem dX10_numeral_0 : decode cX10_numeral 0 = .ok (.aload_n 0, 1) := by decide +kernel
theorem dX10_numeral_1 : decode cX10_numeral 1 = .ok (.getfield 214, 3) := by decide +kernel
theorem dX10_numeral_4 : decode cX10_numeral 4 = .ok (.ifCond .eq 5, 3) := by decide +kernel
theorem dX10_numeral_7 : decode cX10_numeral 7 = .ok (.iload_n 1, 1) := by decide +kernel
theorem dX10_numeral_8 : decode cX10_numeral 8 = .ok (.ireturn, 1) := by decide +kernel
theorem dX10_numeral_9 : decode cX10_numeral 9 = .ok (.aload_n 0, 1) := by decide +kernel
theorem dX10_numeral_10 : decode cX10_numeral 10 = .ok (.getfield 179, 3) := by decide +kernel
theorem dX10_numeral_13 : decode cX10_numeral 13 = .ok (.iconst 2, 1) := by decide +kernel
theorem dX10_numeral_14 : decode cX10_numeral 14 = .ok (.if_icmp .eq 11, 3) := by decide +kernel
theorem dX10_numeral_17 : decode cX10_numeral 17 = .ok (.aload_n 0, 1) := by decide +kernel
theorem dX10_numeral_18 : decode cX10_numeral 18 = .ok (.iconst 1, 1) := by decide +kernel
theorem dX10_numeral_19 : decode cX10_numeral 19 = .ok (.invokevirtual 223, 3) := by decide +kernel
theorem dX10_numeral_22 : decode cX10_numeral 22 = .ok (.goto 24, 3) := by decide +kernel
theorem dX10_numeral_25 : decode cX10_numeral 25 = .ok (.aload_n 0, 1) := by decide +kernel
theorem dX10_numeral_26 : decode cX10_numeral 26 = .ok (.getfield 189, 3) := by decide +kernel
theorem dX10_numeral_29 : decode cX10_numeral 29 = .ok (.iload_n 1, 1) := by decide +kernel
theorem dX10_numeral_30 : decode cX10_numeral 30 = .ok (.if_icmp .lt 11, 3) := by decide +kernel
theorem dX10_numeral_33 : decode cX10_numeral 33 = .ok (.aload_n 0, 1) := by decide +kernel
theorem dX10_numeral_34 : decode cX10_numeral 34 = .ok (.getfield 189, 3) := by decide +kernel
theorem dX10_numeral_37 : decode cX10_numeral 37 = .ok (.iload_n 2, 1) := by decide +kernel
theorem dX10_numeral_38 : decode cX10_numeral 38 = .ok (.if_icmp .le 8, 3) := by decide +kernel
theorem dX10_numeral_41 : decode cX10_numeral 41 = .ok (.aload_n 0, 1) := by decide +kernel
theorem dX10_numeral_42 : decode cX10_numeral 42 = .ok (.iconst 2, 1) := by decide +kernel
theorem dX10_numeral_43 : decode cX10_numeral 43 = .ok (.invokevirtual 223, 3) := by decide +kernel
theorem dX10_numeral_46 : decode cX10_numeral 46 = .ok (.aload_n 0, 1) := by decide +kernel
theorem dX10_numeral_47 : decode cX10_numeral 47 = .ok (.getfield 214, 3) := by decide +kernel
theorem dX10_numeral_50 : decode cX10_numeral 50 = .ok (.ifCond .eq 5, 3) := by decide +kernel
theorem dX10_numeral_53 : decode cX10_numeral 53 = .ok (.iload_n 1, 1) := by decide +kernel
theorem dX10_numeral_54 : decode cX10_numeral 54 = .ok (.ireturn, 1) := by decide +kernel
theorem dX10_numeral_55 : decode cX10_numeral 55 = .ok (.aload_n 0, 1) := by decide +kernel
theorem dX10_numeral_56 : decode cX10_numeral 56 = .ok (.getfield 189, 3) := by decide +kernel
theorem dX10_numeral_59 : decode cX10_numeral 59 = .ok (.istore_n 3, 1) := by decide +kernel
theorem dX10_numeral_60 : decode cX10_numeral 60 = .ok (.aload_n 0, 1) := by decide +kernel
theorem dX10_numeral_61 : decode cX10_numeral 61 = .ok (.invokevirtual 220, 3) := by decide +kernel
theorem dX10_numeral_64 : decode cX10_numeral 64 = .ok (.iload_n 3, 1) := by decide +kernel
theorem dX10_numeral_65 : decode cX10_numeral 65 = .ok (.ireturn, 1) := by decide +kernel
theorem dX10_found_0 : decode cX10_found 0 = .ok (.iconst 0, 1) := by decide +kernel
theorem dX10_found_1 : decode cX10_found 1 = .ok (.istore 4, 2) := by decide +kernel
theorem dX10_found_3 : decode cX10_found 3 = .ok (.iload 4, 2) := by decide +kernel
theorem dX10_found_5 : decode cX10_found 5 = .ok (.iload_n 2, 1) := by decide +kernel
theorem dX10_found_6 : decode cX10_found 6 = .ok (.if_icmp .ge 22, 3) := by decide +kernel
theorem dX10_found_9 : decode cX10_found 9 = .ok (.aload_n 0, 1) := by decide +kernel
theorem dX10_found_10 : decode cX10_found 10 = .ok (.iload_n 1, 1) := by decide +kernel
theorem dX10_found_11 : decode cX10_found 11 = .ok (.iload 4, 2) := by decide +kernel
theorem dX10_found_13 : decode cX10_found 13 = .ok (.iadd, 1) := by decide +kernel
theorem dX10_found_14 : decode cX10_found 14 = .ok (.iaload, 1) := by decide +kernel
theorem dX10_found_15 : decode cX10_found 15 = .ok (.iload_n 3, 1) := by decide +kernel
theorem dX10_found_16 : decode cX10_found 16 = .ok (.if_icmp .ne 6, 3) := by decide +kernel
theorem dX10_found_19 : decode cX10_found 19 = .ok (.iload 4, 2) := by decide +kernel
theorem dX10_found_21 : decode cX10_found 21 = .ok (.ireturn, 1) := by decide +kernel
theorem dX10_found_22 : decode cX10_found 22 = .ok (.iinc 4 1, 3) := by decide +kernel
theorem dX10_found_25 : decode cX10_found 25 = .ok (.goto (-22), 3) := by decide +kernel
theorem dX10_found_28 : decode cX10_found 28 = .ok (.iconst (-1), 1) := by decide +kernel
theorem dX10_found_29 : decode cX10_found 29 = .ok (.ireturn, 1) := by decide +kernel
theorem dX10_fresh_0 : decode cX10_fresh 0 = .ok (.aload_n 0, 1) := by decide +kernel
theorem dX10_fresh_1 : decode cX10_fresh 1 = .ok (.getfield 214, 3) := by decide +kernel
theorem dX10_fresh_4 : decode cX10_fresh 4 = .ok (.ifCond .eq 5, 3) := by decide +kernel
theorem dX10_fresh_7 : decode cX10_fresh 7 = .ok (.iconst 0, 1) := by decide +kernel
theorem dX10_fresh_8 : decode cX10_fresh 8 = .ok (.ireturn, 1) := by decide +kernel
theorem dX10_fresh_9 : decode cX10_fresh 9 = .ok (.aload_n 0, 1) := by decide +kernel
theorem dX10_fresh_10 : decode cX10_fresh 10 = .ok (.getfield 179, 3) := by decide +kernel
theorem dX10_fresh_13 : decode cX10_fresh 13 = .ok (.iconst 1, 1) := by decide +kernel
theorem dX10_fresh_14 : decode cX10_fresh 14 = .ok (.if_icmp .eq 11, 3) := by decide +kernel
theorem dX10_fresh_17 : decode cX10_fresh 17 = .ok (.aload_n 0, 1) := by decide +kernel
theorem dX10_fresh_18 : decode cX10_fresh 18 = .ok (.iconst 1, 1) := by decide +kernel
theorem dX10_fresh_19 : decode cX10_fresh 19 = .ok (.invokevirtual 223, 3) := by decide +kernel
theorem dX10_fresh_22 : decode cX10_fresh 22 = .ok (.goto 22, 3) := by decide +kernel
theorem dX10_fresh_25 : decode cX10_fresh 25 = .ok (.aload_n 1, 1) := by decide +kernel
theorem dX10_fresh_26 : decode cX10_fresh 26 = .ok (.iload_n 2, 1) := by decide +kernel
theorem dX10_fresh_27 : decode cX10_fresh 27 = .ok (.iload_n 3, 1) := by decide +kernel
theorem dX10_fresh_28 : decode cX10_fresh 28 = .ok (.aload_n 0, 1) := by decide +kernel
theorem dX10_fresh_29 : decode cX10_fresh 29 = .ok (.getfield 189, 3) := by decide +kernel
theorem dX10_fresh_32 : decode cX10_fresh 32 = .ok (.invokestatic 226, 3) := by decide +kernel
theorem dX10_fresh_35 : decode cX10_fresh 35 = .ok (.iconst (-1), 1) := by decide +kernel
theorem dX10_fresh_36 : decode cX10_fresh 36 = .ok (.if_icmp .eq 8, 3) := by decide +kernel
theorem dX10_fresh_39 : decode cX10_fresh 39 = .ok (.aload_n 0, 1) := by decide +kernel
theorem dX10_fresh_40 : decode cX10_fresh 40 = .ok (.iconst 3, 1) := by decide +kernel
theorem dX10_fresh_41 : decode cX10_fresh 41 = .ok (.invokevirtual 223, 3) := by decide +kernel
theorem dX10_fresh_44 : decode cX10_fresh 44 = .ok (.aload_n 0, 1) := by decide +kernel
theorem dX10_fresh_45 : decode cX10_fresh 45 = .ok (.getfield 214, 3) := by decide +kernel
theorem dX10_fresh_48 : decode cX10_fresh 48 = .ok (.ifCond .eq 5, 3) := by decide +kernel
theorem dX10_fresh_51 : decode cX10_fresh 51 = .ok (.iconst 0, 1) := by decide +kernel
theorem dX10_fresh_52 : decode cX10_fresh 52 = .ok (.ireturn, 1) := by decide +kernel
theorem dX10_fresh_53 : decode cX10_fresh 53 = .ok (.aload_n 0, 1) := by decide +kernel
theorem dX10_fresh_54 : decode cX10_fresh 54 = .ok (.getfield 189, 3) := by decide +kernel
theorem dX10_fresh_57 : decode cX10_fresh 57 = .ok (.istore 4, 2) := by decide +kernel
theorem dX10_fresh_59 : decode cX10_fresh 59 = .ok (.aload_n 0, 1) := by decide +kernel
theorem dX10_fresh_60 : decode cX10_fresh 60 = .ok (.invokevirtual 220, 3) := by decide +kernel
theorem dX10_fresh_63 : decode cX10_fresh 63 = .ok (.iload 4, 2) := by decide +kernel
theorem dX10_fresh_65 : decode cX10_fresh 65 = .ok (.ireturn, 1) := by decide +kernel
theorem dX10_fresher_0 : decode cX10_fresher 0 = .ok (.aload_n 0, 1) := by decide +kernel
theorem dX10_fresher_1 : decode cX10_fresher 1 = .ok (.getfield 13, 3) := by decide +kernel
theorem dX10_fresher_4 : decode cX10_fresher 4 = .ok (.bipush 7, 2) := by decide +kernel
theorem dX10_fresher_6 : decode cX10_fresher 6 = .ok (.iload_n 1, 1) := by decide +kernel
theorem dX10_fresher_7 : decode cX10_fresher 7 = .ok (.iadd, 1) := by decide +kernel
theorem dX10_fresher_8 : decode cX10_fresher 8 = .ok (.iaload, 1) := by decide +kernel
theorem dX10_fresher_9 : decode cX10_fresher 9 = .ok (.ireturn, 1) := by decide +kernel
theorem dX10_reads_0 : decode cX10_reads 0 = .ok (.aload_n 0, 1) := by decide +kernel
theorem dX10_reads_1 : decode cX10_reads 1 = .ok (.getfield 13, 3) := by decide +kernel
theorem dX10_reads_4 : decode cX10_reads 4 = .ok (.bipush 7, 2) := by decide +kernel
theorem dX10_reads_6 : decode cX10_reads 6 = .ok (.iload_n 1, 1) := by decide +kernel
theorem dX10_reads_7 : decode cX10_reads 7 = .ok (.iadd, 1) := by decide +kernel
theorem dX10_reads_8 : decode cX10_reads 8 = .ok (.iload_n 2, 1) := by decide +kernel
theorem dX10_reads_9 : decode cX10_reads 9 = .ok (.iastore, 1) := by decide +kernel
theorem dX10_reads_10 : decode cX10_reads 10 = .ok (.return_, 1) := by decide +kernel
theorem dX10_atHand_0 : decode cX10_atHand 0 = .ok (.aload_n 0, 1) := by decide +kernel
theorem dX10_atHand_1 : decode cX10_atHand 1 = .ok (.getfield 214, 3) := by decide +kernel
theorem dX10_atHand_4 : decode cX10_atHand 4 = .ok (.ifCond .eq 5, 3) := by decide +kernel
theorem dX10_atHand_7 : decode cX10_atHand 7 = .ok (.iconst 0, 1) := by decide +kernel
theorem dX10_atHand_8 : decode cX10_atHand 8 = .ok (.ireturn, 1) := by decide +kernel
theorem dX10_atHand_9 : decode cX10_atHand 9 = .ok (.aload_n 0, 1) := by decide +kernel
theorem dX10_atHand_10 : decode cX10_atHand 10 = .ok (.getfield 179, 3) := by decide +kernel
theorem dX10_atHand_13 : decode cX10_atHand 13 = .ok (.iconst 1, 1) := by decide +kernel
theorem dX10_atHand_14 : decode cX10_atHand 14 = .ok (.if_icmp .eq 11, 3) := by decide +kernel
theorem dX10_atHand_17 : decode cX10_atHand 17 = .ok (.aload_n 0, 1) := by decide +kernel
theorem dX10_atHand_18 : decode cX10_atHand 18 = .ok (.iconst 1, 1) := by decide +kernel
theorem dX10_atHand_19 : decode cX10_atHand 19 = .ok (.invokevirtual 223, 3) := by decide +kernel
theorem dX10_atHand_22 : decode cX10_atHand 22 = .ok (.goto 22, 3) := by decide +kernel
theorem dX10_atHand_25 : decode cX10_atHand 25 = .ok (.aload_n 1, 1) := by decide +kernel
theorem dX10_atHand_26 : decode cX10_atHand 26 = .ok (.iload_n 2, 1) := by decide +kernel
theorem dX10_atHand_27 : decode cX10_atHand 27 = .ok (.iload_n 3, 1) := by decide +kernel
theorem dX10_atHand_28 : decode cX10_atHand 28 = .ok (.aload_n 0, 1) := by decide +kernel
theorem dX10_atHand_29 : decode cX10_atHand 29 = .ok (.getfield 189, 3) := by decide +kernel
theorem dX10_atHand_32 : decode cX10_atHand 32 = .ok (.invokestatic 226, 3) := by decide +kernel
theorem dX10_atHand_35 : decode cX10_atHand 35 = .ok (.iconst (-1), 1) := by decide +kernel
theorem dX10_atHand_36 : decode cX10_atHand 36 = .ok (.if_icmp .ne 8, 3) := by decide +kernel
theorem dX10_atHand_39 : decode cX10_atHand 39 = .ok (.aload_n 0, 1) := by decide +kernel
theorem dX10_atHand_40 : decode cX10_atHand 40 = .ok (.iconst 4, 1) := by decide +kernel
theorem dX10_atHand_41 : decode cX10_atHand 41 = .ok (.invokevirtual 223, 3) := by decide +kernel
theorem dX10_atHand_44 : decode cX10_atHand 44 = .ok (.aload_n 0, 1) := by decide +kernel
theorem dX10_atHand_45 : decode cX10_atHand 45 = .ok (.getfield 214, 3) := by decide +kernel
theorem dX10_atHand_48 : decode cX10_atHand 48 = .ok (.ifCond .eq 7, 3) := by decide +kernel
theorem dX10_atHand_51 : decode cX10_atHand 51 = .ok (.iconst 0, 1) := by decide +kernel
theorem dX10_atHand_52 : decode cX10_atHand 52 = .ok (.goto 13, 3) := by decide +kernel
theorem dX10_atHand_55 : decode cX10_atHand 55 = .ok (.aload_n 1, 1) := by decide +kernel
theorem dX10_atHand_56 : decode cX10_atHand 56 = .ok (.iload_n 2, 1) := by decide +kernel
theorem dX10_atHand_57 : decode cX10_atHand 57 = .ok (.iload_n 3, 1) := by decide +kernel
theorem dX10_atHand_58 : decode cX10_atHand 58 = .ok (.aload_n 0, 1) := by decide +kernel
theorem dX10_atHand_59 : decode cX10_atHand 59 = .ok (.getfield 189, 3) := by decide +kernel
theorem dX10_atHand_62 : decode cX10_atHand 62 = .ok (.invokestatic 226, 3) := by decide +kernel
theorem dX10_atHand_65 : decode cX10_atHand 65 = .ok (.ireturn, 1) := by decide +kernel
theorem dX10_manAtHand_0 : decode cX10_manAtHand 0 = .ok (.aload_n 0, 1) := by decide +kernel
theorem dX10_manAtHand_1 : decode cX10_manAtHand 1 = .ok (.aload_n 0, 1) := by decide +kernel
theorem dX10_manAtHand_2 : decode cX10_manAtHand 2 = .ok (.getfield 16, 3) := by decide +kernel
theorem dX10_manAtHand_5 : decode cX10_manAtHand 5 = .ok (.bipush 6, 2) := by decide +kernel
theorem dX10_manAtHand_7 : decode cX10_manAtHand 7 = .ok (.aload_n 0, 1) := by decide +kernel
theorem dX10_manAtHand_8 : decode cX10_manAtHand 8 = .ok (.iconst 0, 1) := by decide +kernel
theorem dX10_manAtHand_9 : decode cX10_manAtHand 9 = .ok (.invokevirtual 230, 3) := by decide +kernel
theorem dX10_manAtHand_12 : decode cX10_manAtHand 12 = .ok (.invokevirtual 234, 3) := by decide +kernel
theorem dX10_manAtHand_15 : decode cX10_manAtHand 15 = .ok (.ireturn, 1) := by decide +kernel
theorem dX10_tuskAtHand_0 : decode cX10_tuskAtHand 0 = .ok (.aload_n 0, 1) := by decide +kernel
theorem dX10_tuskAtHand_1 : decode cX10_tuskAtHand 1 = .ok (.aload_n 0, 1) := by decide +kernel
theorem dX10_tuskAtHand_2 : decode cX10_tuskAtHand 2 = .ok (.getfield 22, 3) := by decide +kernel
theorem dX10_tuskAtHand_5 : decode cX10_tuskAtHand 5 = .ok (.bipush 6, 2) := by decide +kernel
theorem dX10_tuskAtHand_7 : decode cX10_tuskAtHand 7 = .ok (.aload_n 0, 1) := by decide +kernel
theorem dX10_tuskAtHand_8 : decode cX10_tuskAtHand 8 = .ok (.iconst 1, 1) := by decide +kernel
theorem dX10_tuskAtHand_9 : decode cX10_tuskAtHand 9 = .ok (.invokevirtual 230, 3) := by decide +kernel
theorem dX10_tuskAtHand_12 : decode cX10_tuskAtHand 12 = .ok (.invokevirtual 234, 3) := by decide +kernel
theorem dX10_tuskAtHand_15 : decode cX10_tuskAtHand 15 = .ok (.ireturn, 1) := by decide +kernel
theorem dX10_isFull_0 : decode cX10_isFull 0 = .ok (.iload_n 1, 1) := by decide +kernel
theorem dX10_isFull_1 : decode cX10_isFull 1 = .ok (.tableswitch 95 0 3 #[31, 47, 63, 79], 31) := by decide +kernel
theorem dX10_isFull_32 : decode cX10_isFull 32 = .ok (.aload_n 0, 1) := by decide +kernel
theorem dX10_isFull_33 : decode cX10_isFull 33 = .ok (.iconst 0, 1) := by decide +kernel
theorem dX10_isFull_34 : decode cX10_isFull 34 = .ok (.invokevirtual 230, 3) := by decide +kernel
theorem dX10_isFull_37 : decode cX10_isFull 37 = .ok (.bipush 6, 2) := by decide +kernel
theorem dX10_isFull_39 : decode cX10_isFull 39 = .ok (.if_icmp .ne 7, 3) := by decide +kernel
theorem dX10_isFull_42 : decode cX10_isFull 42 = .ok (.iconst 1, 1) := by decide +kernel
theorem dX10_isFull_43 : decode cX10_isFull 43 = .ok (.goto 4, 3) := by decide +kernel
theorem dX10_isFull_46 : decode cX10_isFull 46 = .ok (.iconst 0, 1) := by decide +kernel
theorem dX10_isFull_47 : decode cX10_isFull 47 = .ok (.ireturn, 1) := by decide +kernel
theorem dX10_isFull_48 : decode cX10_isFull 48 = .ok (.aload_n 0, 1) := by decide +kernel
theorem dX10_isFull_49 : decode cX10_isFull 49 = .ok (.iconst 1, 1) := by decide +kernel
theorem dX10_isFull_50 : decode cX10_isFull 50 = .ok (.invokevirtual 230, 3) := by decide +kernel
theorem dX10_isFull_53 : decode cX10_isFull 53 = .ok (.bipush 6, 2) := by decide +kernel
theorem dX10_isFull_55 : decode cX10_isFull 55 = .ok (.if_icmp .ne 7, 3) := by decide +kernel
theorem dX10_isFull_58 : decode cX10_isFull 58 = .ok (.iconst 1, 1) := by decide +kernel
theorem dX10_isFull_59 : decode cX10_isFull 59 = .ok (.goto 4, 3) := by decide +kernel
theorem dX10_isFull_62 : decode cX10_isFull 62 = .ok (.iconst 0, 1) := by decide +kernel
theorem dX10_isFull_63 : decode cX10_isFull 63 = .ok (.ireturn, 1) := by decide +kernel
theorem dX10_isFull_64 : decode cX10_isFull 64 = .ok (.aload_n 0, 1) := by decide +kernel
theorem dX10_isFull_65 : decode cX10_isFull 65 = .ok (.iconst 2, 1) := by decide +kernel
theorem dX10_isFull_66 : decode cX10_isFull 66 = .ok (.invokevirtual 230, 3) := by decide +kernel
theorem dX10_isFull_69 : decode cX10_isFull 69 = .ok (.bipush 8, 2) := by decide +kernel
theorem dX10_isFull_71 : decode cX10_isFull 71 = .ok (.if_icmp .ne 7, 3) := by decide +kernel
theorem dX10_isFull_74 : decode cX10_isFull 74 = .ok (.iconst 1, 1) := by decide +kernel
theorem dX10_isFull_75 : decode cX10_isFull 75 = .ok (.goto 4, 3) := by decide +kernel
theorem dX10_isFull_78 : decode cX10_isFull 78 = .ok (.iconst 0, 1) := by decide +kernel
theorem dX10_isFull_79 : decode cX10_isFull 79 = .ok (.ireturn, 1) := by decide +kernel
theorem dX10_isFull_80 : decode cX10_isFull 80 = .ok (.aload_n 0, 1) := by decide +kernel
theorem dX10_isFull_81 : decode cX10_isFull 81 = .ok (.iconst 3, 1) := by decide +kernel
theorem dX10_isFull_82 : decode cX10_isFull 82 = .ok (.invokevirtual 230, 3) := by decide +kernel
theorem dX10_isFull_85 : decode cX10_isFull 85 = .ok (.bipush 10, 2) := by decide +kernel
theorem dX10_isFull_87 : decode cX10_isFull 87 = .ok (.if_icmp .ne 7, 3) := by decide +kernel
theorem dX10_isFull_90 : decode cX10_isFull 90 = .ok (.iconst 1, 1) := by decide +kernel
theorem dX10_isFull_91 : decode cX10_isFull 91 = .ok (.goto 4, 3) := by decide +kernel
theorem dX10_isFull_94 : decode cX10_isFull 94 = .ok (.iconst 0, 1) := by decide +kernel
theorem dX10_isFull_95 : decode cX10_isFull 95 = .ok (.ireturn, 1) := by decide +kernel
theorem dX10_isFull_96 : decode cX10_isFull 96 = .ok (.iconst 0, 1) := by decide +kernel
theorem dX10_isFull_97 : decode cX10_isFull 97 = .ok (.ireturn, 1) := by decide +kernel
theorem dX10_line_0 : decode cX10_line 0 = .ok (.aload_n 0, 1) := by decide +kernel
theorem dX10_line_1 : decode cX10_line 1 = .ok (.getfield 179, 3) := by decide +kernel
theorem dX10_line_4 : decode cX10_line 4 = .ok (.ifCond .ne 12, 3) := by decide +kernel
theorem dX10_line_7 : decode cX10_line 7 = .ok (.aload_n 0, 1) := by decide +kernel
theorem dX10_line_8 : decode cX10_line 8 = .ok (.getfield 189, 3) := by decide +kernel
theorem dX10_line_11 : decode cX10_line 11 = .ok (.bipush 7, 2) := by decide +kernel
theorem dX10_line_13 : decode cX10_line 13 = .ok (.if_icmp .le 9, 3) := by decide +kernel
theorem dX10_line_16 : decode cX10_line 16 = .ok (.aload_n 0, 1) := by decide +kernel
theorem dX10_line_17 : decode cX10_line 17 = .ok (.iconst 1, 1) := by decide +kernel
theorem dX10_line_18 : decode cX10_line 18 = .ok (.invokevirtual 223, 3) := by decide +kernel
theorem dX10_line_21 : decode cX10_line 21 = .ok (.return_, 1) := by decide +kernel
theorem dX10_line_22 : decode cX10_line 22 = .ok (.aload_n 0, 1) := by decide +kernel
theorem dX10_line_23 : decode cX10_line 23 = .ok (.getfield 189, 3) := by decide +kernel
theorem dX10_line_26 : decode cX10_line 26 = .ok (.istore_n 1, 1) := by decide +kernel
theorem dX10_line_27 : decode cX10_line 27 = .ok (.aload_n 0, 1) := by decide +kernel
theorem dX10_line_28 : decode cX10_line 28 = .ok (.iload_n 1, 1) := by decide +kernel
theorem dX10_line_29 : decode cX10_line 29 = .ok (.invokevirtual 238, 3) := by decide +kernel
theorem dX10_line_32 : decode cX10_line 32 = .ok (.ifCond .eq 11, 3) := by decide +kernel
theorem dX10_line_35 : decode cX10_line 35 = .ok (.aload_n 0, 1) := by decide +kernel
theorem dX10_line_36 : decode cX10_line 36 = .ok (.iconst 2, 1) := by decide +kernel
theorem dX10_line_37 : decode cX10_line 37 = .ok (.invokevirtual 223, 3) := by decide +kernel
theorem dX10_line_40 : decode cX10_line 40 = .ok (.goto 31, 3) := by decide +kernel
theorem dX10_line_43 : decode cX10_line 43 = .ok (.iload_n 1, 1) := by decide +kernel
theorem dX10_line_44 : decode cX10_line 44 = .ok (.iconst 5, 1) := by decide +kernel
theorem dX10_line_45 : decode cX10_line 45 = .ok (.if_icmp .eq 9, 3) := by decide +kernel
theorem dX10_line_48 : decode cX10_line 48 = .ok (.iload_n 1, 1) := by decide +kernel
theorem dX10_line_49 : decode cX10_line 49 = .ok (.bipush 6, 2) := by decide +kernel
theorem dX10_line_51 : decode cX10_line 51 = .ok (.if_icmp .ne 20, 3) := by decide +kernel
theorem dX10_line_54 : decode cX10_line 54 = .ok (.aload_n 0, 1) := by decide +kernel
theorem dX10_line_55 : decode cX10_line 55 = .ok (.getfield 241, 3) := by decide +kernel
theorem dX10_line_58 : decode cX10_line 58 = .ok (.iload_n 1, 1) := by decide +kernel
theorem dX10_line_59 : decode cX10_line 59 = .ok (.ishr, 1) := by decide +kernel
theorem dX10_line_60 : decode cX10_line 60 = .ok (.iconst 1, 1) := by decide +kernel
theorem dX10_line_61 : decode cX10_line 61 = .ok (.iand, 1) := by decide +kernel
theorem dX10_line_62 : decode cX10_line 62 = .ok (.iconst 1, 1) := by decide +kernel
theorem dX10_line_63 : decode cX10_line 63 = .ok (.if_icmp .ne 8, 3) := by decide +kernel
theorem dX10_line_66 : decode cX10_line 66 = .ok (.aload_n 0, 1) := by decide +kernel
theorem dX10_line_67 : decode cX10_line 67 = .ok (.iconst 3, 1) := by decide +kernel
theorem dX10_line_68 : decode cX10_line 68 = .ok (.invokevirtual 223, 3) := by decide +kernel
theorem dX10_line_71 : decode cX10_line 71 = .ok (.aload_n 0, 1) := by decide +kernel
theorem dX10_line_72 : decode cX10_line 72 = .ok (.getfield 214, 3) := by decide +kernel
theorem dX10_line_75 : decode cX10_line 75 = .ok (.ifCond .eq 4, 3) := by decide +kernel
theorem dX10_line_78 : decode cX10_line 78 = .ok (.return_, 1) := by decide +kernel
theorem dX10_line_79 : decode cX10_line 79 = .ok (.aload_n 0, 1) := by decide +kernel
theorem dX10_line_80 : decode cX10_line 80 = .ok (.dup, 1) := by decide +kernel
theorem dX10_line_81 : decode cX10_line 81 = .ok (.getfield 241, 3) := by decide +kernel
theorem dX10_line_84 : decode cX10_line 84 = .ok (.iconst 1, 1) := by decide +kernel
theorem dX10_line_85 : decode cX10_line 85 = .ok (.iload_n 1, 1) := by decide +kernel
theorem dX10_line_86 : decode cX10_line 86 = .ok (.ishl, 1) := by decide +kernel
theorem dX10_line_87 : decode cX10_line 87 = .ok (.ior, 1) := by decide +kernel
theorem dX10_line_88 : decode cX10_line 88 = .ok (.putfield 241, 3) := by decide +kernel
theorem dX10_line_91 : decode cX10_line 91 = .ok (.aload_n 0, 1) := by decide +kernel
theorem dX10_line_92 : decode cX10_line 92 = .ok (.invokevirtual 220, 3) := by decide +kernel
theorem dX10_line_95 : decode cX10_line 95 = .ok (.iload_n 1, 1) := by decide +kernel
theorem dX10_line_96 : decode cX10_line 96 = .ok (.tableswitch 248 0 6 #[44, 103, 181, 196, 211, 218, 233], 44) := by decide +kernel
theorem dX10_line_140 : decode cX10_line 140 = .ok (.bipush 6, 2) := by decide +kernel
theorem dX10_line_142 : decode cX10_line 142 = .ok (.aload_n 0, 1) := by decide +kernel
theorem dX10_line_143 : decode cX10_line 143 = .ok (.iconst 0, 1) := by decide +kernel
theorem dX10_line_144 : decode cX10_line 144 = .ok (.invokevirtual 230, 3) := by decide +kernel
theorem dX10_line_147 : decode cX10_line 147 = .ok (.iadd, 1) := by decide +kernel
theorem dX10_line_148 : decode cX10_line 148 = .ok (.istore_n 2, 1) := by decide +kernel
theorem dX10_line_149 : decode cX10_line 149 = .ok (.aload_n 0, 1) := by decide +kernel
theorem dX10_line_150 : decode cX10_line 150 = .ok (.getfield 16, 3) := by decide +kernel
theorem dX10_line_153 : decode cX10_line 153 = .ok (.iload_n 2, 1) := by decide +kernel
theorem dX10_line_154 : decode cX10_line 154 = .ok (.aload_n 0, 1) := by decide +kernel
theorem dX10_line_155 : decode cX10_line 155 = .ok (.aload_n 0, 1) := by decide +kernel
theorem dX10_line_156 : decode cX10_line 156 = .ok (.getfield 16, 3) := by decide +kernel
theorem dX10_line_159 : decode cX10_line 159 = .ok (.bipush 6, 2) := by decide +kernel
theorem dX10_line_161 : decode cX10_line 161 = .ok (.aload_n 0, 1) := by decide +kernel
theorem dX10_line_162 : decode cX10_line 162 = .ok (.iconst 0, 1) := by decide +kernel
theorem dX10_line_163 : decode cX10_line 163 = .ok (.invokevirtual 230, 3) := by decide +kernel
theorem dX10_line_166 : decode cX10_line 166 = .ok (.invokevirtual 244, 3) := by decide +kernel
theorem dX10_line_169 : decode cX10_line 169 = .ok (.iastore, 1) := by decide +kernel
theorem dX10_line_170 : decode cX10_line 170 = .ok (.aload_n 0, 1) := by decide +kernel
theorem dX10_line_171 : decode cX10_line 171 = .ok (.getfield 19, 3) := by decide +kernel
theorem dX10_line_174 : decode cX10_line 174 = .ok (.iload_n 2, 1) := by decide +kernel
theorem dX10_line_175 : decode cX10_line 175 = .ok (.aload_n 0, 1) := by decide +kernel
theorem dX10_line_176 : decode cX10_line 176 = .ok (.iconst 0, 1) := by decide +kernel
theorem dX10_line_177 : decode cX10_line 177 = .ok (.sipush 999, 3) := by decide +kernel
theorem dX10_line_180 : decode cX10_line 180 = .ok (.invokevirtual 247, 3) := by decide +kernel
theorem dX10_line_183 : decode cX10_line 183 = .ok (.iastore, 1) := by decide +kernel
theorem dX10_line_184 : decode cX10_line 184 = .ok (.aload_n 0, 1) := by decide +kernel
theorem dX10_line_185 : decode cX10_line 185 = .ok (.iconst 0, 1) := by decide +kernel
theorem dX10_line_186 : decode cX10_line 186 = .ok (.aload_n 0, 1) := by decide +kernel
theorem dX10_line_187 : decode cX10_line 187 = .ok (.iconst 0, 1) := by decide +kernel
theorem dX10_line_188 : decode cX10_line 188 = .ok (.invokevirtual 230, 3) := by decide +kernel
theorem dX10_line_191 : decode cX10_line 191 = .ok (.iconst 1, 1) := by decide +kernel
theorem dX10_line_192 : decode cX10_line 192 = .ok (.iadd, 1) := by decide +kernel
theorem dX10_line_193 : decode cX10_line 193 = .ok (.invokevirtual 251, 3) := by decide +kernel
theorem dX10_line_196 : decode cX10_line 196 = .ok (.goto 152, 3) := by decide +kernel
theorem dX10_line_199 : decode cX10_line 199 = .ok (.bipush 6, 2) := by decide +kernel
theorem dX10_line_201 : decode cX10_line 201 = .ok (.aload_n 0, 1) := by decide +kernel
theorem dX10_line_202 : decode cX10_line 202 = .ok (.iconst 1, 1) := by decide +kernel
theorem dX10_line_203 : decode cX10_line 203 = .ok (.invokevirtual 230, 3) := by decide +kernel
theorem dX10_line_206 : decode cX10_line 206 = .ok (.iadd, 1) := by decide +kernel
theorem dX10_line_207 : decode cX10_line 207 = .ok (.istore_n 3, 1) := by decide +kernel
theorem dX10_line_208 : decode cX10_line 208 = .ok (.aload_n 0, 1) := by decide +kernel
theorem dX10_line_209 : decode cX10_line 209 = .ok (.getfield 22, 3) := by decide +kernel
theorem dX10_line_212 : decode cX10_line 212 = .ok (.iload_n 3, 1) := by decide +kernel
theorem dX10_line_213 : decode cX10_line 213 = .ok (.aload_n 0, 1) := by decide +kernel
theorem dX10_line_214 : decode cX10_line 214 = .ok (.aload_n 0, 1) := by decide +kernel
theorem dX10_line_215 : decode cX10_line 215 = .ok (.getfield 22, 3) := by decide +kernel
theorem dX10_line_218 : decode cX10_line 218 = .ok (.bipush 6, 2) := by decide +kernel
theorem dX10_line_220 : decode cX10_line 220 = .ok (.aload_n 0, 1) := by decide +kernel
theorem dX10_line_221 : decode cX10_line 221 = .ok (.iconst 1, 1) := by decide +kernel
theorem dX10_line_222 : decode cX10_line 222 = .ok (.invokevirtual 230, 3) := by decide +kernel
theorem dX10_line_225 : decode cX10_line 225 = .ok (.invokevirtual 244, 3) := by decide +kernel
theorem dX10_line_228 : decode cX10_line 228 = .ok (.iastore, 1) := by decide +kernel
theorem dX10_line_229 : decode cX10_line 229 = .ok (.aload_n 0, 1) := by decide +kernel
theorem dX10_line_230 : decode cX10_line 230 = .ok (.getfield 25, 3) := by decide +kernel
theorem dX10_line_233 : decode cX10_line 233 = .ok (.iload_n 3, 1) := by decide +kernel
theorem dX10_line_234 : decode cX10_line 234 = .ok (.aload_n 0, 1) := by decide +kernel
theorem dX10_line_235 : decode cX10_line 235 = .ok (.iconst 0, 1) := by decide +kernel
theorem dX10_line_236 : decode cX10_line 236 = .ok (.bipush 99, 2) := by decide +kernel
theorem dX10_line_238 : decode cX10_line 238 = .ok (.invokevirtual 247, 3) := by decide +kernel
theorem dX10_line_241 : decode cX10_line 241 = .ok (.iastore, 1) := by decide +kernel
theorem dX10_line_242 : decode cX10_line 242 = .ok (.aload_n 0, 1) := by decide +kernel
theorem dX10_line_243 : decode cX10_line 243 = .ok (.getfield 28, 3) := by decide +kernel
theorem dX10_line_246 : decode cX10_line 246 = .ok (.iload_n 3, 1) := by decide +kernel
theorem dX10_line_247 : decode cX10_line 247 = .ok (.aload_n 0, 1) := by decide +kernel
theorem dX10_line_248 : decode cX10_line 248 = .ok (.iconst 0, 1) := by decide +kernel
theorem dX10_line_249 : decode cX10_line 249 = .ok (.bipush 9, 2) := by decide +kernel
theorem dX10_line_251 : decode cX10_line 251 = .ok (.invokevirtual 247, 3) := by decide +kernel
theorem dX10_line_254 : decode cX10_line 254 = .ok (.iastore, 1) := by decide +kernel
theorem dX10_line_255 : decode cX10_line 255 = .ok (.aload_n 0, 1) := by decide +kernel
theorem dX10_line_256 : decode cX10_line 256 = .ok (.getfield 31, 3) := by decide +kernel
theorem dX10_line_259 : decode cX10_line 259 = .ok (.iload_n 3, 1) := by decide +kernel
theorem dX10_line_260 : decode cX10_line 260 = .ok (.iconst (-1), 1) := by decide +kernel
theorem dX10_line_261 : decode cX10_line 261 = .ok (.iastore, 1) := by decide +kernel
theorem dX10_line_262 : decode cX10_line 262 = .ok (.aload_n 0, 1) := by decide +kernel
theorem dX10_line_263 : decode cX10_line 263 = .ok (.iconst 1, 1) := by decide +kernel
theorem dX10_line_264 : decode cX10_line 264 = .ok (.aload_n 0, 1) := by decide +kernel
theorem dX10_line_265 : decode cX10_line 265 = .ok (.iconst 1, 1) := by decide +kernel
theorem dX10_line_266 : decode cX10_line 266 = .ok (.invokevirtual 230, 3) := by decide +kernel
theorem dX10_line_269 : decode cX10_line 269 = .ok (.iconst 1, 1) := by decide +kernel
theorem dX10_line_270 : decode cX10_line 270 = .ok (.iadd, 1) := by decide +kernel
theorem dX10_line_271 : decode cX10_line 271 = .ok (.invokevirtual 251, 3) := by decide +kernel
theorem dX10_line_274 : decode cX10_line 274 = .ok (.goto 74, 3) := by decide +kernel
theorem dX10_line_277 : decode cX10_line 277 = .ok (.aload_n 0, 1) := by decide +kernel
theorem dX10_line_278 : decode cX10_line 278 = .ok (.bipush 8, 2) := by decide +kernel
theorem dX10_line_280 : decode cX10_line 280 = .ok (.aload_n 0, 1) := by decide +kernel
theorem dX10_line_281 : decode cX10_line 281 = .ok (.iconst 2, 1) := by decide +kernel
theorem dX10_line_282 : decode cX10_line 282 = .ok (.invokevirtual 230, 3) := by decide +kernel
theorem dX10_line_285 : decode cX10_line 285 = .ok (.iadd, 1) := by decide +kernel
theorem dX10_line_286 : decode cX10_line 286 = .ok (.invokevirtual 255, 3) := by decide +kernel
theorem dX10_line_289 : decode cX10_line 289 = .ok (.goto 59, 3) := by decide +kernel
theorem dX10_line_292 : decode cX10_line 292 = .ok (.aload_n 0, 1) := by decide +kernel
theorem dX10_line_293 : decode cX10_line 293 = .ok (.bipush 10, 2) := by decide +kernel
theorem dX10_line_295 : decode cX10_line 295 = .ok (.aload_n 0, 1) := by decide +kernel
theorem dX10_line_296 : decode cX10_line 296 = .ok (.iconst 3, 1) := by decide +kernel
theorem dX10_line_297 : decode cX10_line 297 = .ok (.invokevirtual 230, 3) := by decide +kernel
theorem dX10_line_300 : decode cX10_line 300 = .ok (.iadd, 1) := by decide +kernel
theorem dX10_line_301 : decode cX10_line 301 = .ok (.invokevirtual 258, 3) := by decide +kernel
theorem dX10_line_304 : decode cX10_line 304 = .ok (.goto 44, 3) := by decide +kernel
theorem dX10_line_307 : decode cX10_line 307 = .ok (.aload_n 0, 1) := by decide +kernel
theorem dX10_line_308 : decode cX10_line 308 = .ok (.invokevirtual 261, 3) := by decide +kernel
theorem dX10_line_311 : decode cX10_line 311 = .ok (.goto 37, 3) := by decide +kernel
theorem dX10_line_314 : decode cX10_line 314 = .ok (.aload_n 0, 1) := by decide +kernel
theorem dX10_line_315 : decode cX10_line 315 = .ok (.iconst 4, 1) := by decide +kernel
theorem dX10_line_316 : decode cX10_line 316 = .ok (.aload_n 0, 1) := by decide +kernel
theorem dX10_line_317 : decode cX10_line 317 = .ok (.iconst 0, 1) := by decide +kernel
theorem dX10_line_318 : decode cX10_line 318 = .ok (.bipush 100, 2) := by decide +kernel
theorem dX10_line_320 : decode cX10_line 320 = .ok (.invokevirtual 247, 3) := by decide +kernel
theorem dX10_line_323 : decode cX10_line 323 = .ok (.invokevirtual 251, 3) := by decide +kernel
theorem dX10_line_326 : decode cX10_line 326 = .ok (.goto 22, 3) := by decide +kernel
theorem dX10_line_329 : decode cX10_line 329 = .ok (.aload_n 0, 1) := by decide +kernel
theorem dX10_line_330 : decode cX10_line 330 = .ok (.iconst 5, 1) := by decide +kernel
theorem dX10_line_331 : decode cX10_line 331 = .ok (.aload_n 0, 1) := by decide +kernel
theorem dX10_line_332 : decode cX10_line 332 = .ok (.iconst 0, 1) := by decide +kernel
theorem dX10_line_333 : decode cX10_line 333 = .ok (.ldc 198, 2) := by decide +kernel
theorem dX10_line_335 : decode cX10_line 335 = .ok (.invokevirtual 247, 3) := by decide +kernel
theorem dX10_line_338 : decode cX10_line 338 = .ok (.invokevirtual 251, 3) := by decide +kernel
theorem dX10_line_341 : decode cX10_line 341 = .ok (.goto 7, 3) := by decide +kernel
theorem dX10_line_344 : decode cX10_line 344 = .ok (.aload_n 0, 1) := by decide +kernel
theorem dX10_line_345 : decode cX10_line 345 = .ok (.invokevirtual 264, 3) := by decide +kernel
theorem dX10_line_348 : decode cX10_line 348 = .ok (.aload_n 0, 1) := by decide +kernel
theorem dX10_line_349 : decode cX10_line 349 = .ok (.getfield 214, 3) := by decide +kernel
theorem dX10_line_352 : decode cX10_line 352 = .ok (.ifCond .eq 4, 3) := by decide +kernel
theorem dX10_line_355 : decode cX10_line 355 = .ok (.return_, 1) := by decide +kernel
theorem dX10_line_356 : decode cX10_line 356 = .ok (.aload_n 0, 1) := by decide +kernel
theorem dX10_line_357 : decode cX10_line 357 = .ok (.bipush 59, 2) := by decide +kernel
theorem dX10_line_359 : decode cX10_line 359 = .ok (.invokevirtual 267, 3) := by decide +kernel
theorem dX10_line_362 : decode cX10_line 362 = .ok (.ifCond .ne 11, 3) := by decide +kernel
theorem dX10_line_365 : decode cX10_line 365 = .ok (.aload_n 0, 1) := by decide +kernel
theorem dX10_line_366 : decode cX10_line 366 = .ok (.iconst 1, 1) := by decide +kernel
theorem dX10_line_367 : decode cX10_line 367 = .ok (.invokevirtual 223, 3) := by decide +kernel
theorem dX10_line_370 : decode cX10_line 370 = .ok (.goto 7, 3) := by decide +kernel
theorem dX10_line_373 : decode cX10_line 373 = .ok (.aload_n 0, 1) := by decide +kernel
theorem dX10_line_374 : decode cX10_line 374 = .ok (.invokevirtual 220, 3) := by decide +kernel
theorem dX10_line_377 : decode cX10_line 377 = .ok (.aload_n 0, 1) := by decide +kernel
theorem dX10_line_378 : decode cX10_line 378 = .ok (.dup, 1) := by decide +kernel
theorem dX10_line_379 : decode cX10_line 379 = .ok (.getfield 270, 3) := by decide +kernel
theorem dX10_line_382 : decode cX10_line 382 = .ok (.iconst 1, 1) := by decide +kernel
theorem dX10_line_383 : decode cX10_line 383 = .ok (.iadd, 1) := by decide +kernel
theorem dX10_line_384 : decode cX10_line 384 = .ok (.putfield 270, 3) := by decide +kernel
theorem dX10_line_387 : decode cX10_line 387 = .ok (.return_, 1) := by decide +kernel
theorem dX10_debtLine_0 : decode cX10_debtLine 0 = .ok (.aload_n 0, 1) := by decide +kernel
theorem dX10_debtLine_1 : decode cX10_debtLine 1 = .ok (.getfield 34, 3) := by decide +kernel
theorem dX10_debtLine_4 : decode cX10_debtLine 4 = .ok (.iload_n 1, 1) := by decide +kernel
theorem dX10_debtLine_5 : decode cX10_debtLine 5 = .ok (.aload_n 0, 1) := by decide +kernel
theorem dX10_debtLine_6 : decode cX10_debtLine 6 = .ok (.invokevirtual 273, 3) := by decide +kernel
theorem dX10_debtLine_9 : decode cX10_debtLine 9 = .ok (.iastore, 1) := by decide +kernel
theorem dX10_debtLine_10 : decode cX10_debtLine 10 = .ok (.aload_n 0, 1) := by decide +kernel
theorem dX10_debtLine_11 : decode cX10_debtLine 11 = .ok (.invokevirtual 276, 3) := by decide +kernel
theorem dX10_debtLine_14 : decode cX10_debtLine 14 = .ok (.aload_n 0, 1) := by decide +kernel
theorem dX10_debtLine_15 : decode cX10_debtLine 15 = .ok (.getfield 37, 3) := by decide +kernel
theorem dX10_debtLine_18 : decode cX10_debtLine 18 = .ok (.iload_n 1, 1) := by decide +kernel
theorem dX10_debtLine_19 : decode cX10_debtLine 19 = .ok (.aload_n 0, 1) := by decide +kernel
theorem dX10_debtLine_20 : decode cX10_debtLine 20 = .ok (.invokevirtual 273, 3) := by decide +kernel
theorem dX10_debtLine_23 : decode cX10_debtLine 23 = .ok (.iastore, 1) := by decide +kernel
theorem dX10_debtLine_24 : decode cX10_debtLine 24 = .ok (.aload_n 0, 1) := by decide +kernel
theorem dX10_debtLine_25 : decode cX10_debtLine 25 = .ok (.getfield 214, 3) := by decide +kernel
theorem dX10_debtLine_28 : decode cX10_debtLine 28 = .ok (.ifCond .ne 23, 3) := by decide +kernel
theorem dX10_debtLine_31 : decode cX10_debtLine 31 = .ok (.aload_n 0, 1) := by decide +kernel
theorem dX10_debtLine_32 : decode cX10_debtLine 32 = .ok (.getfield 37, 3) := by decide +kernel
theorem dX10_debtLine_35 : decode cX10_debtLine 35 = .ok (.iload_n 1, 1) := by decide +kernel
theorem dX10_debtLine_36 : decode cX10_debtLine 36 = .ok (.iaload, 1) := by decide +kernel
theorem dX10_debtLine_37 : decode cX10_debtLine 37 = .ok (.aload_n 0, 1) := by decide +kernel
theorem dX10_debtLine_38 : decode cX10_debtLine 38 = .ok (.getfield 34, 3) := by decide +kernel
theorem dX10_debtLine_41 : decode cX10_debtLine 41 = .ok (.iload_n 1, 1) := by decide +kernel
theorem dX10_debtLine_42 : decode cX10_debtLine 42 = .ok (.iaload, 1) := by decide +kernel
theorem dX10_debtLine_43 : decode cX10_debtLine 43 = .ok (.if_icmp .ne 8, 3) := by decide +kernel
theorem dX10_debtLine_46 : decode cX10_debtLine 46 = .ok (.aload_n 0, 1) := by decide +kernel
theorem dX10_debtLine_47 : decode cX10_debtLine 47 = .ok (.iconst 5, 1) := by decide +kernel
theorem dX10_debtLine_48 : decode cX10_debtLine 48 = .ok (.invokevirtual 223, 3) := by decide +kernel
theorem dX10_debtLine_51 : decode cX10_debtLine 51 = .ok (.aload_n 0, 1) := by decide +kernel
theorem dX10_debtLine_52 : decode cX10_debtLine 52 = .ok (.invokevirtual 276, 3) := by decide +kernel
theorem dX10_debtLine_55 : decode cX10_debtLine 55 = .ok (.aload_n 0, 1) := by decide +kernel
theorem dX10_debtLine_56 : decode cX10_debtLine 56 = .ok (.getfield 40, 3) := by decide +kernel
theorem dX10_debtLine_59 : decode cX10_debtLine 59 = .ok (.iload_n 1, 1) := by decide +kernel
theorem dX10_debtLine_60 : decode cX10_debtLine 60 = .ok (.aload_n 0, 1) := by decide +kernel
theorem dX10_debtLine_61 : decode cX10_debtLine 61 = .ok (.iconst 1, 1) := by decide +kernel
theorem dX10_debtLine_62 : decode cX10_debtLine 62 = .ok (.bipush 99, 2) := by decide +kernel
theorem dX10_debtLine_64 : decode cX10_debtLine 64 = .ok (.invokevirtual 247, 3) := by decide +kernel
theorem dX10_debtLine_67 : decode cX10_debtLine 67 = .ok (.iastore, 1) := by decide +kernel
theorem dX10_debtLine_68 : decode cX10_debtLine 68 = .ok (.aload_n 0, 1) := by decide +kernel
theorem dX10_debtLine_69 : decode cX10_debtLine 69 = .ok (.getfield 43, 3) := by decide +kernel
theorem dX10_debtLine_72 : decode cX10_debtLine 72 = .ok (.iload_n 1, 1) := by decide +kernel
theorem dX10_debtLine_73 : decode cX10_debtLine 73 = .ok (.aload_n 0, 1) := by decide +kernel
theorem dX10_debtLine_74 : decode cX10_debtLine 74 = .ok (.invokevirtual 279, 3) := by decide +kernel
theorem dX10_debtLine_77 : decode cX10_debtLine 77 = .ok (.iastore, 1) := by decide +kernel
theorem dX10_debtLine_78 : decode cX10_debtLine 78 = .ok (.aload_n 0, 1) := by decide +kernel
theorem dX10_debtLine_79 : decode cX10_debtLine 79 = .ok (.invokevirtual 276, 3) := by decide +kernel
theorem dX10_debtLine_82 : decode cX10_debtLine 82 = .ok (.aload_n 0, 1) := by decide +kernel
theorem dX10_debtLine_83 : decode cX10_debtLine 83 = .ok (.getfield 46, 3) := by decide +kernel
theorem dX10_debtLine_86 : decode cX10_debtLine 86 = .ok (.iload_n 1, 1) := by decide +kernel
theorem dX10_debtLine_87 : decode cX10_debtLine 87 = .ok (.aload_n 0, 1) := by decide +kernel
theorem dX10_debtLine_88 : decode cX10_debtLine 88 = .ok (.iconst 0, 1) := by decide +kernel
theorem dX10_debtLine_89 : decode cX10_debtLine 89 = .ok (.bipush 99, 2) := by decide +kernel
theorem dX10_debtLine_91 : decode cX10_debtLine 91 = .ok (.invokevirtual 247, 3) := by decide +kernel
theorem dX10_debtLine_94 : decode cX10_debtLine 94 = .ok (.iastore, 1) := by decide +kernel
theorem dX10_debtLine_95 : decode cX10_debtLine 95 = .ok (.aload_n 0, 1) := by decide +kernel
theorem dX10_debtLine_96 : decode cX10_debtLine 96 = .ok (.iconst 2, 1) := by decide +kernel
theorem dX10_debtLine_97 : decode cX10_debtLine 97 = .ok (.aload_n 0, 1) := by decide +kernel
theorem dX10_debtLine_98 : decode cX10_debtLine 98 = .ok (.iconst 2, 1) := by decide +kernel
theorem dX10_debtLine_99 : decode cX10_debtLine 99 = .ok (.invokevirtual 230, 3) := by decide +kernel
theorem dX10_debtLine_102 : decode cX10_debtLine 102 = .ok (.iconst 1, 1) := by decide +kernel
theorem dX10_debtLine_103 : decode cX10_debtLine 103 = .ok (.iadd, 1) := by decide +kernel
theorem dX10_debtLine_104 : decode cX10_debtLine 104 = .ok (.invokevirtual 251, 3) := by decide +kernel
theorem dX10_debtLine_107 : decode cX10_debtLine 107 = .ok (.return_, 1) := by decide +kernel
theorem dX10_leanLine_0 : decode cX10_leanLine 0 = .ok (.aload_n 0, 1) := by decide +kernel
theorem dX10_leanLine_1 : decode cX10_leanLine 1 = .ok (.getfield 49, 3) := by decide +kernel
theorem dX10_leanLine_4 : decode cX10_leanLine 4 = .ok (.iload_n 1, 1) := by decide +kernel
theorem dX10_leanLine_5 : decode cX10_leanLine 5 = .ok (.aload_n 0, 1) := by decide +kernel
theorem dX10_leanLine_6 : decode cX10_leanLine 6 = .ok (.invokevirtual 279, 3) := by decide +kernel
theorem dX10_leanLine_9 : decode cX10_leanLine 9 = .ok (.iastore, 1) := by decide +kernel
theorem dX10_leanLine_10 : decode cX10_leanLine 10 = .ok (.aload_n 0, 1) := by decide +kernel
theorem dX10_leanLine_11 : decode cX10_leanLine 11 = .ok (.invokevirtual 276, 3) := by decide +kernel
theorem dX10_leanLine_14 : decode cX10_leanLine 14 = .ok (.aload_n 0, 1) := by decide +kernel
theorem dX10_leanLine_15 : decode cX10_leanLine 15 = .ok (.getfield 52, 3) := by decide +kernel
theorem dX10_leanLine_18 : decode cX10_leanLine 18 = .ok (.iload_n 1, 1) := by decide +kernel
theorem dX10_leanLine_19 : decode cX10_leanLine 19 = .ok (.aload_n 0, 1) := by decide +kernel
theorem dX10_leanLine_20 : decode cX10_leanLine 20 = .ok (.invokevirtual 279, 3) := by decide +kernel
theorem dX10_leanLine_23 : decode cX10_leanLine 23 = .ok (.iastore, 1) := by decide +kernel
theorem dX10_leanLine_24 : decode cX10_leanLine 24 = .ok (.aload_n 0, 1) := by decide +kernel
theorem dX10_leanLine_25 : decode cX10_leanLine 25 = .ok (.getfield 214, 3) := by decide +kernel
theorem dX10_leanLine_28 : decode cX10_leanLine 28 = .ok (.ifCond .ne 23, 3) := by decide +kernel
theorem dX10_leanLine_31 : decode cX10_leanLine 31 = .ok (.aload_n 0, 1) := by decide +kernel
theorem dX10_leanLine_32 : decode cX10_leanLine 32 = .ok (.getfield 49, 3) := by decide +kernel
theorem dX10_leanLine_35 : decode cX10_leanLine 35 = .ok (.iload_n 1, 1) := by decide +kernel
theorem dX10_leanLine_36 : decode cX10_leanLine 36 = .ok (.iaload, 1) := by decide +kernel
theorem dX10_leanLine_37 : decode cX10_leanLine 37 = .ok (.aload_n 0, 1) := by decide +kernel
theorem dX10_leanLine_38 : decode cX10_leanLine 38 = .ok (.getfield 52, 3) := by decide +kernel
theorem dX10_leanLine_41 : decode cX10_leanLine 41 = .ok (.iload_n 1, 1) := by decide +kernel
theorem dX10_leanLine_42 : decode cX10_leanLine 42 = .ok (.iaload, 1) := by decide +kernel
theorem dX10_leanLine_43 : decode cX10_leanLine 43 = .ok (.if_icmp .ne 8, 3) := by decide +kernel
theorem dX10_leanLine_46 : decode cX10_leanLine 46 = .ok (.aload_n 0, 1) := by decide +kernel
theorem dX10_leanLine_47 : decode cX10_leanLine 47 = .ok (.iconst 5, 1) := by decide +kernel
theorem dX10_leanLine_48 : decode cX10_leanLine 48 = .ok (.invokevirtual 223, 3) := by decide +kernel
theorem dX10_leanLine_51 : decode cX10_leanLine 51 = .ok (.aload_n 0, 1) := by decide +kernel
theorem dX10_leanLine_52 : decode cX10_leanLine 52 = .ok (.invokevirtual 276, 3) := by decide +kernel
theorem dX10_leanLine_55 : decode cX10_leanLine 55 = .ok (.aload_n 0, 1) := by decide +kernel
theorem dX10_leanLine_56 : decode cX10_leanLine 56 = .ok (.getfield 55, 3) := by decide +kernel
theorem dX10_leanLine_59 : decode cX10_leanLine 59 = .ok (.iload_n 1, 1) := by decide +kernel
theorem dX10_leanLine_60 : decode cX10_leanLine 60 = .ok (.aload_n 0, 1) := by decide +kernel
theorem dX10_leanLine_61 : decode cX10_leanLine 61 = .ok (.iconst 0, 1) := by decide +kernel
theorem dX10_leanLine_62 : decode cX10_leanLine 62 = .ok (.bipush 99, 2) := by decide +kernel
theorem dX10_leanLine_64 : decode cX10_leanLine 64 = .ok (.invokevirtual 247, 3) := by decide +kernel
theorem dX10_leanLine_67 : decode cX10_leanLine 67 = .ok (.iastore, 1) := by decide +kernel
theorem dX10_leanLine_68 : decode cX10_leanLine 68 = .ok (.aload_n 0, 1) := by decide +kernel
theorem dX10_leanLine_69 : decode cX10_leanLine 69 = .ok (.iconst 3, 1) := by decide +kernel
theorem dX10_leanLine_70 : decode cX10_leanLine 70 = .ok (.aload_n 0, 1) := by decide +kernel
theorem dX10_leanLine_71 : decode cX10_leanLine 71 = .ok (.iconst 3, 1) := by decide +kernel
theorem dX10_leanLine_72 : decode cX10_leanLine 72 = .ok (.invokevirtual 230, 3) := by decide +kernel
theorem dX10_leanLine_75 : decode cX10_leanLine 75 = .ok (.iconst 1, 1) := by decide +kernel
theorem dX10_leanLine_76 : decode cX10_leanLine 76 = .ok (.iadd, 1) := by decide +kernel
theorem dX10_leanLine_77 : decode cX10_leanLine 77 = .ok (.invokevirtual 251, 3) := by decide +kernel
theorem dX10_leanLine_80 : decode cX10_leanLine 80 = .ok (.return_, 1) := by decide +kernel
theorem dX10_diesLine_0 : decode cX10_diesLine 0 = .ok (.aload_n 0, 1) := by decide +kernel
theorem dX10_diesLine_1 : decode cX10_diesLine 1 = .ok (.invokevirtual 279, 3) := by decide +kernel
theorem dX10_diesLine_4 : decode cX10_diesLine 4 = .ok (.istore_n 1, 1) := by decide +kernel
theorem dX10_diesLine_5 : decode cX10_diesLine 5 = .ok (.aload_n 0, 1) := by decide +kernel
theorem dX10_diesLine_6 : decode cX10_diesLine 6 = .ok (.getfield 214, 3) := by decide +kernel
theorem dX10_diesLine_9 : decode cX10_diesLine 9 = .ok (.ifCond .ne 21, 3) := by decide +kernel
theorem dX10_diesLine_12 : decode cX10_diesLine 12 = .ok (.aload_n 0, 1) := by decide +kernel
theorem dX10_diesLine_13 : decode cX10_diesLine 13 = .ok (.getfield 31, 3) := by decide +kernel
theorem dX10_diesLine_16 : decode cX10_diesLine 16 = .ok (.bipush 6, 2) := by decide +kernel
theorem dX10_diesLine_18 : decode cX10_diesLine 18 = .ok (.iload_n 1, 1) := by decide +kernel
theorem dX10_diesLine_19 : decode cX10_diesLine 19 = .ok (.iadd, 1) := by decide +kernel
theorem dX10_diesLine_20 : decode cX10_diesLine 20 = .ok (.iaload, 1) := by decide +kernel
theorem dX10_diesLine_21 : decode cX10_diesLine 21 = .ok (.iconst (-1), 1) := by decide +kernel
theorem dX10_diesLine_22 : decode cX10_diesLine 22 = .ok (.if_icmp .eq 8, 3) := by decide +kernel
theorem dX10_diesLine_25 : decode cX10_diesLine 25 = .ok (.aload_n 0, 1) := by decide +kernel
theorem dX10_diesLine_26 : decode cX10_diesLine 26 = .ok (.iconst 3, 1) := by decide +kernel
theorem dX10_diesLine_27 : decode cX10_diesLine 27 = .ok (.invokevirtual 223, 3) := by decide +kernel
theorem dX10_diesLine_30 : decode cX10_diesLine 30 = .ok (.aload_n 0, 1) := by decide +kernel
theorem dX10_diesLine_31 : decode cX10_diesLine 31 = .ok (.invokevirtual 276, 3) := by decide +kernel
theorem dX10_diesLine_34 : decode cX10_diesLine 34 = .ok (.aload_n 0, 1) := by decide +kernel
theorem dX10_diesLine_35 : decode cX10_diesLine 35 = .ok (.iconst 0, 1) := by decide +kernel
theorem dX10_diesLine_36 : decode cX10_diesLine 36 = .ok (.bipush 99, 2) := by decide +kernel
theorem dX10_diesLine_38 : decode cX10_diesLine 38 = .ok (.invokevirtual 247, 3) := by decide +kernel
theorem dX10_diesLine_41 : decode cX10_diesLine 41 = .ok (.istore_n 2, 1) := by decide +kernel
theorem dX10_diesLine_42 : decode cX10_diesLine 42 = .ok (.aload_n 0, 1) := by decide +kernel
theorem dX10_diesLine_43 : decode cX10_diesLine 43 = .ok (.getfield 214, 3) := by decide +kernel
theorem dX10_diesLine_46 : decode cX10_diesLine 46 = .ok (.ifCond .ne 13, 3) := by decide +kernel
theorem dX10_diesLine_49 : decode cX10_diesLine 49 = .ok (.aload_n 0, 1) := by decide +kernel
theorem dX10_diesLine_50 : decode cX10_diesLine 50 = .ok (.getfield 31, 3) := by decide +kernel
theorem dX10_diesLine_53 : decode cX10_diesLine 53 = .ok (.bipush 6, 2) := by decide +kernel
theorem dX10_diesLine_55 : decode cX10_diesLine 55 = .ok (.iload_n 1, 1) := by decide +kernel
theorem dX10_diesLine_56 : decode cX10_diesLine 56 = .ok (.iadd, 1) := by decide +kernel
theorem dX10_diesLine_57 : decode cX10_diesLine 57 = .ok (.iload_n 2, 1) := by decide +kernel
theorem dX10_diesLine_58 : decode cX10_diesLine 58 = .ok (.iastore, 1) := by decide +kernel
theorem dX10_diesLine_59 : decode cX10_diesLine 59 = .ok (.return_, 1) := by decide +kernel
theorem dX10_lawLine_0 : decode cX10_lawLine 0 = .ok (.aload_n 0, 1) := by decide +kernel
theorem dX10_lawLine_1 : decode cX10_lawLine 1 = .ok (.getfield 179, 3) := by decide +kernel
theorem dX10_lawLine_4 : decode cX10_lawLine 4 = .ok (.ifCond .ne 21, 3) := by decide +kernel
theorem dX10_lawLine_7 : decode cX10_lawLine 7 = .ok (.aload_n 0, 1) := by decide +kernel
theorem dX10_lawLine_8 : decode cX10_lawLine 8 = .ok (.getfield 189, 3) := by decide +kernel
theorem dX10_lawLine_11 : decode cX10_lawLine 11 = .ok (.bipush 8, 2) := by decide +kernel
theorem dX10_lawLine_13 : decode cX10_lawLine 13 = .ok (.if_icmp .lt 12, 3) := by decide +kernel
theorem dX10_lawLine_16 : decode cX10_lawLine 16 = .ok (.aload_n 0, 1) := by decide +kernel
theorem dX10_lawLine_17 : decode cX10_lawLine 17 = .ok (.getfield 189, 3) := by decide +kernel
theorem dX10_lawLine_20 : decode cX10_lawLine 20 = .ok (.bipush 10, 2) := by decide +kernel
theorem dX10_lawLine_22 : decode cX10_lawLine 22 = .ok (.if_icmp .le 8, 3) := by decide +kernel
theorem dX10_lawLine_25 : decode cX10_lawLine 25 = .ok (.aload_n 0, 1) := by decide +kernel
theorem dX10_lawLine_26 : decode cX10_lawLine 26 = .ok (.iconst 1, 1) := by decide +kernel
theorem dX10_lawLine_27 : decode cX10_lawLine 27 = .ok (.invokevirtual 223, 3) := by decide +kernel
theorem dX10_lawLine_30 : decode cX10_lawLine 30 = .ok (.aload_n 0, 1) := by decide +kernel
theorem dX10_lawLine_31 : decode cX10_lawLine 31 = .ok (.getfield 189, 3) := by decide +kernel
theorem dX10_lawLine_34 : decode cX10_lawLine 34 = .ok (.bipush 8, 2) := by decide +kernel
theorem dX10_lawLine_36 : decode cX10_lawLine 36 = .ok (.isub, 1) := by decide +kernel
theorem dX10_lawLine_37 : decode cX10_lawLine 37 = .ok (.istore_n 1, 1) := by decide +kernel
theorem dX10_lawLine_38 : decode cX10_lawLine 38 = .ok (.aload_n 0, 1) := by decide +kernel
theorem dX10_lawLine_39 : decode cX10_lawLine 39 = .ok (.getfield 214, 3) := by decide +kernel
theorem dX10_lawLine_42 : decode cX10_lawLine 42 = .ok (.ifCond .ne 23, 3) := by decide +kernel
theorem dX10_lawLine_45 : decode cX10_lawLine 45 = .ok (.aload_n 0, 1) := by decide +kernel
theorem dX10_lawLine_46 : decode cX10_lawLine 46 = .ok (.getfield 241, 3) := by decide +kernel
theorem dX10_lawLine_49 : decode cX10_lawLine 49 = .ok (.bipush 16, 2) := by decide +kernel
theorem dX10_lawLine_51 : decode cX10_lawLine 51 = .ok (.iload_n 1, 1) := by decide +kernel
theorem dX10_lawLine_52 : decode cX10_lawLine 52 = .ok (.iadd, 1) := by decide +kernel
theorem dX10_lawLine_53 : decode cX10_lawLine 53 = .ok (.ishr, 1) := by decide +kernel
theorem dX10_lawLine_54 : decode cX10_lawLine 54 = .ok (.iconst 1, 1) := by decide +kernel
theorem dX10_lawLine_55 : decode cX10_lawLine 55 = .ok (.iand, 1) := by decide +kernel
theorem dX10_lawLine_56 : decode cX10_lawLine 56 = .ok (.iconst 1, 1) := by decide +kernel
theorem dX10_lawLine_57 : decode cX10_lawLine 57 = .ok (.if_icmp .ne 8, 3) := by decide +kernel
theorem dX10_lawLine_60 : decode cX10_lawLine 60 = .ok (.aload_n 0, 1) := by decide +kernel
theorem dX10_lawLine_61 : decode cX10_lawLine 61 = .ok (.iconst 3, 1) := by decide +kernel
theorem dX10_lawLine_62 : decode cX10_lawLine 62 = .ok (.invokevirtual 223, 3) := by decide +kernel
theorem dX10_lawLine_65 : decode cX10_lawLine 65 = .ok (.aload_n 0, 1) := by decide +kernel
theorem dX10_lawLine_66 : decode cX10_lawLine 66 = .ok (.getfield 214, 3) := by decide +kernel
theorem dX10_lawLine_69 : decode cX10_lawLine 69 = .ok (.ifCond .eq 4, 3) := by decide +kernel
theorem dX10_lawLine_72 : decode cX10_lawLine 72 = .ok (.return_, 1) := by decide +kernel
theorem dX10_lawLine_73 : decode cX10_lawLine 73 = .ok (.aload_n 0, 1) := by decide +kernel
theorem dX10_lawLine_74 : decode cX10_lawLine 74 = .ok (.dup, 1) := by decide +kernel
theorem dX10_lawLine_75 : decode cX10_lawLine 75 = .ok (.getfield 241, 3) := by decide +kernel
theorem dX10_lawLine_78 : decode cX10_lawLine 78 = .ok (.iconst 1, 1) := by decide +kernel
theorem dX10_lawLine_79 : decode cX10_lawLine 79 = .ok (.bipush 16, 2) := by decide +kernel
theorem dX10_lawLine_81 : decode cX10_lawLine 81 = .ok (.iload_n 1, 1) := by decide +kernel
theorem dX10_lawLine_82 : decode cX10_lawLine 82 = .ok (.iadd, 1) := by decide +kernel
theorem dX10_lawLine_83 : decode cX10_lawLine 83 = .ok (.ishl, 1) := by decide +kernel
theorem dX10_lawLine_84 : decode cX10_lawLine 84 = .ok (.ior, 1) := by decide +kernel
theorem dX10_lawLine_85 : decode cX10_lawLine 85 = .ok (.putfield 241, 3) := by decide +kernel
theorem dX10_lawLine_88 : decode cX10_lawLine 88 = .ok (.aload_n 0, 1) := by decide +kernel
theorem dX10_lawLine_89 : decode cX10_lawLine 89 = .ok (.invokevirtual 220, 3) := by decide +kernel
theorem dX10_lawLine_92 : decode cX10_lawLine 92 = .ok (.aload_n 0, 1) := by decide +kernel
theorem dX10_lawLine_93 : decode cX10_lawLine 93 = .ok (.getfield 58, 3) := by decide +kernel
theorem dX10_lawLine_96 : decode cX10_lawLine 96 = .ok (.iconst 3, 1) := by decide +kernel
theorem dX10_lawLine_97 : decode cX10_lawLine 97 = .ok (.iload_n 1, 1) := by decide +kernel
theorem dX10_lawLine_98 : decode cX10_lawLine 98 = .ok (.iadd, 1) := by decide +kernel
theorem dX10_lawLine_99 : decode cX10_lawLine 99 = .ok (.aload_n 0, 1) := by decide +kernel
theorem dX10_lawLine_100 : decode cX10_lawLine 100 = .ok (.bipush 6, 2) := by decide +kernel
theorem dX10_lawLine_102 : decode cX10_lawLine 102 = .ok (.invokevirtual 230, 3) := by decide +kernel
theorem dX10_lawLine_105 : decode cX10_lawLine 105 = .ok (.iastore, 1) := by decide +kernel
theorem dX10_lawLine_106 : decode cX10_lawLine 106 = .ok (.aload_n 0, 1) := by decide +kernel
theorem dX10_lawLine_107 : decode cX10_lawLine 107 = .ok (.invokevirtual 282, 3) := by decide +kernel
theorem dX10_lawLine_110 : decode cX10_lawLine 110 = .ok (.aload_n 0, 1) := by decide +kernel
theorem dX10_lawLine_111 : decode cX10_lawLine 111 = .ok (.getfield 61, 3) := by decide +kernel
theorem dX10_lawLine_114 : decode cX10_lawLine 114 = .ok (.iconst 3, 1) := by decide +kernel
theorem dX10_lawLine_115 : decode cX10_lawLine 115 = .ok (.iload_n 1, 1) := by decide +kernel
theorem dX10_lawLine_116 : decode cX10_lawLine 116 = .ok (.iadd, 1) := by decide +kernel
theorem dX10_lawLine_117 : decode cX10_lawLine 117 = .ok (.aload_n 0, 1) := by decide +kernel
theorem dX10_lawLine_118 : decode cX10_lawLine 118 = .ok (.bipush 6, 2) := by decide +kernel
theorem dX10_lawLine_120 : decode cX10_lawLine 120 = .ok (.invokevirtual 230, 3) := by decide +kernel
theorem dX10_lawLine_123 : decode cX10_lawLine 123 = .ok (.iastore, 1) := by decide +kernel
theorem dX10_lawLine_124 : decode cX10_lawLine 124 = .ok (.return_, 1) := by decide +kernel
theorem dX10_puts_0 : decode cX10_puts 0 = .ok (.aload_n 0, 1) := by decide +kernel
theorem dX10_puts_1 : decode cX10_puts 1 = .ok (.getfield 214, 3) := by decide +kernel
theorem dX10_puts_4 : decode cX10_puts 4 = .ok (.ifCond .eq 4, 3) := by decide +kernel
theorem dX10_puts_7 : decode cX10_puts 7 = .ok (.return_, 1) := by decide +kernel
theorem dX10_puts_8 : decode cX10_puts 8 = .ok (.aload_n 0, 1) := by decide +kernel
theorem dX10_puts_9 : decode cX10_puts 9 = .ok (.getfield 64, 3) := by decide +kernel
theorem dX10_puts_12 : decode cX10_puts 12 = .ok (.bipush 64, 2) := by decide +kernel
theorem dX10_puts_14 : decode cX10_puts 14 = .ok (.aload_n 0, 1) := by decide +kernel
theorem dX10_puts_15 : decode cX10_puts 15 = .ok (.bipush 6, 2) := by decide +kernel
theorem dX10_puts_17 : decode cX10_puts 17 = .ok (.invokevirtual 230, 3) := by decide +kernel
theorem dX10_puts_20 : decode cX10_puts 20 = .ok (.iadd, 1) := by decide +kernel
theorem dX10_puts_21 : decode cX10_puts 21 = .ok (.iload_n 1, 1) := by decide +kernel
theorem dX10_puts_22 : decode cX10_puts 22 = .ok (.iastore, 1) := by decide +kernel
theorem dX10_puts_23 : decode cX10_puts 23 = .ok (.aload_n 0, 1) := by decide +kernel
theorem dX10_puts_24 : decode cX10_puts 24 = .ok (.getfield 67, 3) := by decide +kernel
theorem dX10_puts_27 : decode cX10_puts 27 = .ok (.bipush 64, 2) := by decide +kernel
theorem dX10_puts_29 : decode cX10_puts 29 = .ok (.aload_n 0, 1) := by decide +kernel
theorem dX10_puts_30 : decode cX10_puts 30 = .ok (.bipush 6, 2) := by decide +kernel
theorem dX10_puts_32 : decode cX10_puts 32 = .ok (.invokevirtual 230, 3) := by decide +kernel
theorem dX10_puts_35 : decode cX10_puts 35 = .ok (.iadd, 1) := by decide +kernel
theorem dX10_puts_36 : decode cX10_puts 36 = .ok (.iload_n 2, 1) := by decide +kernel
theorem dX10_puts_37 : decode cX10_puts 37 = .ok (.iastore, 1) := by decide +kernel
theorem dX10_puts_38 : decode cX10_puts 38 = .ok (.aload_n 0, 1) := by decide +kernel
theorem dX10_puts_39 : decode cX10_puts 39 = .ok (.bipush 6, 2) := by decide +kernel
theorem dX10_puts_41 : decode cX10_puts 41 = .ok (.aload_n 0, 1) := by decide +kernel
theorem dX10_puts_42 : decode cX10_puts 42 = .ok (.bipush 6, 2) := by decide +kernel
theorem dX10_puts_44 : decode cX10_puts 44 = .ok (.invokevirtual 230, 3) := by decide +kernel
theorem dX10_puts_47 : decode cX10_puts 47 = .ok (.iconst 1, 1) := by decide +kernel
theorem dX10_puts_48 : decode cX10_puts 48 = .ok (.iadd, 1) := by decide +kernel
theorem dX10_puts_49 : decode cX10_puts 49 = .ok (.invokevirtual 251, 3) := by decide +kernel
theorem dX10_puts_52 : decode cX10_puts 52 = .ok (.return_, 1) := by decide +kernel
theorem dX10_knot_0 : decode cX10_knot 0 = .ok (.aload_n 0, 1) := by decide +kernel
theorem dX10_knot_1 : decode cX10_knot 1 = .ok (.getfield 214, 3) := by decide +kernel
theorem dX10_knot_4 : decode cX10_knot 4 = .ok (.ifCond .eq 4, 3) := by decide +kernel
theorem dX10_knot_7 : decode cX10_knot 7 = .ok (.return_, 1) := by decide +kernel
theorem dX10_knot_8 : decode cX10_knot 8 = .ok (.aload_n 0, 1) := by decide +kernel
theorem dX10_knot_9 : decode cX10_knot 9 = .ok (.getfield 285, 3) := by decide +kernel
theorem dX10_knot_12 : decode cX10_knot 12 = .ok (.bipush 64, 2) := by decide +kernel
theorem dX10_knot_14 : decode cX10_knot 14 = .ok (.if_icmp .ne 11, 3) := by decide +kernel
theorem dX10_knot_17 : decode cX10_knot 17 = .ok (.aload_n 0, 1) := by decide +kernel
theorem dX10_knot_18 : decode cX10_knot 18 = .ok (.iconst 2, 1) := by decide +kernel
theorem dX10_knot_19 : decode cX10_knot 19 = .ok (.invokevirtual 223, 3) := by decide +kernel
theorem dX10_knot_22 : decode cX10_knot 22 = .ok (.goto 13, 3) := by decide +kernel
theorem dX10_knot_25 : decode cX10_knot 25 = .ok (.aload_n 0, 1) := by decide +kernel
theorem dX10_knot_26 : decode cX10_knot 26 = .ok (.dup, 1) := by decide +kernel
theorem dX10_knot_27 : decode cX10_knot 27 = .ok (.getfield 285, 3) := by decide +kernel
theorem dX10_knot_30 : decode cX10_knot 30 = .ok (.iconst 1, 1) := by decide +kernel
theorem dX10_knot_31 : decode cX10_knot 31 = .ok (.iadd, 1) := by decide +kernel
theorem dX10_knot_32 : decode cX10_knot 32 = .ok (.putfield 285, 3) := by decide +kernel
theorem dX10_knot_35 : decode cX10_knot 35 = .ok (.return_, 1) := by decide +kernel
theorem dX10_expression_0 : decode cX10_expression 0 = .ok (.aload_n 0, 1) := by decide +kernel
theorem dX10_expression_1 : decode cX10_expression 1 = .ok (.invokevirtual 288, 3) := by decide +kernel
theorem dX10_expression_4 : decode cX10_expression 4 = .ok (.aload_n 0, 1) := by decide +kernel
theorem dX10_expression_5 : decode cX10_expression 5 = .ok (.bipush 11, 2) := by decide +kernel
theorem dX10_expression_7 : decode cX10_expression 7 = .ok (.invokevirtual 291, 3) := by decide +kernel
theorem dX10_expression_10 : decode cX10_expression 10 = .ok (.ifCond .eq 26, 3) := by decide +kernel
theorem dX10_expression_13 : decode cX10_expression 13 = .ok (.aload_n 0, 1) := by decide +kernel
theorem dX10_expression_14 : decode cX10_expression 14 = .ok (.invokevirtual 294, 3) := by decide +kernel
theorem dX10_expression_17 : decode cX10_expression 17 = .ok (.aload_n 0, 1) := by decide +kernel
theorem dX10_expression_18 : decode cX10_expression 18 = .ok (.invokevirtual 276, 3) := by decide +kernel
theorem dX10_expression_21 : decode cX10_expression 21 = .ok (.aload_n 0, 1) := by decide +kernel
theorem dX10_expression_22 : decode cX10_expression 22 = .ok (.invokevirtual 288, 3) := by decide +kernel
theorem dX10_expression_25 : decode cX10_expression 25 = .ok (.aload_n 0, 1) := by decide +kernel
theorem dX10_expression_26 : decode cX10_expression 26 = .ok (.iconst 2, 1) := by decide +kernel
theorem dX10_expression_27 : decode cX10_expression 27 = .ok (.sipush 262, 3) := by decide +kernel
theorem dX10_expression_30 : decode cX10_expression 30 = .ok (.invokevirtual 297, 3) := by decide +kernel
theorem dX10_expression_33 : decode cX10_expression 33 = .ok (.goto (-29), 3) := by decide +kernel
theorem dX10_expression_36 : decode cX10_expression 36 = .ok (.return_, 1) := by decide +kernel
theorem dX10_conjunction_0 : decode cX10_conjunction 0 = .ok (.aload_n 0, 1) := by decide +kernel
theorem dX10_conjunction_1 : decode cX10_conjunction 1 = .ok (.invokevirtual 300, 3) := by decide +kernel
theorem dX10_conjunction_4 : decode cX10_conjunction 4 = .ok (.aload_n 0, 1) := by decide +kernel
theorem dX10_conjunction_5 : decode cX10_conjunction 5 = .ok (.bipush 12, 2) := by decide +kernel
theorem dX10_conjunction_7 : decode cX10_conjunction 7 = .ok (.invokevirtual 291, 3) := by decide +kernel
theorem dX10_conjunction_10 : decode cX10_conjunction 10 = .ok (.ifCond .eq 26, 3) := by decide +kernel
theorem dX10_conjunction_13 : decode cX10_conjunction 13 = .ok (.aload_n 0, 1) := by decide +kernel
theorem dX10_conjunction_14 : decode cX10_conjunction 14 = .ok (.invokevirtual 294, 3) := by decide +kernel
theorem dX10_conjunction_17 : decode cX10_conjunction 17 = .ok (.aload_n 0, 1) := by decide +kernel
theorem dX10_conjunction_18 : decode cX10_conjunction 18 = .ok (.invokevirtual 276, 3) := by decide +kernel
theorem dX10_conjunction_21 : decode cX10_conjunction 21 = .ok (.aload_n 0, 1) := by decide +kernel
theorem dX10_conjunction_22 : decode cX10_conjunction 22 = .ok (.invokevirtual 300, 3) := by decide +kernel
theorem dX10_conjunction_25 : decode cX10_conjunction 25 = .ok (.aload_n 0, 1) := by decide +kernel
theorem dX10_conjunction_26 : decode cX10_conjunction 26 = .ok (.iconst 2, 1) := by decide +kernel
theorem dX10_conjunction_27 : decode cX10_conjunction 27 = .ok (.sipush 261, 3) := by decide +kernel
theorem dX10_conjunction_30 : decode cX10_conjunction 30 = .ok (.invokevirtual 297, 3) := by decide +kernel
theorem dX10_conjunction_33 : decode cX10_conjunction 33 = .ok (.goto (-29), 3) := by decide +kernel
theorem dX10_conjunction_36 : decode cX10_conjunction 36 = .ok (.return_, 1) := by decide +kernel
theorem dX10_negation_0 : decode cX10_negation 0 = .ok (.aload_n 0, 1) := by decide +kernel
theorem dX10_negation_1 : decode cX10_negation 1 = .ok (.bipush 13, 2) := by decide +kernel
theorem dX10_negation_3 : decode cX10_negation 3 = .ok (.invokevirtual 291, 3) := by decide +kernel
theorem dX10_negation_6 : decode cX10_negation 6 = .ok (.ifCond .eq 24, 3) := by decide +kernel
theorem dX10_negation_9 : decode cX10_negation 9 = .ok (.aload_n 0, 1) := by decide +kernel
theorem dX10_negation_10 : decode cX10_negation 10 = .ok (.invokevirtual 294, 3) := by decide +kernel
theorem dX10_negation_13 : decode cX10_negation 13 = .ok (.aload_n 0, 1) := by decide +kernel
theorem dX10_negation_14 : decode cX10_negation 14 = .ok (.invokevirtual 276, 3) := by decide +kernel
theorem dX10_negation_17 : decode cX10_negation 17 = .ok (.aload_n 0, 1) := by decide +kernel
theorem dX10_negation_18 : decode cX10_negation 18 = .ok (.invokevirtual 300, 3) := by decide +kernel
theorem dX10_negation_21 : decode cX10_negation 21 = .ok (.aload_n 0, 1) := by decide +kernel
theorem dX10_negation_22 : decode cX10_negation 22 = .ok (.iconst 2, 1) := by decide +kernel
theorem dX10_negation_23 : decode cX10_negation 23 = .ok (.sipush 260, 3) := by decide +kernel
theorem dX10_negation_26 : decode cX10_negation 26 = .ok (.invokevirtual 297, 3) := by decide +kernel
theorem dX10_negation_29 : decode cX10_negation 29 = .ok (.return_, 1) := by decide +kernel
theorem dX10_negation_30 : decode cX10_negation 30 = .ok (.aload_n 0, 1) := by decide +kernel
theorem dX10_negation_31 : decode cX10_negation 31 = .ok (.invokevirtual 303, 3) := by decide +kernel
theorem dX10_negation_34 : decode cX10_negation 34 = .ok (.aload_n 0, 1) := by decide +kernel
theorem dX10_negation_35 : decode cX10_negation 35 = .ok (.getfield 214, 3) := by decide +kernel
theorem dX10_negation_38 : decode cX10_negation 38 = .ok (.ifCond .ne 48, 3) := by decide +kernel
theorem dX10_negation_41 : decode cX10_negation 41 = .ok (.aload_n 0, 1) := by decide +kernel
theorem dX10_negation_42 : decode cX10_negation 42 = .ok (.getfield 179, 3) := by decide +kernel
theorem dX10_negation_45 : decode cX10_negation 45 = .ok (.iconst 3, 1) := by decide +kernel
theorem dX10_negation_46 : decode cX10_negation 46 = .ok (.if_icmp .ne 40, 3) := by decide +kernel
theorem dX10_negation_49 : decode cX10_negation 49 = .ok (.aload_n 0, 1) := by decide +kernel
theorem dX10_negation_50 : decode cX10_negation 50 = .ok (.getfield 189, 3) := by decide +kernel
theorem dX10_negation_53 : decode cX10_negation 53 = .ok (.bipush 60, 2) := by decide +kernel
theorem dX10_negation_55 : decode cX10_negation 55 = .ok (.if_icmp .eq 32, 3) := by decide +kernel
theorem dX10_negation_58 : decode cX10_negation 58 = .ok (.aload_n 0, 1) := by decide +kernel
theorem dX10_negation_59 : decode cX10_negation 59 = .ok (.getfield 189, 3) := by decide +kernel
theorem dX10_negation_62 : decode cX10_negation 62 = .ok (.bipush 62, 2) := by decide +kernel
theorem dX10_negation_64 : decode cX10_negation 64 = .ok (.if_icmp .eq 23, 3) := by decide +kernel
theorem dX10_negation_67 : decode cX10_negation 67 = .ok (.aload_n 0, 1) := by decide +kernel
theorem dX10_negation_68 : decode cX10_negation 68 = .ok (.getfield 189, 3) := by decide +kernel
theorem dX10_negation_71 : decode cX10_negation 71 = .ok (.bipush 61, 2) := by decide +kernel
theorem dX10_negation_73 : decode cX10_negation 73 = .ok (.if_icmp .eq 14, 3) := by decide +kernel
theorem dX10_negation_76 : decode cX10_negation 76 = .ok (.aload_n 0, 1) := by decide +kernel
theorem dX10_negation_77 : decode cX10_negation 77 = .ok (.getfield 189, 3) := by decide +kernel
theorem dX10_negation_80 : decode cX10_negation 80 = .ok (.sipush 256, 3) := by decide +kernel
theorem dX10_negation_83 : decode cX10_negation 83 = .ok (.if_icmp .ge 4, 3) := by decide +kernel
theorem dX10_negation_86 : decode cX10_negation 86 = .ok (.return_, 1) := by decide +kernel
theorem dX10_negation_87 : decode cX10_negation 87 = .ok (.aload_n 0, 1) := by decide +kernel
theorem dX10_negation_88 : decode cX10_negation 88 = .ok (.getfield 189, 3) := by decide +kernel
theorem dX10_negation_91 : decode cX10_negation 91 = .ok (.istore_n 1, 1) := by decide +kernel
theorem dX10_negation_92 : decode cX10_negation 92 = .ok (.aload_n 0, 1) := by decide +kernel
theorem dX10_negation_93 : decode cX10_negation 93 = .ok (.invokevirtual 294, 3) := by decide +kernel
theorem dX10_negation_96 : decode cX10_negation 96 = .ok (.aload_n 0, 1) := by decide +kernel
theorem dX10_negation_97 : decode cX10_negation 97 = .ok (.invokevirtual 276, 3) := by decide +kernel
theorem dX10_negation_100 : decode cX10_negation 100 = .ok (.aload_n 0, 1) := by decide +kernel
theorem dX10_negation_101 : decode cX10_negation 101 = .ok (.invokevirtual 303, 3) := by decide +kernel
theorem dX10_negation_104 : decode cX10_negation 104 = .ok (.aload_n 0, 1) := by decide +kernel
theorem dX10_negation_105 : decode cX10_negation 105 = .ok (.iconst 2, 1) := by decide +kernel
theorem dX10_negation_106 : decode cX10_negation 106 = .ok (.iload_n 1, 1) := by decide +kernel
theorem dX10_negation_107 : decode cX10_negation 107 = .ok (.invokevirtual 297, 3) := by decide +kernel
theorem dX10_negation_110 : decode cX10_negation 110 = .ok (.return_, 1) := by decide +kernel
theorem dX10_sum_0 : decode cX10_sum 0 = .ok (.aload_n 0, 1) := by decide +kernel
theorem dX10_sum_1 : decode cX10_sum 1 = .ok (.invokevirtual 306, 3) := by decide +kernel
theorem dX10_sum_4 : decode cX10_sum 4 = .ok (.aload_n 0, 1) := by decide +kernel
theorem dX10_sum_5 : decode cX10_sum 5 = .ok (.bipush 43, 2) := by decide +kernel
theorem dX10_sum_7 : decode cX10_sum 7 = .ok (.invokevirtual 267, 3) := by decide +kernel
theorem dX10_sum_10 : decode cX10_sum 10 = .ok (.ifCond .ne 12, 3) := by decide +kernel
theorem dX10_sum_13 : decode cX10_sum 13 = .ok (.aload_n 0, 1) := by decide +kernel
theorem dX10_sum_14 : decode cX10_sum 14 = .ok (.bipush 45, 2) := by decide +kernel
theorem dX10_sum_16 : decode cX10_sum 16 = .ok (.invokevirtual 267, 3) := by decide +kernel
theorem dX10_sum_19 : decode cX10_sum 19 = .ok (.ifCond .eq 29, 3) := by decide +kernel
theorem dX10_sum_22 : decode cX10_sum 22 = .ok (.aload_n 0, 1) := by decide +kernel
theorem dX10_sum_23 : decode cX10_sum 23 = .ok (.getfield 189, 3) := by decide +kernel
theorem dX10_sum_26 : decode cX10_sum 26 = .ok (.istore_n 1, 1) := by decide +kernel
theorem dX10_sum_27 : decode cX10_sum 27 = .ok (.aload_n 0, 1) := by decide +kernel
theorem dX10_sum_28 : decode cX10_sum 28 = .ok (.invokevirtual 294, 3) := by decide +kernel
theorem dX10_sum_31 : decode cX10_sum 31 = .ok (.aload_n 0, 1) := by decide +kernel
theorem dX10_sum_32 : decode cX10_sum 32 = .ok (.invokevirtual 276, 3) := by decide +kernel
theorem dX10_sum_35 : decode cX10_sum 35 = .ok (.aload_n 0, 1) := by decide +kernel
theorem dX10_sum_36 : decode cX10_sum 36 = .ok (.invokevirtual 306, 3) := by decide +kernel
theorem dX10_sum_39 : decode cX10_sum 39 = .ok (.aload_n 0, 1) := by decide +kernel
theorem dX10_sum_40 : decode cX10_sum 40 = .ok (.iconst 2, 1) := by decide +kernel
theorem dX10_sum_41 : decode cX10_sum 41 = .ok (.iload_n 1, 1) := by decide +kernel
theorem dX10_sum_42 : decode cX10_sum 42 = .ok (.invokevirtual 297, 3) := by decide +kernel
theorem dX10_sum_45 : decode cX10_sum 45 = .ok (.goto (-41), 3) := by decide +kernel
theorem dX10_sum_48 : decode cX10_sum 48 = .ok (.return_, 1) := by decide +kernel
theorem dX10_product_0 : decode cX10_product 0 = .ok (.aload_n 0, 1) := by decide +kernel
theorem dX10_product_1 : decode cX10_product 1 = .ok (.invokevirtual 309, 3) := by decide +kernel
theorem dX10_product_4 : decode cX10_product 4 = .ok (.aload_n 0, 1) := by decide +kernel
theorem dX10_product_5 : decode cX10_product 5 = .ok (.bipush 42, 2) := by decide +kernel
theorem dX10_product_7 : decode cX10_product 7 = .ok (.invokevirtual 267, 3) := by decide +kernel
theorem dX10_product_10 : decode cX10_product 10 = .ok (.ifCond .ne 12, 3) := by decide +kernel
theorem dX10_product_13 : decode cX10_product 13 = .ok (.aload_n 0, 1) := by decide +kernel
theorem dX10_product_14 : decode cX10_product 14 = .ok (.bipush 47, 2) := by decide +kernel
theorem dX10_product_16 : decode cX10_product 16 = .ok (.invokevirtual 267, 3) := by decide +kernel
theorem dX10_product_19 : decode cX10_product 19 = .ok (.ifCond .eq 29, 3) := by decide +kernel
theorem dX10_product_22 : decode cX10_product 22 = .ok (.aload_n 0, 1) := by decide +kernel
theorem dX10_product_23 : decode cX10_product 23 = .ok (.getfield 189, 3) := by decide +kernel
theorem dX10_product_26 : decode cX10_product 26 = .ok (.istore_n 1, 1) := by decide +kernel
theorem dX10_product_27 : decode cX10_product 27 = .ok (.aload_n 0, 1) := by decide +kernel
theorem dX10_product_28 : decode cX10_product 28 = .ok (.invokevirtual 294, 3) := by decide +kernel
theorem dX10_product_31 : decode cX10_product 31 = .ok (.aload_n 0, 1) := by decide +kernel
theorem dX10_product_32 : decode cX10_product 32 = .ok (.invokevirtual 276, 3) := by decide +kernel
theorem dX10_product_35 : decode cX10_product 35 = .ok (.aload_n 0, 1) := by decide +kernel
theorem dX10_product_36 : decode cX10_product 36 = .ok (.invokevirtual 309, 3) := by decide +kernel
theorem dX10_product_39 : decode cX10_product 39 = .ok (.aload_n 0, 1) := by decide +kernel
theorem dX10_product_40 : decode cX10_product 40 = .ok (.iconst 2, 1) := by decide +kernel
theorem dX10_product_41 : decode cX10_product 41 = .ok (.iload_n 1, 1) := by decide +kernel
theorem dX10_product_42 : decode cX10_product 42 = .ok (.invokevirtual 297, 3) := by decide +kernel
theorem dX10_product_45 : decode cX10_product 45 = .ok (.goto (-41), 3) := by decide +kernel
theorem dX10_product_48 : decode cX10_product 48 = .ok (.return_, 1) := by decide +kernel
theorem dX10_primary_0 : decode cX10_primary 0 = .ok (.aload_n 0, 1) := by decide +kernel
theorem dX10_primary_1 : decode cX10_primary 1 = .ok (.getfield 214, 3) := by decide +kernel
theorem dX10_primary_4 : decode cX10_primary 4 = .ok (.ifCond .eq 4, 3) := by decide +kernel
theorem dX10_primary_7 : decode cX10_primary 7 = .ok (.return_, 1) := by decide +kernel
theorem dX10_primary_8 : decode cX10_primary 8 = .ok (.aload_n 0, 1) := by decide +kernel
theorem dX10_primary_9 : decode cX10_primary 9 = .ok (.bipush 40, 2) := by decide +kernel
theorem dX10_primary_11 : decode cX10_primary 11 = .ok (.invokevirtual 267, 3) := by decide +kernel
theorem dX10_primary_14 : decode cX10_primary 14 = .ok (.ifCond .eq 87, 3) := by decide +kernel
theorem dX10_primary_17 : decode cX10_primary 17 = .ok (.aload_n 0, 1) := by decide +kernel
theorem dX10_primary_18 : decode cX10_primary 18 = .ok (.getfield 312, 3) := by decide +kernel
theorem dX10_primary_21 : decode cX10_primary 21 = .ok (.bipush 8, 2) := by decide +kernel
theorem dX10_primary_23 : decode cX10_primary 23 = .ok (.if_icmp .ne 8, 3) := by decide +kernel
theorem dX10_primary_26 : decode cX10_primary 26 = .ok (.aload_n 0, 1) := by decide +kernel
theorem dX10_primary_27 : decode cX10_primary 27 = .ok (.iconst 2, 1) := by decide +kernel
theorem dX10_primary_28 : decode cX10_primary 28 = .ok (.invokevirtual 223, 3) := by decide +kernel
theorem dX10_primary_31 : decode cX10_primary 31 = .ok (.aload_n 0, 1) := by decide +kernel
theorem dX10_primary_32 : decode cX10_primary 32 = .ok (.getfield 214, 3) := by decide +kernel
theorem dX10_primary_35 : decode cX10_primary 35 = .ok (.ifCond .eq 4, 3) := by decide +kernel
theorem dX10_primary_38 : decode cX10_primary 38 = .ok (.return_, 1) := by decide +kernel
theorem dX10_primary_39 : decode cX10_primary 39 = .ok (.aload_n 0, 1) := by decide +kernel
theorem dX10_primary_40 : decode cX10_primary 40 = .ok (.dup, 1) := by decide +kernel
theorem dX10_primary_41 : decode cX10_primary 41 = .ok (.getfield 312, 3) := by decide +kernel
theorem dX10_primary_44 : decode cX10_primary 44 = .ok (.iconst 1, 1) := by decide +kernel
theorem dX10_primary_45 : decode cX10_primary 45 = .ok (.iadd, 1) := by decide +kernel
theorem dX10_primary_46 : decode cX10_primary 46 = .ok (.putfield 312, 3) := by decide +kernel
theorem dX10_primary_49 : decode cX10_primary 49 = .ok (.aload_n 0, 1) := by decide +kernel
theorem dX10_primary_50 : decode cX10_primary 50 = .ok (.invokevirtual 220, 3) := by decide +kernel
theorem dX10_primary_53 : decode cX10_primary 53 = .ok (.aload_n 0, 1) := by decide +kernel
theorem dX10_primary_54 : decode cX10_primary 54 = .ok (.invokevirtual 282, 3) := by decide +kernel
theorem dX10_primary_57 : decode cX10_primary 57 = .ok (.aload_n 0, 1) := by decide +kernel
theorem dX10_primary_58 : decode cX10_primary 58 = .ok (.getfield 214, 3) := by decide +kernel
theorem dX10_primary_61 : decode cX10_primary 61 = .ok (.ifCond .ne 17, 3) := by decide +kernel
theorem dX10_primary_64 : decode cX10_primary 64 = .ok (.aload_n 0, 1) := by decide +kernel
theorem dX10_primary_65 : decode cX10_primary 65 = .ok (.bipush 41, 2) := by decide +kernel
theorem dX10_primary_67 : decode cX10_primary 67 = .ok (.invokevirtual 267, 3) := by decide +kernel
theorem dX10_primary_70 : decode cX10_primary 70 = .ok (.ifCond .ne 8, 3) := by decide +kernel
theorem dX10_primary_73 : decode cX10_primary 73 = .ok (.aload_n 0, 1) := by decide +kernel
theorem dX10_primary_74 : decode cX10_primary 74 = .ok (.iconst 1, 1) := by decide +kernel
theorem dX10_primary_75 : decode cX10_primary 75 = .ok (.invokevirtual 223, 3) := by decide +kernel
theorem dX10_primary_78 : decode cX10_primary 78 = .ok (.aload_n 0, 1) := by decide +kernel
theorem dX10_primary_79 : decode cX10_primary 79 = .ok (.getfield 214, 3) := by decide +kernel
theorem dX10_primary_82 : decode cX10_primary 82 = .ok (.ifCond .eq 4, 3) := by decide +kernel
theorem dX10_primary_85 : decode cX10_primary 85 = .ok (.return_, 1) := by decide +kernel
theorem dX10_primary_86 : decode cX10_primary 86 = .ok (.aload_n 0, 1) := by decide +kernel
theorem dX10_primary_87 : decode cX10_primary 87 = .ok (.dup, 1) := by decide +kernel
theorem dX10_primary_88 : decode cX10_primary 88 = .ok (.getfield 312, 3) := by decide +kernel
theorem dX10_primary_91 : decode cX10_primary 91 = .ok (.iconst 1, 1) := by decide +kernel
theorem dX10_primary_92 : decode cX10_primary 92 = .ok (.isub, 1) := by decide +kernel
theorem dX10_primary_93 : decode cX10_primary 93 = .ok (.putfield 312, 3) := by decide +kernel
theorem dX10_primary_96 : decode cX10_primary 96 = .ok (.aload_n 0, 1) := by decide +kernel
theorem dX10_primary_97 : decode cX10_primary 97 = .ok (.invokevirtual 220, 3) := by decide +kernel
theorem dX10_primary_100 : decode cX10_primary 100 = .ok (.return_, 1) := by decide +kernel
theorem dX10_primary_101 : decode cX10_primary 101 = .ok (.aload_n 0, 1) := by decide +kernel
theorem dX10_primary_102 : decode cX10_primary 102 = .ok (.getfield 179, 3) := by decide +kernel
theorem dX10_primary_105 : decode cX10_primary 105 = .ok (.iconst 2, 1) := by decide +kernel
theorem dX10_primary_106 : decode cX10_primary 106 = .ok (.if_icmp .ne 7, 3) := by decide +kernel
theorem dX10_primary_109 : decode cX10_primary 109 = .ok (.iconst 1, 1) := by decide +kernel
theorem dX10_primary_110 : decode cX10_primary 110 = .ok (.goto 4, 3) := by decide +kernel
theorem dX10_primary_113 : decode cX10_primary 113 = .ok (.iconst 0, 1) := by decide +kernel
theorem dX10_primary_114 : decode cX10_primary 114 = .ok (.istore_n 1, 1) := by decide +kernel
theorem dX10_primary_115 : decode cX10_primary 115 = .ok (.iload_n 1, 1) := by decide +kernel
theorem dX10_primary_116 : decode cX10_primary 116 = .ok (.ifCond .eq 21, 3) := by decide +kernel
theorem dX10_primary_119 : decode cX10_primary 119 = .ok (.aload_n 0, 1) := by decide +kernel
theorem dX10_primary_120 : decode cX10_primary 120 = .ok (.getfield 189, 3) := by decide +kernel
theorem dX10_primary_123 : decode cX10_primary 123 = .ok (.sipush 9999, 3) := by decide +kernel
theorem dX10_primary_126 : decode cX10_primary 126 = .ok (.if_icmp .le 11, 3) := by decide +kernel
theorem dX10_primary_129 : decode cX10_primary 129 = .ok (.aload_n 0, 1) := by decide +kernel
theorem dX10_primary_130 : decode cX10_primary 130 = .ok (.iconst 2, 1) := by decide +kernel
theorem dX10_primary_131 : decode cX10_primary 131 = .ok (.invokevirtual 223, 3) := by decide +kernel
theorem dX10_primary_134 : decode cX10_primary 134 = .ok (.goto 28, 3) := by decide +kernel
theorem dX10_primary_137 : decode cX10_primary 137 = .ok (.iload_n 1, 1) := by decide +kernel
theorem dX10_primary_138 : decode cX10_primary 138 = .ok (.ifCond .ne 24, 3) := by decide +kernel
theorem dX10_primary_141 : decode cX10_primary 141 = .ok (.aload_n 0, 1) := by decide +kernel
theorem dX10_primary_142 : decode cX10_primary 142 = .ok (.getfield 179, 3) := by decide +kernel
theorem dX10_primary_145 : decode cX10_primary 145 = .ok (.ifCond .ne 12, 3) := by decide +kernel
theorem dX10_primary_148 : decode cX10_primary 148 = .ok (.aload_n 0, 1) := by decide +kernel
theorem dX10_primary_149 : decode cX10_primary 149 = .ok (.getfield 189, 3) := by decide +kernel
theorem dX10_primary_152 : decode cX10_primary 152 = .ok (.bipush 14, 2) := by decide +kernel
theorem dX10_primary_154 : decode cX10_primary 154 = .ok (.if_icmp .ge 8, 3) := by decide +kernel
theorem dX10_primary_157 : decode cX10_primary 157 = .ok (.aload_n 0, 1) := by decide +kernel
theorem dX10_primary_158 : decode cX10_primary 158 = .ok (.iconst 1, 1) := by decide +kernel
theorem dX10_primary_159 : decode cX10_primary 159 = .ok (.invokevirtual 223, 3) := by decide +kernel
theorem dX10_primary_162 : decode cX10_primary 162 = .ok (.aload_n 0, 1) := by decide +kernel
theorem dX10_primary_163 : decode cX10_primary 163 = .ok (.invokevirtual 294, 3) := by decide +kernel
theorem dX10_primary_166 : decode cX10_primary 166 = .ok (.aload_n 0, 1) := by decide +kernel
theorem dX10_primary_167 : decode cX10_primary 167 = .ok (.iload_n 1, 1) := by decide +kernel
theorem dX10_primary_168 : decode cX10_primary 168 = .ok (.ifCond .eq 7, 3) := by decide +kernel
theorem dX10_primary_171 : decode cX10_primary 171 = .ok (.iconst 0, 1) := by decide +kernel
theorem dX10_primary_172 : decode cX10_primary 172 = .ok (.goto 4, 3) := by decide +kernel
theorem dX10_primary_175 : decode cX10_primary 175 = .ok (.iconst 1, 1) := by decide +kernel
theorem dX10_primary_176 : decode cX10_primary 176 = .ok (.iload_n 1, 1) := by decide +kernel
theorem dX10_primary_177 : decode cX10_primary 177 = .ok (.ifCond .eq 10, 3) := by decide +kernel
theorem dX10_primary_180 : decode cX10_primary 180 = .ok (.aload_n 0, 1) := by decide +kernel
theorem dX10_primary_181 : decode cX10_primary 181 = .ok (.getfield 189, 3) := by decide +kernel
theorem dX10_primary_184 : decode cX10_primary 184 = .ok (.goto 10, 3) := by decide +kernel
theorem dX10_primary_187 : decode cX10_primary 187 = .ok (.aload_n 0, 1) := by decide +kernel
theorem dX10_primary_188 : decode cX10_primary 188 = .ok (.getfield 189, 3) := by decide +kernel
theorem dX10_primary_191 : decode cX10_primary 191 = .ok (.bipush 14, 2) := by decide +kernel
theorem dX10_primary_193 : decode cX10_primary 193 = .ok (.isub, 1) := by decide +kernel
theorem dX10_primary_194 : decode cX10_primary 194 = .ok (.invokevirtual 297, 3) := by decide +kernel
theorem dX10_primary_197 : decode cX10_primary 197 = .ok (.aload_n 0, 1) := by decide +kernel
theorem dX10_primary_198 : decode cX10_primary 198 = .ok (.invokevirtual 276, 3) := by decide +kernel
theorem dX10_primary_201 : decode cX10_primary 201 = .ok (.return_, 1) := by decide +kernel
theorem dX10_half_0 : decode cX10_half 0 = .ok (.aload_n 0, 1) := by decide +kernel
theorem dX10_half_1 : decode cX10_half 1 = .ok (.arraylength, 1) := by decide +kernel
theorem dX10_half_2 : decode cX10_half 2 = .ok (.iconst 2, 1) := by decide +kernel
theorem dX10_half_3 : decode cX10_half 3 = .ok (.idiv, 1) := by decide +kernel
theorem dX10_half_4 : decode cX10_half 4 = .ok (.istore_n 1, 1) := by decide +kernel
theorem dX10_half_5 : decode cX10_half 5 = .ok (.iconst 0, 1) := by decide +kernel
theorem dX10_half_6 : decode cX10_half 6 = .ok (.istore_n 2, 1) := by decide +kernel
theorem dX10_half_7 : decode cX10_half 7 = .ok (.iload_n 2, 1) := by decide +kernel
theorem dX10_half_8 : decode cX10_half 8 = .ok (.iload_n 1, 1) := by decide +kernel
theorem dX10_half_9 : decode cX10_half 9 = .ok (.if_icmp .ge 17, 3) := by decide +kernel
theorem dX10_half_12 : decode cX10_half 12 = .ok (.aload_n 0, 1) := by decide +kernel
theorem dX10_half_13 : decode cX10_half 13 = .ok (.iload_n 2, 1) := by decide +kernel
theorem dX10_half_14 : decode cX10_half 14 = .ok (.aload_n 0, 1) := by decide +kernel
theorem dX10_half_15 : decode cX10_half 15 = .ok (.iload_n 1, 1) := by decide +kernel
theorem dX10_half_16 : decode cX10_half 16 = .ok (.iload_n 2, 1) := by decide +kernel
theorem dX10_half_17 : decode cX10_half 17 = .ok (.iadd, 1) := by decide +kernel
theorem dX10_half_18 : decode cX10_half 18 = .ok (.iaload, 1) := by decide +kernel
theorem dX10_half_19 : decode cX10_half 19 = .ok (.iastore, 1) := by decide +kernel
theorem dX10_half_20 : decode cX10_half 20 = .ok (.iinc 2 1, 3) := by decide +kernel
theorem dX10_half_23 : decode cX10_half 23 = .ok (.goto (-16), 3) := by decide +kernel
theorem dX10_half_26 : decode cX10_half 26 = .ok (.return_, 1) := by decide +kernel
theorem dX10_text_0 : decode cX10_text 0 = .ok (.aload_n 0, 1) := by decide +kernel
theorem dX10_text_1 : decode cX10_text 1 = .ok (.iconst 0, 1) := by decide +kernel
theorem dX10_text_2 : decode cX10_text 2 = .ok (.putfield 160, 3) := by decide +kernel
theorem dX10_text_5 : decode cX10_text 5 = .ok (.iload_n 1, 1) := by decide +kernel
theorem dX10_text_6 : decode cX10_text 6 = .ok (.ifCond .lt 11, 3) := by decide +kernel
theorem dX10_text_9 : decode cX10_text 9 = .ok (.iload_n 1, 1) := by decide +kernel
theorem dX10_text_10 : decode cX10_text 10 = .ok (.aload_n 0, 1) := by decide +kernel
theorem dX10_text_11 : decode cX10_text 11 = .ok (.getfield 163, 3) := by decide +kernel
theorem dX10_text_14 : decode cX10_text 14 = .ok (.if_icmp .le 6, 3) := by decide +kernel
theorem dX10_text_17 : decode cX10_text 17 = .ok (.bipush (-2), 2) := by decide +kernel
theorem dX10_text_19 : decode cX10_text 19 = .ok (.ireturn, 1) := by decide +kernel
theorem dX10_text_20 : decode cX10_text 20 = .ok (.aload_n 0, 1) := by decide +kernel
theorem dX10_text_21 : decode cX10_text 21 = .ok (.iload_n 1, 1) := by decide +kernel
theorem dX10_text_22 : decode cX10_text 22 = .ok (.putfield 169, 3) := by decide +kernel
theorem dX10_text_25 : decode cX10_text 25 = .ok (.aload_n 0, 1) := by decide +kernel
theorem dX10_text_26 : decode cX10_text 26 = .ok (.iconst 0, 1) := by decide +kernel
theorem dX10_text_27 : decode cX10_text 27 = .ok (.putfield 163, 3) := by decide +kernel
theorem dX10_text_30 : decode cX10_text 30 = .ok (.aload_n 0, 1) := by decide +kernel
theorem dX10_text_31 : decode cX10_text 31 = .ok (.iconst 0, 1) := by decide +kernel
theorem dX10_text_32 : decode cX10_text 32 = .ok (.putfield 166, 3) := by decide +kernel
theorem dX10_text_35 : decode cX10_text 35 = .ok (.aload_n 0, 1) := by decide +kernel
theorem dX10_text_36 : decode cX10_text 36 = .ok (.iconst 0, 1) := by decide +kernel
theorem dX10_text_37 : decode cX10_text 37 = .ok (.putfield 214, 3) := by decide +kernel
theorem dX10_text_40 : decode cX10_text 40 = .ok (.aload_n 0, 1) := by decide +kernel
theorem dX10_text_41 : decode cX10_text 41 = .ok (.iconst (-1), 1) := by decide +kernel
theorem dX10_text_42 : decode cX10_text 42 = .ok (.putfield 217, 3) := by decide +kernel
theorem dX10_text_45 : decode cX10_text 45 = .ok (.iconst 0, 1) := by decide +kernel
theorem dX10_text_46 : decode cX10_text 46 = .ok (.istore_n 2, 1) := by decide +kernel
theorem dX10_text_47 : decode cX10_text 47 = .ok (.iload_n 2, 1) := by decide +kernel
theorem dX10_text_48 : decode cX10_text 48 = .ok (.bipush 7, 2) := by decide +kernel
theorem dX10_text_50 : decode cX10_text 50 = .ok (.if_icmp .ge 15, 3) := by decide +kernel
theorem dX10_text_53 : decode cX10_text 53 = .ok (.aload_n 0, 1) := by decide +kernel
theorem dX10_text_54 : decode cX10_text 54 = .ok (.iload_n 2, 1) := by decide +kernel
theorem dX10_text_55 : decode cX10_text 55 = .ok (.iconst 0, 1) := by decide +kernel
theorem dX10_text_56 : decode cX10_text 56 = .ok (.invokevirtual 251, 3) := by decide +kernel
theorem dX10_text_59 : decode cX10_text 59 = .ok (.iinc 2 1, 3) := by decide +kernel
theorem dX10_text_62 : decode cX10_text 62 = .ok (.goto (-15), 3) := by decide +kernel
theorem dX10_text_65 : decode cX10_text 65 = .ok (.iconst 3, 1) := by decide +kernel
theorem dX10_text_66 : decode cX10_text 66 = .ok (.istore_n 2, 1) := by decide +kernel
theorem dX10_text_67 : decode cX10_text 67 = .ok (.iload_n 2, 1) := by decide +kernel
theorem dX10_text_68 : decode cX10_text 68 = .ok (.bipush 6, 2) := by decide +kernel
theorem dX10_text_70 : decode cX10_text 70 = .ok (.if_icmp .ge 23, 3) := by decide +kernel
theorem dX10_text_73 : decode cX10_text 73 = .ok (.aload_n 0, 1) := by decide +kernel
theorem dX10_text_74 : decode cX10_text 74 = .ok (.getfield 58, 3) := by decide +kernel
theorem dX10_text_77 : decode cX10_text 77 = .ok (.iload_n 2, 1) := by decide +kernel
theorem dX10_text_78 : decode cX10_text 78 = .ok (.iconst 0, 1) := by decide +kernel
theorem dX10_text_79 : decode cX10_text 79 = .ok (.iastore, 1) := by decide +kernel
theorem dX10_text_80 : decode cX10_text 80 = .ok (.aload_n 0, 1) := by decide +kernel
theorem dX10_text_81 : decode cX10_text 81 = .ok (.getfield 61, 3) := by decide +kernel
theorem dX10_text_84 : decode cX10_text 84 = .ok (.iload_n 2, 1) := by decide +kernel
theorem dX10_text_85 : decode cX10_text 85 = .ok (.iconst 0, 1) := by decide +kernel
theorem dX10_text_86 : decode cX10_text 86 = .ok (.iastore, 1) := by decide +kernel
theorem dX10_text_87 : decode cX10_text 87 = .ok (.iinc 2 1, 3) := by decide +kernel
theorem dX10_text_90 : decode cX10_text 90 = .ok (.goto (-23), 3) := by decide +kernel
theorem dX10_text_93 : decode cX10_text 93 = .ok (.aload_n 0, 1) := by decide +kernel
theorem dX10_text_94 : decode cX10_text 94 = .ok (.iconst 0, 1) := by decide +kernel
theorem dX10_text_95 : decode cX10_text 95 = .ok (.putfield 241, 3) := by decide +kernel
theorem dX10_text_98 : decode cX10_text 98 = .ok (.aload_n 0, 1) := by decide +kernel
theorem dX10_text_99 : decode cX10_text 99 = .ok (.iconst 0, 1) := by decide +kernel
theorem dX10_text_100 : decode cX10_text 100 = .ok (.putfield 270, 3) := by decide +kernel
theorem dX10_text_103 : decode cX10_text 103 = .ok (.aload_n 0, 1) := by decide +kernel
theorem dX10_text_104 : decode cX10_text 104 = .ok (.iconst 0, 1) := by decide +kernel
theorem dX10_text_105 : decode cX10_text 105 = .ok (.putfield 312, 3) := by decide +kernel
theorem dX10_text_108 : decode cX10_text 108 = .ok (.aload_n 0, 1) := by decide +kernel
theorem dX10_text_109 : decode cX10_text 109 = .ok (.iconst 0, 1) := by decide +kernel
theorem dX10_text_110 : decode cX10_text 110 = .ok (.putfield 285, 3) := by decide +kernel
theorem dX10_text_113 : decode cX10_text 113 = .ok (.aload_n 0, 1) := by decide +kernel
theorem dX10_text_114 : decode cX10_text 114 = .ok (.invokevirtual 220, 3) := by decide +kernel
theorem dX10_text_117 : decode cX10_text 117 = .ok (.aload_n 0, 1) := by decide +kernel
theorem dX10_text_118 : decode cX10_text 118 = .ok (.getfield 214, 3) := by decide +kernel
theorem dX10_text_121 : decode cX10_text 121 = .ok (.ifCond .ne 18, 3) := by decide +kernel
theorem dX10_text_124 : decode cX10_text 124 = .ok (.aload_n 0, 1) := by decide +kernel
theorem dX10_text_125 : decode cX10_text 125 = .ok (.getfield 179, 3) := by decide +kernel
theorem dX10_text_128 : decode cX10_text 128 = .ok (.iconst 4, 1) := by decide +kernel
theorem dX10_text_129 : decode cX10_text 129 = .ok (.if_icmp .eq 10, 3) := by decide +kernel
theorem dX10_text_132 : decode cX10_text 132 = .ok (.aload_n 0, 1) := by decide +kernel
theorem dX10_text_133 : decode cX10_text 133 = .ok (.invokevirtual 315, 3) := by decide +kernel
theorem dX10_text_136 : decode cX10_text 136 = .ok (.goto (-19), 3) := by decide +kernel
theorem dX10_text_139 : decode cX10_text 139 = .ok (.aload_n 0, 1) := by decide +kernel
theorem dX10_text_140 : decode cX10_text 140 = .ok (.aload_n 0, 1) := by decide +kernel
theorem dX10_text_141 : decode cX10_text 141 = .ok (.getfield 214, 3) := by decide +kernel
theorem dX10_text_144 : decode cX10_text 144 = .ok (.putfield 318, 3) := by decide +kernel
theorem dX10_text_147 : decode cX10_text 147 = .ok (.aload_n 0, 1) := by decide +kernel
theorem dX10_text_148 : decode cX10_text 148 = .ok (.aload_n 0, 1) := by decide +kernel
theorem dX10_text_149 : decode cX10_text 149 = .ok (.getfield 217, 3) := by decide +kernel
theorem dX10_text_152 : decode cX10_text 152 = .ok (.putfield 70, 3) := by decide +kernel
theorem dX10_text_155 : decode cX10_text 155 = .ok (.aload_n 0, 1) := by decide +kernel
theorem dX10_text_156 : decode cX10_text 156 = .ok (.getfield 214, 3) := by decide +kernel
theorem dX10_text_159 : decode cX10_text 159 = .ok (.ifCond .eq 5, 3) := by decide +kernel
theorem dX10_text_162 : decode cX10_text 162 = .ok (.iconst (-1), 1) := by decide +kernel
theorem dX10_text_163 : decode cX10_text 163 = .ok (.ireturn, 1) := by decide +kernel
theorem dX10_text_164 : decode cX10_text 164 = .ok (.aload_n 0, 1) := by decide +kernel
theorem dX10_text_165 : decode cX10_text 165 = .ok (.getfield 13, 3) := by decide +kernel
theorem dX10_text_168 : decode cX10_text 168 = .ok (.invokestatic 321, 3) := by decide +kernel
theorem dX10_text_171 : decode cX10_text 171 = .ok (.aload_n 0, 1) := by decide +kernel
theorem dX10_text_172 : decode cX10_text 172 = .ok (.getfield 16, 3) := by decide +kernel
theorem dX10_text_175 : decode cX10_text 175 = .ok (.invokestatic 321, 3) := by decide +kernel
theorem dX10_text_178 : decode cX10_text 178 = .ok (.aload_n 0, 1) := by decide +kernel
theorem dX10_text_179 : decode cX10_text 179 = .ok (.getfield 19, 3) := by decide +kernel
theorem dX10_text_182 : decode cX10_text 182 = .ok (.invokestatic 321, 3) := by decide +kernel
theorem dX10_text_185 : decode cX10_text 185 = .ok (.aload_n 0, 1) := by decide +kernel
theorem dX10_text_186 : decode cX10_text 186 = .ok (.getfield 22, 3) := by decide +kernel
theorem dX10_text_189 : decode cX10_text 189 = .ok (.invokestatic 321, 3) := by decide +kernel
theorem dX10_text_192 : decode cX10_text 192 = .ok (.aload_n 0, 1) := by decide +kernel
theorem dX10_text_193 : decode cX10_text 193 = .ok (.getfield 25, 3) := by decide +kernel
theorem dX10_text_196 : decode cX10_text 196 = .ok (.invokestatic 321, 3) := by decide +kernel
theorem dX10_text_199 : decode cX10_text 199 = .ok (.aload_n 0, 1) := by decide +kernel
theorem dX10_text_200 : decode cX10_text 200 = .ok (.getfield 28, 3) := by decide +kernel
theorem dX10_text_203 : decode cX10_text 203 = .ok (.invokestatic 321, 3) := by decide +kernel
theorem dX10_text_206 : decode cX10_text 206 = .ok (.aload_n 0, 1) := by decide +kernel
theorem dX10_text_207 : decode cX10_text 207 = .ok (.getfield 31, 3) := by decide +kernel
theorem dX10_text_210 : decode cX10_text 210 = .ok (.invokestatic 321, 3) := by decide +kernel
theorem dX10_text_213 : decode cX10_text 213 = .ok (.aload_n 0, 1) := by decide +kernel
theorem dX10_text_214 : decode cX10_text 214 = .ok (.getfield 34, 3) := by decide +kernel
theorem dX10_text_217 : decode cX10_text 217 = .ok (.invokestatic 321, 3) := by decide +kernel
theorem dX10_text_220 : decode cX10_text 220 = .ok (.aload_n 0, 1) := by decide +kernel
theorem dX10_text_221 : decode cX10_text 221 = .ok (.getfield 37, 3) := by decide +kernel
theorem dX10_text_224 : decode cX10_text 224 = .ok (.invokestatic 321, 3) := by decide +kernel
theorem dX10_text_227 : decode cX10_text 227 = .ok (.aload_n 0, 1) := by decide +kernel
theorem dX10_text_228 : decode cX10_text 228 = .ok (.getfield 40, 3) := by decide +kernel
theorem dX10_text_231 : decode cX10_text 231 = .ok (.invokestatic 321, 3) := by decide +kernel
theorem dX10_text_234 : decode cX10_text 234 = .ok (.aload_n 0, 1) := by decide +kernel
theorem dX10_text_235 : decode cX10_text 235 = .ok (.getfield 43, 3) := by decide +kernel
theorem dX10_text_238 : decode cX10_text 238 = .ok (.invokestatic 321, 3) := by decide +kernel
theorem dX10_text_241 : decode cX10_text 241 = .ok (.aload_n 0, 1) := by decide +kernel
theorem dX10_text_242 : decode cX10_text 242 = .ok (.getfield 46, 3) := by decide +kernel
theorem dX10_text_245 : decode cX10_text 245 = .ok (.invokestatic 321, 3) := by decide +kernel
theorem dX10_text_248 : decode cX10_text 248 = .ok (.aload_n 0, 1) := by decide +kernel
theorem dX10_text_249 : decode cX10_text 249 = .ok (.getfield 49, 3) := by decide +kernel
theorem dX10_text_252 : decode cX10_text 252 = .ok (.invokestatic 321, 3) := by decide +kernel
theorem dX10_text_255 : decode cX10_text 255 = .ok (.aload_n 0, 1) := by decide +kernel
theorem dX10_text_256 : decode cX10_text 256 = .ok (.getfield 52, 3) := by decide +kernel
theorem dX10_text_259 : decode cX10_text 259 = .ok (.invokestatic 321, 3) := by decide +kernel
theorem dX10_text_262 : decode cX10_text 262 = .ok (.aload_n 0, 1) := by decide +kernel
theorem dX10_text_263 : decode cX10_text 263 = .ok (.getfield 55, 3) := by decide +kernel
theorem dX10_text_266 : decode cX10_text 266 = .ok (.invokestatic 321, 3) := by decide +kernel
theorem dX10_text_269 : decode cX10_text 269 = .ok (.aload_n 0, 1) := by decide +kernel
theorem dX10_text_270 : decode cX10_text 270 = .ok (.getfield 58, 3) := by decide +kernel
theorem dX10_text_273 : decode cX10_text 273 = .ok (.invokestatic 321, 3) := by decide +kernel
theorem dX10_text_276 : decode cX10_text 276 = .ok (.aload_n 0, 1) := by decide +kernel
theorem dX10_text_277 : decode cX10_text 277 = .ok (.getfield 61, 3) := by decide +kernel
theorem dX10_text_280 : decode cX10_text 280 = .ok (.invokestatic 321, 3) := by decide +kernel
theorem dX10_text_283 : decode cX10_text 283 = .ok (.aload_n 0, 1) := by decide +kernel
theorem dX10_text_284 : decode cX10_text 284 = .ok (.getfield 64, 3) := by decide +kernel
theorem dX10_text_287 : decode cX10_text 287 = .ok (.invokestatic 321, 3) := by decide +kernel
theorem dX10_text_290 : decode cX10_text 290 = .ok (.aload_n 0, 1) := by decide +kernel
theorem dX10_text_291 : decode cX10_text 291 = .ok (.getfield 67, 3) := by decide +kernel
theorem dX10_text_294 : decode cX10_text 294 = .ok (.invokestatic 321, 3) := by decide +kernel
theorem dX10_text_297 : decode cX10_text 297 = .ok (.aload_n 0, 1) := by decide +kernel
theorem dX10_text_298 : decode cX10_text 298 = .ok (.iconst 0, 1) := by decide +kernel
theorem dX10_text_299 : decode cX10_text 299 = .ok (.putfield 325, 3) := by decide +kernel
theorem dX10_text_302 : decode cX10_text 302 = .ok (.aload_n 0, 1) := by decide +kernel
theorem dX10_text_303 : decode cX10_text 303 = .ok (.iconst (-1), 1) := by decide +kernel
theorem dX10_text_304 : decode cX10_text 304 = .ok (.putfield 138, 3) := by decide +kernel
theorem dX10_text_307 : decode cX10_text 307 = .ok (.aload_n 0, 1) := by decide +kernel
theorem dX10_text_308 : decode cX10_text 308 = .ok (.iconst 0, 1) := by decide +kernel
theorem dX10_text_309 : decode cX10_text 309 = .ok (.putfield 328, 3) := by decide +kernel
theorem dX10_text_312 : decode cX10_text 312 = .ok (.aload_n 0, 1) := by decide +kernel
theorem dX10_text_313 : decode cX10_text 313 = .ok (.iconst 0, 1) := by decide +kernel
theorem dX10_text_314 : decode cX10_text 314 = .ok (.putfield 332, 3) := by decide +kernel
theorem dX10_text_317 : decode cX10_text 317 = .ok (.aload_n 0, 1) := by decide +kernel
theorem dX10_text_318 : decode cX10_text 318 = .ok (.invokevirtual 157, 3) := by decide +kernel
theorem dX10_text_321 : decode cX10_text 321 = .ok (.aload_n 0, 1) := by decide +kernel
theorem dX10_text_322 : decode cX10_text 322 = .ok (.getfield 270, 3) := by decide +kernel
theorem dX10_text_325 : decode cX10_text 325 = .ok (.ireturn, 1) := by decide +kernel
theorem dX10_fault_0 : decode cX10_fault 0 = .ok (.aload_n 0, 1) := by decide +kernel
theorem dX10_fault_1 : decode cX10_fault 1 = .ok (.iconst 0, 1) := by decide +kernel
theorem dX10_fault_2 : decode cX10_fault 2 = .ok (.putfield 160, 3) := by decide +kernel
theorem dX10_fault_5 : decode cX10_fault 5 = .ok (.iload_n 1, 1) := by decide +kernel
theorem dX10_fault_6 : decode cX10_fault 6 = .ok (.ifCond .ne 10, 3) := by decide +kernel
theorem dX10_fault_9 : decode cX10_fault 9 = .ok (.aload_n 0, 1) := by decide +kernel
theorem dX10_fault_10 : decode cX10_fault 10 = .ok (.getfield 318, 3) := by decide +kernel
theorem dX10_fault_13 : decode cX10_fault 13 = .ok (.goto 16, 3) := by decide +kernel
theorem dX10_fault_16 : decode cX10_fault 16 = .ok (.iload_n 1, 1) := by decide +kernel
theorem dX10_fault_17 : decode cX10_fault 17 = .ok (.iconst 1, 1) := by decide +kernel
theorem dX10_fault_18 : decode cX10_fault 18 = .ok (.if_icmp .ne 10, 3) := by decide +kernel
theorem dX10_fault_21 : decode cX10_fault 21 = .ok (.aload_n 0, 1) := by decide +kernel
theorem dX10_fault_22 : decode cX10_fault 22 = .ok (.getfield 70, 3) := by decide +kernel
theorem dX10_fault_25 : decode cX10_fault 25 = .ok (.goto 4, 3) := by decide +kernel
theorem dX10_fault_28 : decode cX10_fault 28 = .ok (.iconst (-1), 1) := by decide +kernel
theorem dX10_fault_29 : decode cX10_fault 29 = .ok (.ireturn, 1) := by decide +kernel
theorem dX10_named_0 : decode cX10_named 0 = .ok (.aload_n 0, 1) := by decide +kernel
theorem dX10_named_1 : decode cX10_named 1 = .ok (.iconst 0, 1) := by decide +kernel
theorem dX10_named_2 : decode cX10_named 2 = .ok (.putfield 160, 3) := by decide +kernel
theorem dX10_named_5 : decode cX10_named 5 = .ok (.iload_n 1, 1) := by decide +kernel
theorem dX10_named_6 : decode cX10_named 6 = .ok (.lookupswitch 58 #[(0, 26), (1, 42)], 26) := by decide +kernel
theorem dX10_named_32 : decode cX10_named 32 = .ok (.aload_n 0, 1) := by decide +kernel
theorem dX10_named_33 : decode cX10_named 33 = .ok (.getfield 16, 3) := by decide +kernel
theorem dX10_named_36 : decode cX10_named 36 = .ok (.iconst 0, 1) := by decide +kernel
theorem dX10_named_37 : decode cX10_named 37 = .ok (.aload_n 0, 1) := by decide +kernel
theorem dX10_named_38 : decode cX10_named 38 = .ok (.getfield 13, 3) := by decide +kernel
theorem dX10_named_41 : decode cX10_named 41 = .ok (.iconst 0, 1) := by decide +kernel
theorem dX10_named_42 : decode cX10_named 42 = .ok (.iaload, 1) := by decide +kernel
theorem dX10_named_43 : decode cX10_named 43 = .ok (.iload_n 2, 1) := by decide +kernel
theorem dX10_named_44 : decode cX10_named 44 = .ok (.invokestatic 226, 3) := by decide +kernel
theorem dX10_named_47 : decode cX10_named 47 = .ok (.ireturn, 1) := by decide +kernel
theorem dX10_named_48 : decode cX10_named 48 = .ok (.aload_n 0, 1) := by decide +kernel
theorem dX10_named_49 : decode cX10_named 49 = .ok (.getfield 22, 3) := by decide +kernel
theorem dX10_named_52 : decode cX10_named 52 = .ok (.iconst 0, 1) := by decide +kernel
theorem dX10_named_53 : decode cX10_named 53 = .ok (.aload_n 0, 1) := by decide +kernel
theorem dX10_named_54 : decode cX10_named 54 = .ok (.getfield 13, 3) := by decide +kernel
theorem dX10_named_57 : decode cX10_named 57 = .ok (.iconst 1, 1) := by decide +kernel
theorem dX10_named_58 : decode cX10_named 58 = .ok (.iaload, 1) := by decide +kernel
theorem dX10_named_59 : decode cX10_named 59 = .ok (.iload_n 2, 1) := by decide +kernel
theorem dX10_named_60 : decode cX10_named 60 = .ok (.invokestatic 226, 3) := by decide +kernel
theorem dX10_named_63 : decode cX10_named 63 = .ok (.ireturn, 1) := by decide +kernel
theorem dX10_named_64 : decode cX10_named 64 = .ok (.iconst (-1), 1) := by decide +kernel
theorem dX10_named_65 : decode cX10_named 65 = .ok (.ireturn, 1) := by decide +kernel
theorem dX10_is_0 : decode cX10_is 0 = .ok (.iload_n 0, 1) := by decide +kernel
theorem dX10_is_1 : decode cX10_is 1 = .ok (.ifCond .eq 7, 3) := by decide +kernel
theorem dX10_is_4 : decode cX10_is 4 = .ok (.lconst 1, 1) := by decide +kernel
theorem dX10_is_5 : decode cX10_is 5 = .ok (.goto 4, 3) := by decide +kernel
theorem dX10_is_8 : decode cX10_is 8 = .ok (.lconst 0, 1) := by decide +kernel
theorem dX10_is_9 : decode cX10_is 9 = .ok (.lreturn, 1) := by decide +kernel
theorem dX10_works_0 : decode cX10_works 0 = .ok (.aload_n 0, 1) := by decide +kernel
theorem dX10_works_1 : decode cX10_works 1 = .ok (.getfield 78, 3) := by decide +kernel
theorem dX10_works_4 : decode cX10_works 4 = .ok (.aload_n 0, 1) := by decide +kernel
theorem dX10_works_5 : decode cX10_works 5 = .ok (.getfield 335, 3) := by decide +kernel
theorem dX10_works_8 : decode cX10_works 8 = .ok (.iconst 1, 1) := by decide +kernel
theorem dX10_works_9 : decode cX10_works 9 = .ok (.isub, 1) := by decide +kernel
theorem dX10_works_10 : decode cX10_works 10 = .ok (.laload, 1) := by decide +kernel
theorem dX10_works_11 : decode cX10_works 11 = .ok (.lstore_n 2, 1) := by decide +kernel
theorem dX10_works_12 : decode cX10_works 12 = .ok (.iload_n 1, 1) := by decide +kernel
theorem dX10_works_13 : decode cX10_works 13 = .ok (.sipush 260, 3) := by decide +kernel
theorem dX10_works_16 : decode cX10_works 16 = .ok (.if_icmp .ne 30, 3) := by decide +kernel
theorem dX10_works_19 : decode cX10_works 19 = .ok (.aload_n 0, 1) := by decide +kernel
theorem dX10_works_20 : decode cX10_works 20 = .ok (.getfield 78, 3) := by decide +kernel
theorem dX10_works_23 : decode cX10_works 23 = .ok (.aload_n 0, 1) := by decide +kernel
theorem dX10_works_24 : decode cX10_works 24 = .ok (.getfield 335, 3) := by decide +kernel
theorem dX10_works_27 : decode cX10_works 27 = .ok (.iconst 1, 1) := by decide +kernel
theorem dX10_works_28 : decode cX10_works 28 = .ok (.isub, 1) := by decide +kernel
theorem dX10_works_29 : decode cX10_works 29 = .ok (.lload_n 2, 1) := by decide +kernel
theorem dX10_works_30 : decode cX10_works 30 = .ok (.lconst 0, 1) := by decide +kernel
theorem dX10_works_31 : decode cX10_works 31 = .ok (.lcmp, 1) := by decide +kernel
theorem dX10_works_32 : decode cX10_works 32 = .ok (.ifCond .ne 7, 3) := by decide +kernel
theorem dX10_works_35 : decode cX10_works 35 = .ok (.iconst 1, 1) := by decide +kernel
theorem dX10_works_36 : decode cX10_works 36 = .ok (.goto 4, 3) := by decide +kernel
theorem dX10_works_39 : decode cX10_works 39 = .ok (.iconst 0, 1) := by decide +kernel
theorem dX10_works_40 : decode cX10_works 40 = .ok (.invokestatic 338, 3) := by decide +kernel
theorem dX10_works_43 : decode cX10_works 43 = .ok (.lastore, 1) := by decide +kernel
theorem dX10_works_44 : decode cX10_works 44 = .ok (.iconst 1, 1) := by decide +kernel
theorem dX10_works_45 : decode cX10_works 45 = .ok (.ireturn, 1) := by decide +kernel
theorem dX10_works_46 : decode cX10_works 46 = .ok (.aload_n 0, 1) := by decide +kernel
theorem dX10_works_47 : decode cX10_works 47 = .ok (.getfield 78, 3) := by decide +kernel
theorem dX10_works_50 : decode cX10_works 50 = .ok (.aload_n 0, 1) := by decide +kernel
theorem dX10_works_51 : decode cX10_works 51 = .ok (.getfield 335, 3) := by decide +kernel
theorem dX10_works_54 : decode cX10_works 54 = .ok (.iconst 2, 1) := by decide +kernel
theorem dX10_works_55 : decode cX10_works 55 = .ok (.isub, 1) := by decide +kernel
theorem dX10_works_56 : decode cX10_works 56 = .ok (.laload, 1) := by decide +kernel
theorem dX10_works_57 : decode cX10_works 57 = .ok (.lstore 4, 2) := by decide +kernel
theorem dX10_works_59 : decode cX10_works 59 = .ok (.aload_n 0, 1) := by decide +kernel
theorem dX10_works_60 : decode cX10_works 60 = .ok (.dup, 1) := by decide +kernel
theorem dX10_works_61 : decode cX10_works 61 = .ok (.getfield 335, 3) := by decide +kernel
theorem dX10_works_64 : decode cX10_works 64 = .ok (.iconst 1, 1) := by decide +kernel
theorem dX10_works_65 : decode cX10_works 65 = .ok (.isub, 1) := by decide +kernel
theorem dX10_works_66 : decode cX10_works 66 = .ok (.putfield 335, 3) := by decide +kernel
theorem dX10_works_69 : decode cX10_works 69 = .ok (.iload_n 1, 1) := by decide +kernel
theorem dX10_works_70 : decode cX10_works 70 = .ok (.lookupswitch 314 #[(42, 116), (43, 98), (45, 107), (47, 151), (60, 168), (61, 208), (62, 188), (256, 228), (257, 268), (258, 248), (261, 288)], 98) := by decide +kernel
theorem dX10_works_168 : decode cX10_works 168 = .ok (.lload 4, 2) := by decide +kernel
theorem dX10_works_170 : decode cX10_works 170 = .ok (.lload_n 2, 1) := by decide +kernel
theorem dX10_works_171 : decode cX10_works 171 = .ok (.ladd, 1) := by decide +kernel
theorem dX10_works_172 : decode cX10_works 172 = .ok (.lstore 6, 2) := by decide +kernel
theorem dX10_works_174 : decode cX10_works 174 = .ok (.goto 233, 3) := by decide +kernel
theorem dX10_works_177 : decode cX10_works 177 = .ok (.lload 4, 2) := by decide +kernel
theorem dX10_works_179 : decode cX10_works 179 = .ok (.lload_n 2, 1) := by decide +kernel
theorem dX10_works_180 : decode cX10_works 180 = .ok (.lsub, 1) := by decide +kernel
theorem dX10_works_181 : decode cX10_works 181 = .ok (.lstore 6, 2) := by decide +kernel
theorem dX10_works_183 : decode cX10_works 183 = .ok (.goto 224, 3) := by decide +kernel
theorem dX10_works_186 : decode cX10_works 186 = .ok (.lload 4, 2) := by decide +kernel
theorem dX10_works_188 : decode cX10_works 188 = .ok (.lconst 0, 1) := by decide +kernel
theorem dX10_works_189 : decode cX10_works 189 = .ok (.lcmp, 1) := by decide +kernel
theorem dX10_works_190 : decode cX10_works 190 = .ok (.ifCond .eq 22, 3) := by decide +kernel
theorem dX10_works_193 : decode cX10_works 193 = .ok (.lload_n 2, 1) := by decide +kernel
theorem dX10_works_194 : decode cX10_works 194 = .ok (.invokestatic 342, 3) := by decide +kernel
theorem dX10_works_197 : decode cX10_works 197 = .ok (.ldc2_w 348, 3) := by decide +kernel
theorem dX10_works_200 : decode cX10_works 200 = .ok (.lload 4, 2) := by decide +kernel
theorem dX10_works_202 : decode cX10_works 202 = .ok (.invokestatic 342, 3) := by decide +kernel
theorem dX10_works_205 : decode cX10_works 205 = .ok (.ldiv, 1) := by decide +kernel
theorem dX10_works_206 : decode cX10_works 206 = .ok (.lcmp, 1) := by decide +kernel
theorem dX10_works_207 : decode cX10_works 207 = .ok (.ifCond .le 5, 3) := by decide +kernel
theorem dX10_works_210 : decode cX10_works 210 = .ok (.iconst 0, 1) := by decide +kernel
theorem dX10_works_211 : decode cX10_works 211 = .ok (.ireturn, 1) := by decide +kernel
theorem dX10_works_212 : decode cX10_works 212 = .ok (.lload 4, 2) := by decide +kernel
theorem dX10_works_214 : decode cX10_works 214 = .ok (.lload_n 2, 1) := by decide +kernel
theorem dX10_works_215 : decode cX10_works 215 = .ok (.lmul, 1) := by decide +kernel
theorem dX10_works_216 : decode cX10_works 216 = .ok (.lstore 6, 2) := by decide +kernel
theorem dX10_works_218 : decode cX10_works 218 = .ok (.goto 189, 3) := by decide +kernel
theorem dX10_works_221 : decode cX10_works 221 = .ok (.lload_n 2, 1) := by decide +kernel
theorem dX10_works_222 : decode cX10_works 222 = .ok (.lconst 0, 1) := by decide +kernel
theorem dX10_works_223 : decode cX10_works 223 = .ok (.lcmp, 1) := by decide +kernel
theorem dX10_works_224 : decode cX10_works 224 = .ok (.ifCond .ne 5, 3) := by decide +kernel
theorem dX10_works_227 : decode cX10_works 227 = .ok (.iconst 0, 1) := by decide +kernel
theorem dX10_works_228 : decode cX10_works 228 = .ok (.ireturn, 1) := by decide +kernel
theorem dX10_works_229 : decode cX10_works 229 = .ok (.lload 4, 2) := by decide +kernel
theorem dX10_works_231 : decode cX10_works 231 = .ok (.lload_n 2, 1) := by decide +kernel
theorem dX10_works_232 : decode cX10_works 232 = .ok (.ldiv, 1) := by decide +kernel
theorem dX10_works_233 : decode cX10_works 233 = .ok (.lstore 6, 2) := by decide +kernel
theorem dX10_works_235 : decode cX10_works 235 = .ok (.goto 172, 3) := by decide +kernel
theorem dX10_works_238 : decode cX10_works 238 = .ok (.lload 4, 2) := by decide +kernel
theorem dX10_works_240 : decode cX10_works 240 = .ok (.lload_n 2, 1) := by decide +kernel
theorem dX10_works_241 : decode cX10_works 241 = .ok (.lcmp, 1) := by decide +kernel
theorem dX10_works_242 : decode cX10_works 242 = .ok (.ifCond .ge 7, 3) := by decide +kernel
theorem dX10_works_245 : decode cX10_works 245 = .ok (.iconst 1, 1) := by decide +kernel
theorem dX10_works_246 : decode cX10_works 246 = .ok (.goto 4, 3) := by decide +kernel
theorem dX10_works_249 : decode cX10_works 249 = .ok (.iconst 0, 1) := by decide +kernel
theorem dX10_works_250 : decode cX10_works 250 = .ok (.invokestatic 338, 3) := by decide +kernel
theorem dX10_works_253 : decode cX10_works 253 = .ok (.lstore 6, 2) := by decide +kernel
theorem dX10_works_255 : decode cX10_works 255 = .ok (.goto 152, 3) := by decide +kernel
theorem dX10_works_258 : decode cX10_works 258 = .ok (.lload 4, 2) := by decide +kernel
theorem dX10_works_260 : decode cX10_works 260 = .ok (.lload_n 2, 1) := by decide +kernel
theorem dX10_works_261 : decode cX10_works 261 = .ok (.lcmp, 1) := by decide +kernel
theorem dX10_works_262 : decode cX10_works 262 = .ok (.ifCond .le 7, 3) := by decide +kernel
theorem dX10_works_265 : decode cX10_works 265 = .ok (.iconst 1, 1) := by decide +kernel
theorem dX10_works_266 : decode cX10_works 266 = .ok (.goto 4, 3) := by decide +kernel
theorem dX10_works_269 : decode cX10_works 269 = .ok (.iconst 0, 1) := by decide +kernel
theorem dX10_works_270 : decode cX10_works 270 = .ok (.invokestatic 338, 3) := by decide +kernel
theorem dX10_works_273 : decode cX10_works 273 = .ok (.lstore 6, 2) := by decide +kernel
theorem dX10_works_275 : decode cX10_works 275 = .ok (.goto 132, 3) := by decide +kernel
theorem dX10_works_278 : decode cX10_works 278 = .ok (.lload 4, 2) := by decide +kernel
theorem dX10_works_280 : decode cX10_works 280 = .ok (.lload_n 2, 1) := by decide +kernel
theorem dX10_works_281 : decode cX10_works 281 = .ok (.lcmp, 1) := by decide +kernel
theorem dX10_works_282 : decode cX10_works 282 = .ok (.ifCond .ne 7, 3) := by decide +kernel
theorem dX10_works_285 : decode cX10_works 285 = .ok (.iconst 1, 1) := by decide +kernel
theorem dX10_works_286 : decode cX10_works 286 = .ok (.goto 4, 3) := by decide +kernel
theorem dX10_works_289 : decode cX10_works 289 = .ok (.iconst 0, 1) := by decide +kernel
theorem dX10_works_290 : decode cX10_works 290 = .ok (.invokestatic 338, 3) := by decide +kernel
theorem dX10_works_293 : decode cX10_works 293 = .ok (.lstore 6, 2) := by decide +kernel
theorem dX10_works_295 : decode cX10_works 295 = .ok (.goto 112, 3) := by decide +kernel
theorem dX10_works_298 : decode cX10_works 298 = .ok (.lload 4, 2) := by decide +kernel
theorem dX10_works_300 : decode cX10_works 300 = .ok (.lload_n 2, 1) := by decide +kernel
theorem dX10_works_301 : decode cX10_works 301 = .ok (.lcmp, 1) := by decide +kernel
theorem dX10_works_302 : decode cX10_works 302 = .ok (.ifCond .gt 7, 3) := by decide +kernel
theorem dX10_works_305 : decode cX10_works 305 = .ok (.iconst 1, 1) := by decide +kernel
theorem dX10_works_306 : decode cX10_works 306 = .ok (.goto 4, 3) := by decide +kernel
theorem dX10_works_309 : decode cX10_works 309 = .ok (.iconst 0, 1) := by decide +kernel
theorem dX10_works_310 : decode cX10_works 310 = .ok (.invokestatic 338, 3) := by decide +kernel
theorem dX10_works_313 : decode cX10_works 313 = .ok (.lstore 6, 2) := by decide +kernel
theorem dX10_works_315 : decode cX10_works 315 = .ok (.goto 92, 3) := by decide +kernel
theorem dX10_works_318 : decode cX10_works 318 = .ok (.lload 4, 2) := by decide +kernel
theorem dX10_works_320 : decode cX10_works 320 = .ok (.lload_n 2, 1) := by decide +kernel
theorem dX10_works_321 : decode cX10_works 321 = .ok (.lcmp, 1) := by decide +kernel
theorem dX10_works_322 : decode cX10_works 322 = .ok (.ifCond .lt 7, 3) := by decide +kernel
theorem dX10_works_325 : decode cX10_works 325 = .ok (.iconst 1, 1) := by decide +kernel
theorem dX10_works_326 : decode cX10_works 326 = .ok (.goto 4, 3) := by decide +kernel
theorem dX10_works_329 : decode cX10_works 329 = .ok (.iconst 0, 1) := by decide +kernel
theorem dX10_works_330 : decode cX10_works 330 = .ok (.invokestatic 338, 3) := by decide +kernel
theorem dX10_works_333 : decode cX10_works 333 = .ok (.lstore 6, 2) := by decide +kernel
theorem dX10_works_335 : decode cX10_works 335 = .ok (.goto 72, 3) := by decide +kernel
theorem dX10_works_338 : decode cX10_works 338 = .ok (.lload 4, 2) := by decide +kernel
theorem dX10_works_340 : decode cX10_works 340 = .ok (.lload_n 2, 1) := by decide +kernel
theorem dX10_works_341 : decode cX10_works 341 = .ok (.lcmp, 1) := by decide +kernel
theorem dX10_works_342 : decode cX10_works 342 = .ok (.ifCond .eq 7, 3) := by decide +kernel
theorem dX10_works_345 : decode cX10_works 345 = .ok (.iconst 1, 1) := by decide +kernel
theorem dX10_works_346 : decode cX10_works 346 = .ok (.goto 4, 3) := by decide +kernel
theorem dX10_works_349 : decode cX10_works 349 = .ok (.iconst 0, 1) := by decide +kernel
theorem dX10_works_350 : decode cX10_works 350 = .ok (.invokestatic 338, 3) := by decide +kernel
theorem dX10_works_353 : decode cX10_works 353 = .ok (.lstore 6, 2) := by decide +kernel
theorem dX10_works_355 : decode cX10_works 355 = .ok (.goto 52, 3) := by decide +kernel
theorem dX10_works_358 : decode cX10_works 358 = .ok (.lload 4, 2) := by decide +kernel
theorem dX10_works_360 : decode cX10_works 360 = .ok (.lconst 0, 1) := by decide +kernel
theorem dX10_works_361 : decode cX10_works 361 = .ok (.lcmp, 1) := by decide +kernel
theorem dX10_works_362 : decode cX10_works 362 = .ok (.ifCond .eq 13, 3) := by decide +kernel
theorem dX10_works_365 : decode cX10_works 365 = .ok (.lload_n 2, 1) := by decide +kernel
theorem dX10_works_366 : decode cX10_works 366 = .ok (.lconst 0, 1) := by decide +kernel
theorem dX10_works_367 : decode cX10_works 367 = .ok (.lcmp, 1) := by decide +kernel
theorem dX10_works_368 : decode cX10_works 368 = .ok (.ifCond .eq 7, 3) := by decide +kernel
theorem dX10_works_371 : decode cX10_works 371 = .ok (.iconst 1, 1) := by decide +kernel
theorem dX10_works_372 : decode cX10_works 372 = .ok (.goto 4, 3) := by decide +kernel
theorem dX10_works_375 : decode cX10_works 375 = .ok (.iconst 0, 1) := by decide +kernel
theorem dX10_works_376 : decode cX10_works 376 = .ok (.invokestatic 338, 3) := by decide +kernel
theorem dX10_works_379 : decode cX10_works 379 = .ok (.lstore 6, 2) := by decide +kernel
theorem dX10_works_381 : decode cX10_works 381 = .ok (.goto 26, 3) := by decide +kernel
theorem dX10_works_384 : decode cX10_works 384 = .ok (.lload 4, 2) := by decide +kernel
theorem dX10_works_386 : decode cX10_works 386 = .ok (.lconst 0, 1) := by decide +kernel
theorem dX10_works_387 : decode cX10_works 387 = .ok (.lcmp, 1) := by decide +kernel
theorem dX10_works_388 : decode cX10_works 388 = .ok (.ifCond .ne 9, 3) := by decide +kernel
theorem dX10_works_391 : decode cX10_works 391 = .ok (.lload_n 2, 1) := by decide +kernel
theorem dX10_works_392 : decode cX10_works 392 = .ok (.lconst 0, 1) := by decide +kernel
theorem dX10_works_393 : decode cX10_works 393 = .ok (.lcmp, 1) := by decide +kernel
theorem dX10_works_394 : decode cX10_works 394 = .ok (.ifCond .eq 7, 3) := by decide +kernel
theorem dX10_works_397 : decode cX10_works 397 = .ok (.iconst 1, 1) := by decide +kernel
theorem dX10_works_398 : decode cX10_works 398 = .ok (.goto 4, 3) := by decide +kernel
theorem dX10_works_401 : decode cX10_works 401 = .ok (.iconst 0, 1) := by decide +kernel
theorem dX10_works_402 : decode cX10_works 402 = .ok (.invokestatic 338, 3) := by decide +kernel
theorem dX10_works_405 : decode cX10_works 405 = .ok (.lstore 6, 2) := by decide +kernel
theorem dX10_works_407 : decode cX10_works 407 = .ok (.aload_n 0, 1) := by decide +kernel
theorem dX10_works_408 : decode cX10_works 408 = .ok (.getfield 78, 3) := by decide +kernel
theorem dX10_works_411 : decode cX10_works 411 = .ok (.aload_n 0, 1) := by decide +kernel
theorem dX10_works_412 : decode cX10_works 412 = .ok (.getfield 335, 3) := by decide +kernel
theorem dX10_works_415 : decode cX10_works 415 = .ok (.iconst 1, 1) := by decide +kernel
theorem dX10_works_416 : decode cX10_works 416 = .ok (.isub, 1) := by decide +kernel
theorem dX10_works_417 : decode cX10_works 417 = .ok (.lload 6, 2) := by decide +kernel
theorem dX10_works_419 : decode cX10_works 419 = .ok (.lastore, 1) := by decide +kernel
theorem dX10_works_420 : decode cX10_works 420 = .ok (.lload 6, 2) := by decide +kernel
theorem dX10_works_422 : decode cX10_works 422 = .ok (.ldc2_w 348, 3) := by decide +kernel
theorem dX10_works_425 : decode cX10_works 425 = .ok (.lcmp, 1) := by decide +kernel
theorem dX10_works_426 : decode cX10_works 426 = .ok (.ifCond .gt 16, 3) := by decide +kernel
theorem dX10_works_429 : decode cX10_works 429 = .ok (.lload 6, 2) := by decide +kernel
theorem dX10_works_431 : decode cX10_works 431 = .ok (.ldc2_w 350, 3) := by decide +kernel
theorem dX10_works_434 : decode cX10_works 434 = .ok (.lcmp, 1) := by decide +kernel
theorem dX10_works_435 : decode cX10_works 435 = .ok (.ifCond .lt 7, 3) := by decide +kernel
theorem dX10_works_438 : decode cX10_works 438 = .ok (.iconst 1, 1) := by decide +kernel
theorem dX10_works_439 : decode cX10_works 439 = .ok (.goto 4, 3) := by decide +kernel
theorem dX10_works_442 : decode cX10_works 442 = .ok (.iconst 0, 1) := by decide +kernel
theorem dX10_works_443 : decode cX10_works 443 = .ok (.ireturn, 1) := by decide +kernel
theorem dX10_goes_0 : decode cX10_goes 0 = .ok (.aload_n 0, 1) := by decide +kernel
theorem dX10_goes_1 : decode cX10_goes 1 = .ok (.iconst 0, 1) := by decide +kernel
theorem dX10_goes_2 : decode cX10_goes 2 = .ok (.putfield 335, 3) := by decide +kernel
theorem dX10_goes_5 : decode cX10_goes 5 = .ok (.aload_n 0, 1) := by decide +kernel
theorem dX10_goes_6 : decode cX10_goes 6 = .ok (.getfield 58, 3) := by decide +kernel
theorem dX10_goes_9 : decode cX10_goes 9 = .ok (.iload_n 1, 1) := by decide +kernel
theorem dX10_goes_10 : decode cX10_goes 10 = .ok (.iaload, 1) := by decide +kernel
theorem dX10_goes_11 : decode cX10_goes 11 = .ok (.istore_n 2, 1) := by decide +kernel
theorem dX10_goes_12 : decode cX10_goes 12 = .ok (.iload_n 2, 1) := by decide +kernel
theorem dX10_goes_13 : decode cX10_goes 13 = .ok (.aload_n 0, 1) := by decide +kernel
theorem dX10_goes_14 : decode cX10_goes 14 = .ok (.getfield 61, 3) := by decide +kernel
theorem dX10_goes_17 : decode cX10_goes 17 = .ok (.iload_n 1, 1) := by decide +kernel
theorem dX10_goes_18 : decode cX10_goes 18 = .ok (.iaload, 1) := by decide +kernel
theorem dX10_goes_19 : decode cX10_goes 19 = .ok (.if_icmp .ge 83, 3) := by decide +kernel
theorem dX10_goes_22 : decode cX10_goes 22 = .ok (.aload_n 0, 1) := by decide +kernel
theorem dX10_goes_23 : decode cX10_goes 23 = .ok (.getfield 64, 3) := by decide +kernel
theorem dX10_goes_26 : decode cX10_goes 26 = .ok (.iload_n 2, 1) := by decide +kernel
theorem dX10_goes_27 : decode cX10_goes 27 = .ok (.iaload, 1) := by decide +kernel
theorem dX10_goes_28 : decode cX10_goes 28 = .ok (.iconst 2, 1) := by decide +kernel
theorem dX10_goes_29 : decode cX10_goes 29 = .ok (.if_icmp .ne 18, 3) := by decide +kernel
theorem dX10_goes_32 : decode cX10_goes 32 = .ok (.aload_n 0, 1) := by decide +kernel
theorem dX10_goes_33 : decode cX10_goes 33 = .ok (.aload_n 0, 1) := by decide +kernel
theorem dX10_goes_34 : decode cX10_goes 34 = .ok (.getfield 67, 3) := by decide +kernel
theorem dX10_goes_37 : decode cX10_goes 37 = .ok (.iload_n 2, 1) := by decide +kernel
theorem dX10_goes_38 : decode cX10_goes 38 = .ok (.iaload, 1) := by decide +kernel
theorem dX10_goes_39 : decode cX10_goes 39 = .ok (.invokevirtual 352, 3) := by decide +kernel
theorem dX10_goes_42 : decode cX10_goes 42 = .ok (.ifCond .ne 54, 3) := by decide +kernel
theorem dX10_goes_45 : decode cX10_goes 45 = .ok (.iconst 0, 1) := by decide +kernel
theorem dX10_goes_46 : decode cX10_goes 46 = .ok (.ireturn, 1) := by decide +kernel
theorem dX10_goes_47 : decode cX10_goes 47 = .ok (.aload_n 0, 1) := by decide +kernel
theorem dX10_goes_48 : decode cX10_goes 48 = .ok (.getfield 78, 3) := by decide +kernel
theorem dX10_goes_51 : decode cX10_goes 51 = .ok (.aload_n 0, 1) := by decide +kernel
theorem dX10_goes_52 : decode cX10_goes 52 = .ok (.getfield 335, 3) := by decide +kernel
theorem dX10_goes_55 : decode cX10_goes 55 = .ok (.aload_n 0, 1) := by decide +kernel
theorem dX10_goes_56 : decode cX10_goes 56 = .ok (.getfield 64, 3) := by decide +kernel
theorem dX10_goes_59 : decode cX10_goes 59 = .ok (.iload_n 2, 1) := by decide +kernel
theorem dX10_goes_60 : decode cX10_goes 60 = .ok (.iaload, 1) := by decide +kernel
theorem dX10_goes_61 : decode cX10_goes 61 = .ok (.ifCond .ne 13, 3) := by decide +kernel
theorem dX10_goes_64 : decode cX10_goes 64 = .ok (.aload_n 0, 1) := by decide +kernel
theorem dX10_goes_65 : decode cX10_goes 65 = .ok (.getfield 67, 3) := by decide +kernel
theorem dX10_goes_68 : decode cX10_goes 68 = .ok (.iload_n 2, 1) := by decide +kernel
theorem dX10_goes_69 : decode cX10_goes 69 = .ok (.iaload, 1) := by decide +kernel
theorem dX10_goes_70 : decode cX10_goes 70 = .ok (.i2l, 1) := by decide +kernel
theorem dX10_goes_71 : decode cX10_goes 71 = .ok (.goto 14, 3) := by decide +kernel
theorem dX10_goes_74 : decode cX10_goes 74 = .ok (.aload_n 0, 1) := by decide +kernel
theorem dX10_goes_75 : decode cX10_goes 75 = .ok (.getfield 74, 3) := by decide +kernel
theorem dX10_goes_78 : decode cX10_goes 78 = .ok (.aload_n 0, 1) := by decide +kernel
theorem dX10_goes_79 : decode cX10_goes 79 = .ok (.getfield 67, 3) := by decide +kernel
theorem dX10_goes_82 : decode cX10_goes 82 = .ok (.iload_n 2, 1) := by decide +kernel
theorem dX10_goes_83 : decode cX10_goes 83 = .ok (.iaload, 1) := by decide +kernel
theorem dX10_goes_84 : decode cX10_goes 84 = .ok (.laload, 1) := by decide +kernel
theorem dX10_goes_85 : decode cX10_goes 85 = .ok (.lastore, 1) := by decide +kernel
theorem dX10_goes_86 : decode cX10_goes 86 = .ok (.aload_n 0, 1) := by decide +kernel
theorem dX10_goes_87 : decode cX10_goes 87 = .ok (.dup, 1) := by decide +kernel
theorem dX10_goes_88 : decode cX10_goes 88 = .ok (.getfield 335, 3) := by decide +kernel
theorem dX10_goes_91 : decode cX10_goes 91 = .ok (.iconst 1, 1) := by decide +kernel
theorem dX10_goes_92 : decode cX10_goes 92 = .ok (.iadd, 1) := by decide +kernel
theorem dX10_goes_93 : decode cX10_goes 93 = .ok (.putfield 335, 3) := by decide +kernel
theorem dX10_goes_96 : decode cX10_goes 96 = .ok (.iinc 2 1, 3) := by decide +kernel
theorem dX10_goes_99 : decode cX10_goes 99 = .ok (.goto (-87), 3) := by decide +kernel
theorem dX10_goes_102 : decode cX10_goes 102 = .ok (.iconst 1, 1) := by decide +kernel
theorem dX10_goes_103 : decode cX10_goes 103 = .ok (.ireturn, 1) := by decide +kernel
theorem dX10_hasLaw_0 : decode cX10_hasLaw 0 = .ok (.aload_n 0, 1) := by decide +kernel
theorem dX10_hasLaw_1 : decode cX10_hasLaw 1 = .ok (.getfield 61, 3) := by decide +kernel
theorem dX10_hasLaw_4 : decode cX10_hasLaw 4 = .ok (.iload_n 1, 1) := by decide +kernel
theorem dX10_hasLaw_5 : decode cX10_hasLaw 5 = .ok (.iaload, 1) := by decide +kernel
theorem dX10_hasLaw_6 : decode cX10_hasLaw 6 = .ok (.aload_n 0, 1) := by decide +kernel
theorem dX10_hasLaw_7 : decode cX10_hasLaw 7 = .ok (.getfield 58, 3) := by decide +kernel
theorem dX10_hasLaw_10 : decode cX10_hasLaw 10 = .ok (.iload_n 1, 1) := by decide +kernel
theorem dX10_hasLaw_11 : decode cX10_hasLaw 11 = .ok (.iaload, 1) := by decide +kernel
theorem dX10_hasLaw_12 : decode cX10_hasLaw 12 = .ok (.if_icmp .le 7, 3) := by decide +kernel
theorem dX10_hasLaw_15 : decode cX10_hasLaw 15 = .ok (.iconst 1, 1) := by decide +kernel
theorem dX10_hasLaw_16 : decode cX10_hasLaw 16 = .ok (.goto 4, 3) := by decide +kernel
theorem dX10_hasLaw_19 : decode cX10_hasLaw 19 = .ok (.iconst 0, 1) := by decide +kernel
theorem dX10_hasLaw_20 : decode cX10_hasLaw 20 = .ok (.ireturn, 1) := by decide +kernel
theorem dX10_starts_0 : decode cX10_starts 0 = .ok (.aload_n 0, 1) := by decide +kernel
theorem dX10_starts_1 : decode cX10_starts 1 = .ok (.getfield 81, 3) := by decide +kernel
theorem dX10_starts_4 : decode cX10_starts 4 = .ok (.iload_n 1, 1) := by decide +kernel
theorem dX10_starts_5 : decode cX10_starts 5 = .ok (.iconst 0, 1) := by decide +kernel
theorem dX10_starts_6 : decode cX10_starts 6 = .ok (.iastore, 1) := by decide +kernel
theorem dX10_starts_7 : decode cX10_starts 7 = .ok (.aload_n 0, 1) := by decide +kernel
theorem dX10_starts_8 : decode cX10_starts 8 = .ok (.getfield 84, 3) := by decide +kernel
theorem dX10_starts_11 : decode cX10_starts 11 = .ok (.iload_n 1, 1) := by decide +kernel
theorem dX10_starts_12 : decode cX10_starts 12 = .ok (.aload_n 0, 1) := by decide +kernel
theorem dX10_starts_13 : decode cX10_starts 13 = .ok (.getfield 13, 3) := by decide +kernel
theorem dX10_starts_16 : decode cX10_starts 16 = .ok (.iconst 5, 1) := by decide +kernel
theorem dX10_starts_17 : decode cX10_starts 17 = .ok (.iaload, 1) := by decide +kernel
theorem dX10_starts_18 : decode cX10_starts 18 = .ok (.iastore, 1) := by decide +kernel
theorem dX10_starts_19 : decode cX10_starts 19 = .ok (.aload_n 0, 1) := by decide +kernel
theorem dX10_starts_20 : decode cX10_starts 20 = .ok (.getfield 87, 3) := by decide +kernel
theorem dX10_starts_23 : decode cX10_starts 23 = .ok (.iload_n 1, 1) := by decide +kernel
theorem dX10_starts_24 : decode cX10_starts 24 = .ok (.aload_n 0, 1) := by decide +kernel
theorem dX10_starts_25 : decode cX10_starts 25 = .ok (.getfield 13, 3) := by decide +kernel
theorem dX10_starts_28 : decode cX10_starts 28 = .ok (.iconst 2, 1) := by decide +kernel
theorem dX10_starts_29 : decode cX10_starts 29 = .ok (.iaload, 1) := by decide +kernel
theorem dX10_starts_30 : decode cX10_starts 30 = .ok (.iastore, 1) := by decide +kernel
theorem dX10_starts_31 : decode cX10_starts 31 = .ok (.aload_n 0, 1) := by decide +kernel
theorem dX10_starts_32 : decode cX10_starts 32 = .ok (.getfield 90, 3) := by decide +kernel
theorem dX10_starts_35 : decode cX10_starts 35 = .ok (.iload_n 1, 1) := by decide +kernel
theorem dX10_starts_36 : decode cX10_starts 36 = .ok (.iconst 1, 1) := by decide +kernel
theorem dX10_starts_37 : decode cX10_starts 37 = .ok (.aload_n 0, 1) := by decide +kernel
theorem dX10_starts_38 : decode cX10_starts 38 = .ok (.getfield 13, 3) := by decide +kernel
theorem dX10_starts_41 : decode cX10_starts 41 = .ok (.iconst 1, 1) := by decide +kernel
theorem dX10_starts_42 : decode cX10_starts 42 = .ok (.iaload, 1) := by decide +kernel
theorem dX10_starts_43 : decode cX10_starts 43 = .ok (.ishl, 1) := by decide +kernel
theorem dX10_starts_44 : decode cX10_starts 44 = .ok (.iconst 1, 1) := by decide +kernel
theorem dX10_starts_45 : decode cX10_starts 45 = .ok (.isub, 1) := by decide +kernel
theorem dX10_starts_46 : decode cX10_starts 46 = .ok (.iastore, 1) := by decide +kernel
theorem dX10_starts_47 : decode cX10_starts 47 = .ok (.iconst 0, 1) := by decide +kernel
theorem dX10_starts_48 : decode cX10_starts 48 = .ok (.istore_n 2, 1) := by decide +kernel
theorem dX10_starts_49 : decode cX10_starts 49 = .ok (.iload_n 2, 1) := by decide +kernel
theorem dX10_starts_50 : decode cX10_starts 50 = .ok (.bipush 6, 2) := by decide +kernel
theorem dX10_starts_52 : decode cX10_starts 52 = .ok (.if_icmp .ge 40, 3) := by decide +kernel
theorem dX10_starts_55 : decode cX10_starts 55 = .ok (.aload_n 0, 1) := by decide +kernel
theorem dX10_starts_56 : decode cX10_starts 56 = .ok (.getfield 93, 3) := by decide +kernel
theorem dX10_starts_59 : decode cX10_starts 59 = .ok (.bipush 6, 2) := by decide +kernel
theorem dX10_starts_61 : decode cX10_starts 61 = .ok (.iload_n 1, 1) := by decide +kernel
theorem dX10_starts_62 : decode cX10_starts 62 = .ok (.imul, 1) := by decide +kernel
theorem dX10_starts_63 : decode cX10_starts 63 = .ok (.iload_n 2, 1) := by decide +kernel
theorem dX10_starts_64 : decode cX10_starts 64 = .ok (.iadd, 1) := by decide +kernel
theorem dX10_starts_65 : decode cX10_starts 65 = .ok (.iload_n 2, 1) := by decide +kernel
theorem dX10_starts_66 : decode cX10_starts 66 = .ok (.aload_n 0, 1) := by decide +kernel
theorem dX10_starts_67 : decode cX10_starts 67 = .ok (.getfield 13, 3) := by decide +kernel
theorem dX10_starts_70 : decode cX10_starts 70 = .ok (.iconst 0, 1) := by decide +kernel
theorem dX10_starts_71 : decode cX10_starts 71 = .ok (.iaload, 1) := by decide +kernel
theorem dX10_starts_72 : decode cX10_starts 72 = .ok (.if_icmp .ge 12, 3) := by decide +kernel
theorem dX10_starts_75 : decode cX10_starts 75 = .ok (.aload_n 0, 1) := by decide +kernel
theorem dX10_starts_76 : decode cX10_starts 76 = .ok (.getfield 19, 3) := by decide +kernel
theorem dX10_starts_79 : decode cX10_starts 79 = .ok (.iload_n 2, 1) := by decide +kernel
theorem dX10_starts_80 : decode cX10_starts 80 = .ok (.iaload, 1) := by decide +kernel
theorem dX10_starts_81 : decode cX10_starts 81 = .ok (.goto 4, 3) := by decide +kernel
theorem dX10_starts_84 : decode cX10_starts 84 = .ok (.iconst 0, 1) := by decide +kernel
theorem dX10_starts_85 : decode cX10_starts 85 = .ok (.iastore, 1) := by decide +kernel
theorem dX10_starts_86 : decode cX10_starts 86 = .ok (.iinc 2 1, 3) := by decide +kernel
theorem dX10_starts_89 : decode cX10_starts 89 = .ok (.goto (-40), 3) := by decide +kernel
theorem dX10_starts_92 : decode cX10_starts 92 = .ok (.iconst 0, 1) := by decide +kernel
theorem dX10_starts_93 : decode cX10_starts 93 = .ok (.istore_n 2, 1) := by decide +kernel
theorem dX10_starts_94 : decode cX10_starts 94 = .ok (.iload_n 2, 1) := by decide +kernel
theorem dX10_starts_95 : decode cX10_starts 95 = .ok (.bipush 6, 2) := by decide +kernel
theorem dX10_starts_97 : decode cX10_starts 97 = .ok (.if_icmp .ge 52, 3) := by decide +kernel
theorem dX10_starts_100 : decode cX10_starts 100 = .ok (.aload_n 0, 1) := by decide +kernel
theorem dX10_starts_101 : decode cX10_starts 101 = .ok (.getfield 96, 3) := by decide +kernel
theorem dX10_starts_104 : decode cX10_starts 104 = .ok (.bipush 6, 2) := by decide +kernel
theorem dX10_starts_106 : decode cX10_starts 106 = .ok (.iload_n 1, 1) := by decide +kernel
theorem dX10_starts_107 : decode cX10_starts 107 = .ok (.imul, 1) := by decide +kernel
theorem dX10_starts_108 : decode cX10_starts 108 = .ok (.iload_n 2, 1) := by decide +kernel
theorem dX10_starts_109 : decode cX10_starts 109 = .ok (.iadd, 1) := by decide +kernel
theorem dX10_starts_110 : decode cX10_starts 110 = .ok (.iload_n 2, 1) := by decide +kernel
theorem dX10_starts_111 : decode cX10_starts 111 = .ok (.aload_n 0, 1) := by decide +kernel
theorem dX10_starts_112 : decode cX10_starts 112 = .ok (.getfield 13, 3) := by decide +kernel
theorem dX10_starts_115 : decode cX10_starts 115 = .ok (.iconst 1, 1) := by decide +kernel
theorem dX10_starts_116 : decode cX10_starts 116 = .ok (.iaload, 1) := by decide +kernel
theorem dX10_starts_117 : decode cX10_starts 117 = .ok (.if_icmp .ge 12, 3) := by decide +kernel
theorem dX10_starts_120 : decode cX10_starts 120 = .ok (.aload_n 0, 1) := by decide +kernel
theorem dX10_starts_121 : decode cX10_starts 121 = .ok (.getfield 25, 3) := by decide +kernel
theorem dX10_starts_124 : decode cX10_starts 124 = .ok (.iload_n 2, 1) := by decide +kernel
theorem dX10_starts_125 : decode cX10_starts 125 = .ok (.iaload, 1) := by decide +kernel
theorem dX10_starts_126 : decode cX10_starts 126 = .ok (.goto 4, 3) := by decide +kernel
theorem dX10_starts_129 : decode cX10_starts 129 = .ok (.iconst 0, 1) := by decide +kernel
theorem dX10_starts_130 : decode cX10_starts 130 = .ok (.iastore, 1) := by decide +kernel
theorem dX10_starts_131 : decode cX10_starts 131 = .ok (.aload_n 0, 1) := by decide +kernel
theorem dX10_starts_132 : decode cX10_starts 132 = .ok (.getfield 99, 3) := by decide +kernel
theorem dX10_starts_135 : decode cX10_starts 135 = .ok (.bipush 6, 2) := by decide +kernel
theorem dX10_starts_137 : decode cX10_starts 137 = .ok (.iload_n 1, 1) := by decide +kernel
theorem dX10_starts_138 : decode cX10_starts 138 = .ok (.imul, 1) := by decide +kernel
theorem dX10_starts_139 : decode cX10_starts 139 = .ok (.iload_n 2, 1) := by decide +kernel
theorem dX10_starts_140 : decode cX10_starts 140 = .ok (.iadd, 1) := by decide +kernel
theorem dX10_starts_141 : decode cX10_starts 141 = .ok (.iconst 0, 1) := by decide +kernel
theorem dX10_starts_142 : decode cX10_starts 142 = .ok (.iastore, 1) := by decide +kernel
theorem dX10_starts_143 : decode cX10_starts 143 = .ok (.iinc 2 1, 3) := by decide +kernel
theorem dX10_starts_146 : decode cX10_starts 146 = .ok (.goto (-52), 3) := by decide +kernel
theorem dX10_starts_149 : decode cX10_starts 149 = .ok (.iconst 0, 1) := by decide +kernel
theorem dX10_starts_150 : decode cX10_starts 150 = .ok (.istore_n 2, 1) := by decide +kernel
theorem dX10_starts_151 : decode cX10_starts 151 = .ok (.iload_n 2, 1) := by decide +kernel
theorem dX10_starts_152 : decode cX10_starts 152 = .ok (.bipush 8, 2) := by decide +kernel
theorem dX10_starts_154 : decode cX10_starts 154 = .ok (.if_icmp .ge 152, 3) := by decide +kernel
theorem dX10_starts_157 : decode cX10_starts 157 = .ok (.bipush 8, 2) := by decide +kernel
theorem dX10_starts_159 : decode cX10_starts 159 = .ok (.iload_n 1, 1) := by decide +kernel
theorem dX10_starts_160 : decode cX10_starts 160 = .ok (.imul, 1) := by decide +kernel
theorem dX10_starts_161 : decode cX10_starts 161 = .ok (.iload_n 2, 1) := by decide +kernel
theorem dX10_starts_162 : decode cX10_starts 162 = .ok (.iadd, 1) := by decide +kernel
theorem dX10_starts_163 : decode cX10_starts 163 = .ok (.istore_n 3, 1) := by decide +kernel
theorem dX10_starts_164 : decode cX10_starts 164 = .ok (.iload_n 2, 1) := by decide +kernel
theorem dX10_starts_165 : decode cX10_starts 165 = .ok (.aload_n 0, 1) := by decide +kernel
theorem dX10_starts_166 : decode cX10_starts 166 = .ok (.getfield 13, 3) := by decide +kernel
theorem dX10_starts_169 : decode cX10_starts 169 = .ok (.iconst 2, 1) := by decide +kernel
theorem dX10_starts_170 : decode cX10_starts 170 = .ok (.iaload, 1) := by decide +kernel
theorem dX10_starts_171 : decode cX10_starts 171 = .ok (.if_icmp .ge 7, 3) := by decide +kernel
theorem dX10_starts_174 : decode cX10_starts 174 = .ok (.iconst 1, 1) := by decide +kernel
theorem dX10_starts_175 : decode cX10_starts 175 = .ok (.goto 4, 3) := by decide +kernel
theorem dX10_starts_178 : decode cX10_starts 178 = .ok (.iconst 0, 1) := by decide +kernel
theorem dX10_starts_179 : decode cX10_starts 179 = .ok (.istore 4, 2) := by decide +kernel
theorem dX10_starts_181 : decode cX10_starts 181 = .ok (.aload_n 0, 1) := by decide +kernel
theorem dX10_starts_182 : decode cX10_starts 182 = .ok (.getfield 102, 3) := by decide +kernel
theorem dX10_starts_185 : decode cX10_starts 185 = .ok (.iload_n 3, 1) := by decide +kernel
theorem dX10_starts_186 : decode cX10_starts 186 = .ok (.iload 4, 2) := by decide +kernel
theorem dX10_starts_188 : decode cX10_starts 188 = .ok (.ifCond .eq 12, 3) := by decide +kernel
theorem dX10_starts_191 : decode cX10_starts 191 = .ok (.aload_n 0, 1) := by decide +kernel
theorem dX10_starts_192 : decode cX10_starts 192 = .ok (.getfield 34, 3) := by decide +kernel
theorem dX10_starts_195 : decode cX10_starts 195 = .ok (.iload_n 2, 1) := by decide +kernel
theorem dX10_starts_196 : decode cX10_starts 196 = .ok (.iaload, 1) := by decide +kernel
theorem dX10_starts_197 : decode cX10_starts 197 = .ok (.goto 4, 3) := by decide +kernel
theorem dX10_starts_200 : decode cX10_starts 200 = .ok (.iconst 0, 1) := by decide +kernel
theorem dX10_starts_201 : decode cX10_starts 201 = .ok (.iastore, 1) := by decide +kernel
theorem dX10_starts_202 : decode cX10_starts 202 = .ok (.aload_n 0, 1) := by decide +kernel
theorem dX10_starts_203 : decode cX10_starts 203 = .ok (.getfield 105, 3) := by decide +kernel
theorem dX10_starts_206 : decode cX10_starts 206 = .ok (.iload_n 3, 1) := by decide +kernel
theorem dX10_starts_207 : decode cX10_starts 207 = .ok (.iload 4, 2) := by decide +kernel
theorem dX10_starts_209 : decode cX10_starts 209 = .ok (.ifCond .eq 12, 3) := by decide +kernel
theorem dX10_starts_212 : decode cX10_starts 212 = .ok (.aload_n 0, 1) := by decide +kernel
theorem dX10_starts_213 : decode cX10_starts 213 = .ok (.getfield 37, 3) := by decide +kernel
theorem dX10_starts_216 : decode cX10_starts 216 = .ok (.iload_n 2, 1) := by decide +kernel
theorem dX10_starts_217 : decode cX10_starts 217 = .ok (.iaload, 1) := by decide +kernel
theorem dX10_starts_218 : decode cX10_starts 218 = .ok (.goto 4, 3) := by decide +kernel
theorem dX10_starts_221 : decode cX10_starts 221 = .ok (.iconst 0, 1) := by decide +kernel
theorem dX10_starts_222 : decode cX10_starts 222 = .ok (.iastore, 1) := by decide +kernel
theorem dX10_starts_223 : decode cX10_starts 223 = .ok (.aload_n 0, 1) := by decide +kernel
theorem dX10_starts_224 : decode cX10_starts 224 = .ok (.getfield 108, 3) := by decide +kernel
theorem dX10_starts_227 : decode cX10_starts 227 = .ok (.iload_n 3, 1) := by decide +kernel
theorem dX10_starts_228 : decode cX10_starts 228 = .ok (.iload 4, 2) := by decide +kernel
theorem dX10_starts_230 : decode cX10_starts 230 = .ok (.ifCond .eq 12, 3) := by decide +kernel
theorem dX10_starts_233 : decode cX10_starts 233 = .ok (.aload_n 0, 1) := by decide +kernel
theorem dX10_starts_234 : decode cX10_starts 234 = .ok (.getfield 40, 3) := by decide +kernel
theorem dX10_starts_237 : decode cX10_starts 237 = .ok (.iload_n 2, 1) := by decide +kernel
theorem dX10_starts_238 : decode cX10_starts 238 = .ok (.iaload, 1) := by decide +kernel
theorem dX10_starts_239 : decode cX10_starts 239 = .ok (.goto 4, 3) := by decide +kernel
theorem dX10_starts_242 : decode cX10_starts 242 = .ok (.iconst 0, 1) := by decide +kernel
theorem dX10_starts_243 : decode cX10_starts 243 = .ok (.iastore, 1) := by decide +kernel
theorem dX10_starts_244 : decode cX10_starts 244 = .ok (.aload_n 0, 1) := by decide +kernel
theorem dX10_starts_245 : decode cX10_starts 245 = .ok (.getfield 111, 3) := by decide +kernel
theorem dX10_starts_248 : decode cX10_starts 248 = .ok (.iload_n 3, 1) := by decide +kernel
theorem dX10_starts_249 : decode cX10_starts 249 = .ok (.iload 4, 2) := by decide +kernel
theorem dX10_starts_251 : decode cX10_starts 251 = .ok (.ifCond .eq 12, 3) := by decide +kernel
theorem dX10_starts_254 : decode cX10_starts 254 = .ok (.aload_n 0, 1) := by decide +kernel
theorem dX10_starts_255 : decode cX10_starts 255 = .ok (.getfield 43, 3) := by decide +kernel
theorem dX10_starts_258 : decode cX10_starts 258 = .ok (.iload_n 2, 1) := by decide +kernel
theorem dX10_starts_259 : decode cX10_starts 259 = .ok (.iaload, 1) := by decide +kernel
theorem dX10_starts_260 : decode cX10_starts 260 = .ok (.goto 4, 3) := by decide +kernel
theorem dX10_starts_263 : decode cX10_starts 263 = .ok (.iconst 0, 1) := by decide +kernel
theorem dX10_starts_264 : decode cX10_starts 264 = .ok (.iastore, 1) := by decide +kernel
theorem dX10_starts_265 : decode cX10_starts 265 = .ok (.aload_n 0, 1) := by decide +kernel
theorem dX10_starts_266 : decode cX10_starts 266 = .ok (.getfield 114, 3) := by decide +kernel
theorem dX10_starts_269 : decode cX10_starts 269 = .ok (.iload_n 3, 1) := by decide +kernel
theorem dX10_starts_270 : decode cX10_starts 270 = .ok (.iload 4, 2) := by decide +kernel
theorem dX10_starts_272 : decode cX10_starts 272 = .ok (.ifCond .eq 12, 3) := by decide +kernel
theorem dX10_starts_275 : decode cX10_starts 275 = .ok (.aload_n 0, 1) := by decide +kernel
theorem dX10_starts_276 : decode cX10_starts 276 = .ok (.getfield 46, 3) := by decide +kernel
theorem dX10_starts_279 : decode cX10_starts 279 = .ok (.iload_n 2, 1) := by decide +kernel
theorem dX10_starts_280 : decode cX10_starts 280 = .ok (.iaload, 1) := by decide +kernel
theorem dX10_starts_281 : decode cX10_starts 281 = .ok (.goto 4, 3) := by decide +kernel
theorem dX10_starts_284 : decode cX10_starts 284 = .ok (.iconst 0, 1) := by decide +kernel
theorem dX10_starts_285 : decode cX10_starts 285 = .ok (.iastore, 1) := by decide +kernel
theorem dX10_starts_286 : decode cX10_starts 286 = .ok (.aload_n 0, 1) := by decide +kernel
theorem dX10_starts_287 : decode cX10_starts 287 = .ok (.getfield 117, 3) := by decide +kernel
theorem dX10_starts_290 : decode cX10_starts 290 = .ok (.iload_n 3, 1) := by decide +kernel
theorem dX10_starts_291 : decode cX10_starts 291 = .ok (.iconst 0, 1) := by decide +kernel
theorem dX10_starts_292 : decode cX10_starts 292 = .ok (.iastore, 1) := by decide +kernel
theorem dX10_starts_293 : decode cX10_starts 293 = .ok (.aload_n 0, 1) := by decide +kernel
theorem dX10_starts_294 : decode cX10_starts 294 = .ok (.getfield 120, 3) := by decide +kernel
theorem dX10_starts_297 : decode cX10_starts 297 = .ok (.iload_n 3, 1) := by decide +kernel
theorem dX10_starts_298 : decode cX10_starts 298 = .ok (.iconst 0, 1) := by decide +kernel
theorem dX10_starts_299 : decode cX10_starts 299 = .ok (.iastore, 1) := by decide +kernel
theorem dX10_starts_300 : decode cX10_starts 300 = .ok (.iinc 2 1, 3) := by decide +kernel
theorem dX10_starts_303 : decode cX10_starts 303 = .ok (.goto (-152), 3) := by decide +kernel
theorem dX10_starts_306 : decode cX10_starts 306 = .ok (.return_, 1) := by decide +kernel
theorem dX10_begins_0 : decode cX10_begins 0 = .ok (.aload_n 0, 1) := by decide +kernel
theorem dX10_begins_1 : decode cX10_begins 1 = .ok (.iconst 0, 1) := by decide +kernel
theorem dX10_begins_2 : decode cX10_begins 2 = .ok (.invokevirtual 355, 3) := by decide +kernel
theorem dX10_begins_5 : decode cX10_begins 5 = .ok (.return_, 1) := by decide +kernel
theorem dX10_copies_0 : decode cX10_copies 0 = .ok (.aload_n 0, 1) := by decide +kernel
theorem dX10_copies_1 : decode cX10_copies 1 = .ok (.getfield 81, 3) := by decide +kernel
theorem dX10_copies_4 : decode cX10_copies 4 = .ok (.iload_n 1, 1) := by decide +kernel
theorem dX10_copies_5 : decode cX10_copies 5 = .ok (.aload_n 0, 1) := by decide +kernel
theorem dX10_copies_6 : decode cX10_copies 6 = .ok (.getfield 81, 3) := by decide +kernel
theorem dX10_copies_9 : decode cX10_copies 9 = .ok (.iload_n 2, 1) := by decide +kernel
theorem dX10_copies_10 : decode cX10_copies 10 = .ok (.iaload, 1) := by decide +kernel
theorem dX10_copies_11 : decode cX10_copies 11 = .ok (.iastore, 1) := by decide +kernel
theorem dX10_copies_12 : decode cX10_copies 12 = .ok (.aload_n 0, 1) := by decide +kernel
theorem dX10_copies_13 : decode cX10_copies 13 = .ok (.getfield 84, 3) := by decide +kernel
theorem dX10_copies_16 : decode cX10_copies 16 = .ok (.iload_n 1, 1) := by decide +kernel
theorem dX10_copies_17 : decode cX10_copies 17 = .ok (.aload_n 0, 1) := by decide +kernel
theorem dX10_copies_18 : decode cX10_copies 18 = .ok (.getfield 84, 3) := by decide +kernel
theorem dX10_copies_21 : decode cX10_copies 21 = .ok (.iload_n 2, 1) := by decide +kernel
theorem dX10_copies_22 : decode cX10_copies 22 = .ok (.iaload, 1) := by decide +kernel
theorem dX10_copies_23 : decode cX10_copies 23 = .ok (.iastore, 1) := by decide +kernel
theorem dX10_copies_24 : decode cX10_copies 24 = .ok (.aload_n 0, 1) := by decide +kernel
theorem dX10_copies_25 : decode cX10_copies 25 = .ok (.getfield 87, 3) := by decide +kernel
theorem dX10_copies_28 : decode cX10_copies 28 = .ok (.iload_n 1, 1) := by decide +kernel
theorem dX10_copies_29 : decode cX10_copies 29 = .ok (.aload_n 0, 1) := by decide +kernel
theorem dX10_copies_30 : decode cX10_copies 30 = .ok (.getfield 87, 3) := by decide +kernel
theorem dX10_copies_33 : decode cX10_copies 33 = .ok (.iload_n 2, 1) := by decide +kernel
theorem dX10_copies_34 : decode cX10_copies 34 = .ok (.iaload, 1) := by decide +kernel
theorem dX10_copies_35 : decode cX10_copies 35 = .ok (.iastore, 1) := by decide +kernel
theorem dX10_copies_36 : decode cX10_copies 36 = .ok (.aload_n 0, 1) := by decide +kernel
theorem dX10_copies_37 : decode cX10_copies 37 = .ok (.getfield 90, 3) := by decide +kernel
theorem dX10_copies_40 : decode cX10_copies 40 = .ok (.iload_n 1, 1) := by decide +kernel
theorem dX10_copies_41 : decode cX10_copies 41 = .ok (.aload_n 0, 1) := by decide +kernel
theorem dX10_copies_42 : decode cX10_copies 42 = .ok (.getfield 90, 3) := by decide +kernel
theorem dX10_copies_45 : decode cX10_copies 45 = .ok (.iload_n 2, 1) := by decide +kernel
theorem dX10_copies_46 : decode cX10_copies 46 = .ok (.iaload, 1) := by decide +kernel
theorem dX10_copies_47 : decode cX10_copies 47 = .ok (.iastore, 1) := by decide +kernel
theorem dX10_copies_48 : decode cX10_copies 48 = .ok (.iconst 0, 1) := by decide +kernel
theorem dX10_copies_49 : decode cX10_copies 49 = .ok (.istore_n 3, 1) := by decide +kernel
theorem dX10_copies_50 : decode cX10_copies 50 = .ok (.iload_n 3, 1) := by decide +kernel
theorem dX10_copies_51 : decode cX10_copies 51 = .ok (.bipush 6, 2) := by decide +kernel
theorem dX10_copies_53 : decode cX10_copies 53 = .ok (.if_icmp .ge 31, 3) := by decide +kernel
theorem dX10_copies_56 : decode cX10_copies 56 = .ok (.aload_n 0, 1) := by decide +kernel
theorem dX10_copies_57 : decode cX10_copies 57 = .ok (.getfield 93, 3) := by decide +kernel
theorem dX10_copies_60 : decode cX10_copies 60 = .ok (.bipush 6, 2) := by decide +kernel
theorem dX10_copies_62 : decode cX10_copies 62 = .ok (.iload_n 1, 1) := by decide +kernel
theorem dX10_copies_63 : decode cX10_copies 63 = .ok (.imul, 1) := by decide +kernel
theorem dX10_copies_64 : decode cX10_copies 64 = .ok (.iload_n 3, 1) := by decide +kernel
theorem dX10_copies_65 : decode cX10_copies 65 = .ok (.iadd, 1) := by decide +kernel
theorem dX10_copies_66 : decode cX10_copies 66 = .ok (.aload_n 0, 1) := by decide +kernel
theorem dX10_copies_67 : decode cX10_copies 67 = .ok (.getfield 93, 3) := by decide +kernel
theorem dX10_copies_70 : decode cX10_copies 70 = .ok (.bipush 6, 2) := by decide +kernel
theorem dX10_copies_72 : decode cX10_copies 72 = .ok (.iload_n 2, 1) := by decide +kernel
theorem dX10_copies_73 : decode cX10_copies 73 = .ok (.imul, 1) := by decide +kernel
theorem dX10_copies_74 : decode cX10_copies 74 = .ok (.iload_n 3, 1) := by decide +kernel
theorem dX10_copies_75 : decode cX10_copies 75 = .ok (.iadd, 1) := by decide +kernel
theorem dX10_copies_76 : decode cX10_copies 76 = .ok (.iaload, 1) := by decide +kernel
theorem dX10_copies_77 : decode cX10_copies 77 = .ok (.iastore, 1) := by decide +kernel
theorem dX10_copies_78 : decode cX10_copies 78 = .ok (.iinc 3 1, 3) := by decide +kernel
theorem dX10_copies_81 : decode cX10_copies 81 = .ok (.goto (-31), 3) := by decide +kernel
theorem dX10_copies_84 : decode cX10_copies 84 = .ok (.iconst 0, 1) := by decide +kernel
theorem dX10_copies_85 : decode cX10_copies 85 = .ok (.istore_n 3, 1) := by decide +kernel
theorem dX10_copies_86 : decode cX10_copies 86 = .ok (.iload_n 3, 1) := by decide +kernel
theorem dX10_copies_87 : decode cX10_copies 87 = .ok (.bipush 6, 2) := by decide +kernel
theorem dX10_copies_89 : decode cX10_copies 89 = .ok (.if_icmp .ge 53, 3) := by decide +kernel
theorem dX10_copies_92 : decode cX10_copies 92 = .ok (.aload_n 0, 1) := by decide +kernel
theorem dX10_copies_93 : decode cX10_copies 93 = .ok (.getfield 96, 3) := by decide +kernel
theorem dX10_copies_96 : decode cX10_copies 96 = .ok (.bipush 6, 2) := by decide +kernel
theorem dX10_copies_98 : decode cX10_copies 98 = .ok (.iload_n 1, 1) := by decide +kernel
theorem dX10_copies_99 : decode cX10_copies 99 = .ok (.imul, 1) := by decide +kernel
theorem dX10_copies_100 : decode cX10_copies 100 = .ok (.iload_n 3, 1) := by decide +kernel
theorem dX10_copies_101 : decode cX10_copies 101 = .ok (.iadd, 1) := by decide +kernel
theorem dX10_copies_102 : decode cX10_copies 102 = .ok (.aload_n 0, 1) := by decide +kernel
theorem dX10_copies_103 : decode cX10_copies 103 = .ok (.getfield 96, 3) := by decide +kernel
theorem dX10_copies_106 : decode cX10_copies 106 = .ok (.bipush 6, 2) := by decide +kernel
theorem dX10_copies_108 : decode cX10_copies 108 = .ok (.iload_n 2, 1) := by decide +kernel
theorem dX10_copies_109 : decode cX10_copies 109 = .ok (.imul, 1) := by decide +kernel
theorem dX10_copies_110 : decode cX10_copies 110 = .ok (.iload_n 3, 1) := by decide +kernel
theorem dX10_copies_111 : decode cX10_copies 111 = .ok (.iadd, 1) := by decide +kernel
theorem dX10_copies_112 : decode cX10_copies 112 = .ok (.iaload, 1) := by decide +kernel
theorem dX10_copies_113 : decode cX10_copies 113 = .ok (.iastore, 1) := by decide +kernel
theorem dX10_copies_114 : decode cX10_copies 114 = .ok (.aload_n 0, 1) := by decide +kernel
theorem dX10_copies_115 : decode cX10_copies 115 = .ok (.getfield 99, 3) := by decide +kernel
theorem dX10_copies_118 : decode cX10_copies 118 = .ok (.bipush 6, 2) := by decide +kernel
theorem dX10_copies_120 : decode cX10_copies 120 = .ok (.iload_n 1, 1) := by decide +kernel
theorem dX10_copies_121 : decode cX10_copies 121 = .ok (.imul, 1) := by decide +kernel
theorem dX10_copies_122 : decode cX10_copies 122 = .ok (.iload_n 3, 1) := by decide +kernel
theorem dX10_copies_123 : decode cX10_copies 123 = .ok (.iadd, 1) := by decide +kernel
theorem dX10_copies_124 : decode cX10_copies 124 = .ok (.aload_n 0, 1) := by decide +kernel
theorem dX10_copies_125 : decode cX10_copies 125 = .ok (.getfield 99, 3) := by decide +kernel
theorem dX10_copies_128 : decode cX10_copies 128 = .ok (.bipush 6, 2) := by decide +kernel
theorem dX10_copies_130 : decode cX10_copies 130 = .ok (.iload_n 2, 1) := by decide +kernel
theorem dX10_copies_131 : decode cX10_copies 131 = .ok (.imul, 1) := by decide +kernel
theorem dX10_copies_132 : decode cX10_copies 132 = .ok (.iload_n 3, 1) := by decide +kernel
theorem dX10_copies_133 : decode cX10_copies 133 = .ok (.iadd, 1) := by decide +kernel
theorem dX10_copies_134 : decode cX10_copies 134 = .ok (.iaload, 1) := by decide +kernel
theorem dX10_copies_135 : decode cX10_copies 135 = .ok (.iastore, 1) := by decide +kernel
theorem dX10_copies_136 : decode cX10_copies 136 = .ok (.iinc 3 1, 3) := by decide +kernel
theorem dX10_copies_139 : decode cX10_copies 139 = .ok (.goto (-53), 3) := by decide +kernel
theorem dX10_copies_142 : decode cX10_copies 142 = .ok (.iconst 0, 1) := by decide +kernel
theorem dX10_copies_143 : decode cX10_copies 143 = .ok (.istore_n 3, 1) := by decide +kernel
theorem dX10_copies_144 : decode cX10_copies 144 = .ok (.iload_n 3, 1) := by decide +kernel
theorem dX10_copies_145 : decode cX10_copies 145 = .ok (.bipush 8, 2) := by decide +kernel
theorem dX10_copies_147 : decode cX10_copies 147 = .ok (.if_icmp .ge 123, 3) := by decide +kernel
theorem dX10_copies_150 : decode cX10_copies 150 = .ok (.bipush 8, 2) := by decide +kernel
theorem dX10_copies_152 : decode cX10_copies 152 = .ok (.iload_n 1, 1) := by decide +kernel
theorem dX10_copies_153 : decode cX10_copies 153 = .ok (.imul, 1) := by decide +kernel
theorem dX10_copies_154 : decode cX10_copies 154 = .ok (.iload_n 3, 1) := by decide +kernel
theorem dX10_copies_155 : decode cX10_copies 155 = .ok (.iadd, 1) := by decide +kernel
theorem dX10_copies_156 : decode cX10_copies 156 = .ok (.istore 4, 2) := by decide +kernel
theorem dX10_copies_158 : decode cX10_copies 158 = .ok (.bipush 8, 2) := by decide +kernel
theorem dX10_copies_160 : decode cX10_copies 160 = .ok (.iload_n 2, 1) := by decide +kernel
theorem dX10_copies_161 : decode cX10_copies 161 = .ok (.imul, 1) := by decide +kernel
theorem dX10_copies_162 : decode cX10_copies 162 = .ok (.iload_n 3, 1) := by decide +kernel
theorem dX10_copies_163 : decode cX10_copies 163 = .ok (.iadd, 1) := by decide +kernel
theorem dX10_copies_164 : decode cX10_copies 164 = .ok (.istore 5, 2) := by decide +kernel
theorem dX10_copies_166 : decode cX10_copies 166 = .ok (.aload_n 0, 1) := by decide +kernel
theorem dX10_copies_167 : decode cX10_copies 167 = .ok (.getfield 102, 3) := by decide +kernel
theorem dX10_copies_170 : decode cX10_copies 170 = .ok (.iload 4, 2) := by decide +kernel
theorem dX10_copies_172 : decode cX10_copies 172 = .ok (.aload_n 0, 1) := by decide +kernel
theorem dX10_copies_173 : decode cX10_copies 173 = .ok (.getfield 102, 3) := by decide +kernel
theorem dX10_copies_176 : decode cX10_copies 176 = .ok (.iload 5, 2) := by decide +kernel
theorem dX10_copies_178 : decode cX10_copies 178 = .ok (.iaload, 1) := by decide +kernel
theorem dX10_copies_179 : decode cX10_copies 179 = .ok (.iastore, 1) := by decide +kernel
theorem dX10_copies_180 : decode cX10_copies 180 = .ok (.aload_n 0, 1) := by decide +kernel
theorem dX10_copies_181 : decode cX10_copies 181 = .ok (.getfield 105, 3) := by decide +kernel
theorem dX10_copies_184 : decode cX10_copies 184 = .ok (.iload 4, 2) := by decide +kernel
theorem dX10_copies_186 : decode cX10_copies 186 = .ok (.aload_n 0, 1) := by decide +kernel
theorem dX10_copies_187 : decode cX10_copies 187 = .ok (.getfield 105, 3) := by decide +kernel
theorem dX10_copies_190 : decode cX10_copies 190 = .ok (.iload 5, 2) := by decide +kernel
theorem dX10_copies_192 : decode cX10_copies 192 = .ok (.iaload, 1) := by decide +kernel
theorem dX10_copies_193 : decode cX10_copies 193 = .ok (.iastore, 1) := by decide +kernel
theorem dX10_copies_194 : decode cX10_copies 194 = .ok (.aload_n 0, 1) := by decide +kernel
theorem dX10_copies_195 : decode cX10_copies 195 = .ok (.getfield 108, 3) := by decide +kernel
theorem dX10_copies_198 : decode cX10_copies 198 = .ok (.iload 4, 2) := by decide +kernel
theorem dX10_copies_200 : decode cX10_copies 200 = .ok (.aload_n 0, 1) := by decide +kernel
theorem dX10_copies_201 : decode cX10_copies 201 = .ok (.getfield 108, 3) := by decide +kernel
theorem dX10_copies_204 : decode cX10_copies 204 = .ok (.iload 5, 2) := by decide +kernel
theorem dX10_copies_206 : decode cX10_copies 206 = .ok (.iaload, 1) := by decide +kernel
theorem dX10_copies_207 : decode cX10_copies 207 = .ok (.iastore, 1) := by decide +kernel
theorem dX10_copies_208 : decode cX10_copies 208 = .ok (.aload_n 0, 1) := by decide +kernel
theorem dX10_copies_209 : decode cX10_copies 209 = .ok (.getfield 111, 3) := by decide +kernel
theorem dX10_copies_212 : decode cX10_copies 212 = .ok (.iload 4, 2) := by decide +kernel
theorem dX10_copies_214 : decode cX10_copies 214 = .ok (.aload_n 0, 1) := by decide +kernel
theorem dX10_copies_215 : decode cX10_copies 215 = .ok (.getfield 111, 3) := by decide +kernel
theorem dX10_copies_218 : decode cX10_copies 218 = .ok (.iload 5, 2) := by decide +kernel
theorem dX10_copies_220 : decode cX10_copies 220 = .ok (.iaload, 1) := by decide +kernel
theorem dX10_copies_221 : decode cX10_copies 221 = .ok (.iastore, 1) := by decide +kernel
theorem dX10_copies_222 : decode cX10_copies 222 = .ok (.aload_n 0, 1) := by decide +kernel
theorem dX10_copies_223 : decode cX10_copies 223 = .ok (.getfield 114, 3) := by decide +kernel
theorem dX10_copies_226 : decode cX10_copies 226 = .ok (.iload 4, 2) := by decide +kernel
theorem dX10_copies_228 : decode cX10_copies 228 = .ok (.aload_n 0, 1) := by decide +kernel
theorem dX10_copies_229 : decode cX10_copies 229 = .ok (.getfield 114, 3) := by decide +kernel
theorem dX10_copies_232 : decode cX10_copies 232 = .ok (.iload 5, 2) := by decide +kernel
theorem dX10_copies_234 : decode cX10_copies 234 = .ok (.iaload, 1) := by decide +kernel
theorem dX10_copies_235 : decode cX10_copies 235 = .ok (.iastore, 1) := by decide +kernel
theorem dX10_copies_236 : decode cX10_copies 236 = .ok (.aload_n 0, 1) := by decide +kernel
theorem dX10_copies_237 : decode cX10_copies 237 = .ok (.getfield 117, 3) := by decide +kernel
theorem dX10_copies_240 : decode cX10_copies 240 = .ok (.iload 4, 2) := by decide +kernel
theorem dX10_copies_242 : decode cX10_copies 242 = .ok (.aload_n 0, 1) := by decide +kernel
theorem dX10_copies_243 : decode cX10_copies 243 = .ok (.getfield 117, 3) := by decide +kernel
theorem dX10_copies_246 : decode cX10_copies 246 = .ok (.iload 5, 2) := by decide +kernel
theorem dX10_copies_248 : decode cX10_copies 248 = .ok (.iaload, 1) := by decide +kernel
theorem dX10_copies_249 : decode cX10_copies 249 = .ok (.iastore, 1) := by decide +kernel
theorem dX10_copies_250 : decode cX10_copies 250 = .ok (.aload_n 0, 1) := by decide +kernel
theorem dX10_copies_251 : decode cX10_copies 251 = .ok (.getfield 120, 3) := by decide +kernel
theorem dX10_copies_254 : decode cX10_copies 254 = .ok (.iload 4, 2) := by decide +kernel
theorem dX10_copies_256 : decode cX10_copies 256 = .ok (.aload_n 0, 1) := by decide +kernel
theorem dX10_copies_257 : decode cX10_copies 257 = .ok (.getfield 120, 3) := by decide +kernel
theorem dX10_copies_260 : decode cX10_copies 260 = .ok (.iload 5, 2) := by decide +kernel
theorem dX10_copies_262 : decode cX10_copies 262 = .ok (.iaload, 1) := by decide +kernel
theorem dX10_copies_263 : decode cX10_copies 263 = .ok (.iastore, 1) := by decide +kernel
theorem dX10_copies_264 : decode cX10_copies 264 = .ok (.iinc 3 1, 3) := by decide +kernel
theorem dX10_copies_267 : decode cX10_copies 267 = .ok (.goto (-123), 3) := by decide +kernel
theorem dX10_copies_270 : decode cX10_copies 270 = .ok (.return_, 1) := by decide +kernel
theorem dX10_isMan_0 : decode cX10_isMan 0 = .ok (.iload_n 1, 1) := by decide +kernel
theorem dX10_isMan_1 : decode cX10_isMan 1 = .ok (.ifCond .lt 17, 3) := by decide +kernel
theorem dX10_isMan_4 : decode cX10_isMan 4 = .ok (.iload_n 1, 1) := by decide +kernel
theorem dX10_isMan_5 : decode cX10_isMan 5 = .ok (.aload_n 0, 1) := by decide +kernel
theorem dX10_isMan_6 : decode cX10_isMan 6 = .ok (.getfield 13, 3) := by decide +kernel
theorem dX10_isMan_9 : decode cX10_isMan 9 = .ok (.iconst 0, 1) := by decide +kernel
theorem dX10_isMan_10 : decode cX10_isMan 10 = .ok (.iaload, 1) := by decide +kernel
theorem dX10_isMan_11 : decode cX10_isMan 11 = .ok (.if_icmp .ge 7, 3) := by decide +kernel
theorem dX10_isMan_14 : decode cX10_isMan 14 = .ok (.iconst 1, 1) := by decide +kernel
theorem dX10_isMan_15 : decode cX10_isMan 15 = .ok (.goto 4, 3) := by decide +kernel
theorem dX10_isMan_18 : decode cX10_isMan 18 = .ok (.iconst 0, 1) := by decide +kernel
theorem dX10_isMan_19 : decode cX10_isMan 19 = .ok (.ireturn, 1) := by decide +kernel
theorem dX10_isTusk_0 : decode cX10_isTusk 0 = .ok (.iload_n 1, 1) := by decide +kernel
theorem dX10_isTusk_1 : decode cX10_isTusk 1 = .ok (.ifCond .lt 17, 3) := by decide +kernel
theorem dX10_isTusk_4 : decode cX10_isTusk 4 = .ok (.iload_n 1, 1) := by decide +kernel
theorem dX10_isTusk_5 : decode cX10_isTusk 5 = .ok (.aload_n 0, 1) := by decide +kernel
theorem dX10_isTusk_6 : decode cX10_isTusk 6 = .ok (.getfield 13, 3) := by decide +kernel
theorem dX10_isTusk_9 : decode cX10_isTusk 9 = .ok (.iconst 1, 1) := by decide +kernel
theorem dX10_isTusk_10 : decode cX10_isTusk 10 = .ok (.iaload, 1) := by decide +kernel
theorem dX10_isTusk_11 : decode cX10_isTusk 11 = .ok (.if_icmp .ge 7, 3) := by decide +kernel
theorem dX10_isTusk_14 : decode cX10_isTusk 14 = .ok (.iconst 1, 1) := by decide +kernel
theorem dX10_isTusk_15 : decode cX10_isTusk 15 = .ok (.goto 4, 3) := by decide +kernel
theorem dX10_isTusk_18 : decode cX10_isTusk 18 = .ok (.iconst 0, 1) := by decide +kernel
theorem dX10_isTusk_19 : decode cX10_isTusk 19 = .ok (.ireturn, 1) := by decide +kernel
theorem dX10_isDebt_0 : decode cX10_isDebt 0 = .ok (.iload_n 1, 1) := by decide +kernel
theorem dX10_isDebt_1 : decode cX10_isDebt 1 = .ok (.ifCond .lt 17, 3) := by decide +kernel
theorem dX10_isDebt_4 : decode cX10_isDebt 4 = .ok (.iload_n 1, 1) := by decide +kernel
theorem dX10_isDebt_5 : decode cX10_isDebt 5 = .ok (.aload_n 0, 1) := by decide +kernel
theorem dX10_isDebt_6 : decode cX10_isDebt 6 = .ok (.getfield 87, 3) := by decide +kernel
theorem dX10_isDebt_9 : decode cX10_isDebt 9 = .ok (.iconst 0, 1) := by decide +kernel
theorem dX10_isDebt_10 : decode cX10_isDebt 10 = .ok (.iaload, 1) := by decide +kernel
theorem dX10_isDebt_11 : decode cX10_isDebt 11 = .ok (.if_icmp .ge 7, 3) := by decide +kernel
theorem dX10_isDebt_14 : decode cX10_isDebt 14 = .ok (.iconst 1, 1) := by decide +kernel
theorem dX10_isDebt_15 : decode cX10_isDebt 15 = .ok (.goto 4, 3) := by decide +kernel
theorem dX10_isDebt_18 : decode cX10_isDebt 18 = .ok (.iconst 0, 1) := by decide +kernel
theorem dX10_isDebt_19 : decode cX10_isDebt 19 = .ok (.ireturn, 1) := by decide +kernel
theorem dX10_isAlive_0 : decode cX10_isAlive 0 = .ok (.aload_n 0, 1) := by decide +kernel
theorem dX10_isAlive_1 : decode cX10_isAlive 1 = .ok (.getfield 90, 3) := by decide +kernel
theorem dX10_isAlive_4 : decode cX10_isAlive 4 = .ok (.iload_n 1, 1) := by decide +kernel
theorem dX10_isAlive_5 : decode cX10_isAlive 5 = .ok (.iaload, 1) := by decide +kernel
theorem dX10_isAlive_6 : decode cX10_isAlive 6 = .ok (.iload_n 2, 1) := by decide +kernel
theorem dX10_isAlive_7 : decode cX10_isAlive 7 = .ok (.ishr, 1) := by decide +kernel
theorem dX10_isAlive_8 : decode cX10_isAlive 8 = .ok (.iconst 1, 1) := by decide +kernel
theorem dX10_isAlive_9 : decode cX10_isAlive 9 = .ok (.iand, 1) := by decide +kernel
theorem dX10_isAlive_10 : decode cX10_isAlive 10 = .ok (.iconst 1, 1) := by decide +kernel
theorem dX10_isAlive_11 : decode cX10_isAlive 11 = .ok (.if_icmp .ne 7, 3) := by decide +kernel
theorem dX10_isAlive_14 : decode cX10_isAlive 14 = .ok (.iconst 1, 1) := by decide +kernel
theorem dX10_isAlive_15 : decode cX10_isAlive 15 = .ok (.goto 4, 3) := by decide +kernel
theorem dX10_isAlive_18 : decode cX10_isAlive 18 = .ok (.iconst 0, 1) := by decide +kernel
theorem dX10_isAlive_19 : decode cX10_isAlive 19 = .ok (.ireturn, 1) := by decide +kernel
theorem dX10_isOpen_0 : decode cX10_isOpen 0 = .ok (.aload_n 0, 1) := by decide +kernel
theorem dX10_isOpen_1 : decode cX10_isOpen 1 = .ok (.getfield 117, 3) := by decide +kernel
theorem dX10_isOpen_4 : decode cX10_isOpen 4 = .ok (.bipush 8, 2) := by decide +kernel
theorem dX10_isOpen_6 : decode cX10_isOpen 6 = .ok (.iload_n 1, 1) := by decide +kernel
theorem dX10_isOpen_7 : decode cX10_isOpen 7 = .ok (.imul, 1) := by decide +kernel
theorem dX10_isOpen_8 : decode cX10_isOpen 8 = .ok (.iload_n 2, 1) := by decide +kernel
theorem dX10_isOpen_9 : decode cX10_isOpen 9 = .ok (.iadd, 1) := by decide +kernel
theorem dX10_isOpen_10 : decode cX10_isOpen 10 = .ok (.iaload, 1) := by decide +kernel
theorem dX10_isOpen_11 : decode cX10_isOpen 11 = .ok (.iconst 1, 1) := by decide +kernel
theorem dX10_isOpen_12 : decode cX10_isOpen 12 = .ok (.if_icmp .ne 7, 3) := by decide +kernel
theorem dX10_isOpen_15 : decode cX10_isOpen 15 = .ok (.iconst 1, 1) := by decide +kernel
theorem dX10_isOpen_16 : decode cX10_isOpen 16 = .ok (.goto 4, 3) := by decide +kernel
theorem dX10_isOpen_19 : decode cX10_isOpen 19 = .ok (.iconst 0, 1) := by decide +kernel
theorem dX10_isOpen_20 : decode cX10_isOpen 20 = .ok (.ireturn, 1) := by decide +kernel
theorem dX10_bitsOf_0 : decode cX10_bitsOf 0 = .ok (.iconst 0, 1) := by decide +kernel
theorem dX10_bitsOf_1 : decode cX10_bitsOf 1 = .ok (.istore_n 1, 1) := by decide +kernel
theorem dX10_bitsOf_2 : decode cX10_bitsOf 2 = .ok (.iconst 0, 1) := by decide +kernel
theorem dX10_bitsOf_3 : decode cX10_bitsOf 3 = .ok (.istore_n 2, 1) := by decide +kernel
theorem dX10_bitsOf_4 : decode cX10_bitsOf 4 = .ok (.iload_n 2, 1) := by decide +kernel
theorem dX10_bitsOf_5 : decode cX10_bitsOf 5 = .ok (.bipush 10, 2) := by decide +kernel
theorem dX10_bitsOf_7 : decode cX10_bitsOf 7 = .ok (.if_icmp .ge 17, 3) := by decide +kernel
theorem dX10_bitsOf_10 : decode cX10_bitsOf 10 = .ok (.iload_n 1, 1) := by decide +kernel
theorem dX10_bitsOf_11 : decode cX10_bitsOf 11 = .ok (.iload_n 0, 1) := by decide +kernel
theorem dX10_bitsOf_12 : decode cX10_bitsOf 12 = .ok (.iload_n 2, 1) := by decide +kernel
theorem dX10_bitsOf_13 : decode cX10_bitsOf 13 = .ok (.ishr, 1) := by decide +kernel
theorem dX10_bitsOf_14 : decode cX10_bitsOf 14 = .ok (.iconst 1, 1) := by decide +kernel
theorem dX10_bitsOf_15 : decode cX10_bitsOf 15 = .ok (.iand, 1) := by decide +kernel
theorem dX10_bitsOf_16 : decode cX10_bitsOf 16 = .ok (.iadd, 1) := by decide +kernel
theorem dX10_bitsOf_17 : decode cX10_bitsOf 17 = .ok (.istore_n 1, 1) := by decide +kernel
theorem dX10_bitsOf_18 : decode cX10_bitsOf 18 = .ok (.iinc 2 1, 3) := by decide +kernel
theorem dX10_bitsOf_21 : decode cX10_bitsOf 21 = .ok (.goto (-17), 3) := by decide +kernel
theorem dX10_bitsOf_24 : decode cX10_bitsOf 24 = .ok (.iload_n 1, 1) := by decide +kernel
theorem dX10_bitsOf_25 : decode cX10_bitsOf 25 = .ok (.ireturn, 1) := by decide +kernel
theorem dX10_knowers_0 : decode cX10_knowers 0 = .ok (.iconst 0, 1) := by decide +kernel
theorem dX10_knowers_1 : decode cX10_knowers 1 = .ok (.istore_n 3, 1) := by decide +kernel
theorem dX10_knowers_2 : decode cX10_knowers 2 = .ok (.iconst 0, 1) := by decide +kernel
theorem dX10_knowers_3 : decode cX10_knowers 3 = .ok (.istore 4, 2) := by decide +kernel
theorem dX10_knowers_5 : decode cX10_knowers 5 = .ok (.iload 4, 2) := by decide +kernel
theorem dX10_knowers_7 : decode cX10_knowers 7 = .ok (.aload_n 0, 1) := by decide +kernel
theorem dX10_knowers_8 : decode cX10_knowers 8 = .ok (.getfield 13, 3) := by decide +kernel
theorem dX10_knowers_11 : decode cX10_knowers 11 = .ok (.iconst 1, 1) := by decide +kernel
theorem dX10_knowers_12 : decode cX10_knowers 12 = .ok (.iaload, 1) := by decide +kernel
theorem dX10_knowers_13 : decode cX10_knowers 13 = .ok (.if_icmp .ge 31, 3) := by decide +kernel
theorem dX10_knowers_16 : decode cX10_knowers 16 = .ok (.iload_n 3, 1) := by decide +kernel
theorem dX10_knowers_17 : decode cX10_knowers 17 = .ok (.aload_n 0, 1) := by decide +kernel
theorem dX10_knowers_18 : decode cX10_knowers 18 = .ok (.getfield 99, 3) := by decide +kernel
theorem dX10_knowers_21 : decode cX10_knowers 21 = .ok (.bipush 6, 2) := by decide +kernel
theorem dX10_knowers_23 : decode cX10_knowers 23 = .ok (.iload_n 1, 1) := by decide +kernel
theorem dX10_knowers_24 : decode cX10_knowers 24 = .ok (.imul, 1) := by decide +kernel
theorem dX10_knowers_25 : decode cX10_knowers 25 = .ok (.iload 4, 2) := by decide +kernel
theorem dX10_knowers_27 : decode cX10_knowers 27 = .ok (.iadd, 1) := by decide +kernel
theorem dX10_knowers_28 : decode cX10_knowers 28 = .ok (.iaload, 1) := by decide +kernel
theorem dX10_knowers_29 : decode cX10_knowers 29 = .ok (.iload_n 2, 1) := by decide +kernel
theorem dX10_knowers_30 : decode cX10_knowers 30 = .ok (.ishr, 1) := by decide +kernel
theorem dX10_knowers_31 : decode cX10_knowers 31 = .ok (.iconst 1, 1) := by decide +kernel
theorem dX10_knowers_32 : decode cX10_knowers 32 = .ok (.iand, 1) := by decide +kernel
theorem dX10_knowers_33 : decode cX10_knowers 33 = .ok (.iload 4, 2) := by decide +kernel
theorem dX10_knowers_35 : decode cX10_knowers 35 = .ok (.ishl, 1) := by decide +kernel
theorem dX10_knowers_36 : decode cX10_knowers 36 = .ok (.ior, 1) := by decide +kernel
theorem dX10_knowers_37 : decode cX10_knowers 37 = .ok (.istore_n 3, 1) := by decide +kernel
theorem dX10_knowers_38 : decode cX10_knowers 38 = .ok (.iinc 4 1, 3) := by decide +kernel
theorem dX10_knowers_41 : decode cX10_knowers 41 = .ok (.goto (-36), 3) := by decide +kernel
theorem dX10_knowers_44 : decode cX10_knowers 44 = .ok (.iload_n 3, 1) := by decide +kernel
theorem dX10_knowers_45 : decode cX10_knowers 45 = .ok (.ireturn, 1) := by decide +kernel
theorem dX10_oldestOf_0 : decode cX10_oldestOf 0 = .ok (.iconst (-1), 1) := by decide +kernel
theorem dX10_oldestOf_1 : decode cX10_oldestOf 1 = .ok (.istore_n 3, 1) := by decide +kernel
theorem dX10_oldestOf_2 : decode cX10_oldestOf 2 = .ok (.iconst 0, 1) := by decide +kernel
theorem dX10_oldestOf_3 : decode cX10_oldestOf 3 = .ok (.istore 4, 2) := by decide +kernel
theorem dX10_oldestOf_5 : decode cX10_oldestOf 5 = .ok (.iload 4, 2) := by decide +kernel
theorem dX10_oldestOf_7 : decode cX10_oldestOf 7 = .ok (.aload_n 0, 1) := by decide +kernel
theorem dX10_oldestOf_8 : decode cX10_oldestOf 8 = .ok (.getfield 13, 3) := by decide +kernel
theorem dX10_oldestOf_11 : decode cX10_oldestOf 11 = .ok (.iconst 1, 1) := by decide +kernel
theorem dX10_oldestOf_12 : decode cX10_oldestOf 12 = .ok (.iaload, 1) := by decide +kernel
theorem dX10_oldestOf_13 : decode cX10_oldestOf 13 = .ok (.if_icmp .ge 58, 3) := by decide +kernel
theorem dX10_oldestOf_16 : decode cX10_oldestOf 16 = .ok (.aload_n 0, 1) := by decide +kernel
theorem dX10_oldestOf_17 : decode cX10_oldestOf 17 = .ok (.iload_n 1, 1) := by decide +kernel
theorem dX10_oldestOf_18 : decode cX10_oldestOf 18 = .ok (.iload_n 2, 1) := by decide +kernel
theorem dX10_oldestOf_19 : decode cX10_oldestOf 19 = .ok (.invokevirtual 358, 3) := by decide +kernel
theorem dX10_oldestOf_22 : decode cX10_oldestOf 22 = .ok (.iload 4, 2) := by decide +kernel
theorem dX10_oldestOf_24 : decode cX10_oldestOf 24 = .ok (.ishr, 1) := by decide +kernel
theorem dX10_oldestOf_25 : decode cX10_oldestOf 25 = .ok (.iconst 1, 1) := by decide +kernel
theorem dX10_oldestOf_26 : decode cX10_oldestOf 26 = .ok (.iand, 1) := by decide +kernel
theorem dX10_oldestOf_27 : decode cX10_oldestOf 27 = .ok (.iconst 1, 1) := by decide +kernel
theorem dX10_oldestOf_28 : decode cX10_oldestOf 28 = .ok (.if_icmp .ne 37, 3) := by decide +kernel
theorem dX10_oldestOf_31 : decode cX10_oldestOf 31 = .ok (.iload_n 3, 1) := by decide +kernel
theorem dX10_oldestOf_32 : decode cX10_oldestOf 32 = .ok (.iconst (-1), 1) := by decide +kernel
theorem dX10_oldestOf_33 : decode cX10_oldestOf 33 = .ok (.if_icmp .eq 29, 3) := by decide +kernel
theorem dX10_oldestOf_36 : decode cX10_oldestOf 36 = .ok (.aload_n 0, 1) := by decide +kernel
theorem dX10_oldestOf_37 : decode cX10_oldestOf 37 = .ok (.getfield 96, 3) := by decide +kernel
theorem dX10_oldestOf_40 : decode cX10_oldestOf 40 = .ok (.bipush 6, 2) := by decide +kernel
theorem dX10_oldestOf_42 : decode cX10_oldestOf 42 = .ok (.iload_n 1, 1) := by decide +kernel
theorem dX10_oldestOf_43 : decode cX10_oldestOf 43 = .ok (.imul, 1) := by decide +kernel
theorem dX10_oldestOf_44 : decode cX10_oldestOf 44 = .ok (.iload 4, 2) := by decide +kernel
theorem dX10_oldestOf_46 : decode cX10_oldestOf 46 = .ok (.iadd, 1) := by decide +kernel
theorem dX10_oldestOf_47 : decode cX10_oldestOf 47 = .ok (.iaload, 1) := by decide +kernel
theorem dX10_oldestOf_48 : decode cX10_oldestOf 48 = .ok (.aload_n 0, 1) := by decide +kernel
theorem dX10_oldestOf_49 : decode cX10_oldestOf 49 = .ok (.getfield 96, 3) := by decide +kernel
theorem dX10_oldestOf_52 : decode cX10_oldestOf 52 = .ok (.bipush 6, 2) := by decide +kernel
theorem dX10_oldestOf_54 : decode cX10_oldestOf 54 = .ok (.iload_n 1, 1) := by decide +kernel
theorem dX10_oldestOf_55 : decode cX10_oldestOf 55 = .ok (.imul, 1) := by decide +kernel
theorem dX10_oldestOf_56 : decode cX10_oldestOf 56 = .ok (.iload_n 3, 1) := by decide +kernel
theorem dX10_oldestOf_57 : decode cX10_oldestOf 57 = .ok (.iadd, 1) := by decide +kernel
theorem dX10_oldestOf_58 : decode cX10_oldestOf 58 = .ok (.iaload, 1) := by decide +kernel
theorem dX10_oldestOf_59 : decode cX10_oldestOf 59 = .ok (.if_icmp .le 6, 3) := by decide +kernel
theorem dX10_oldestOf_62 : decode cX10_oldestOf 62 = .ok (.iload 4, 2) := by decide +kernel
theorem dX10_oldestOf_64 : decode cX10_oldestOf 64 = .ok (.istore_n 3, 1) := by decide +kernel
theorem dX10_oldestOf_65 : decode cX10_oldestOf 65 = .ok (.iinc 4 1, 3) := by decide +kernel
theorem dX10_oldestOf_68 : decode cX10_oldestOf 68 = .ok (.goto (-63), 3) := by decide +kernel
theorem dX10_oldestOf_71 : decode cX10_oldestOf 71 = .ok (.iload_n 3, 1) := by decide +kernel
theorem dX10_oldestOf_72 : decode cX10_oldestOf 72 = .ok (.ireturn, 1) := by decide +kernel
theorem dX10_callsDebt_0 : decode cX10_callsDebt 0 = .ok (.bipush 8, 2) := by decide +kernel
theorem dX10_callsDebt_2 : decode cX10_callsDebt 2 = .ok (.iload_n 1, 1) := by decide +kernel
theorem dX10_callsDebt_3 : decode cX10_callsDebt 3 = .ok (.imul, 1) := by decide +kernel
theorem dX10_callsDebt_4 : decode cX10_callsDebt 4 = .ok (.iload_n 2, 1) := by decide +kernel
theorem dX10_callsDebt_5 : decode cX10_callsDebt 5 = .ok (.iadd, 1) := by decide +kernel
theorem dX10_callsDebt_6 : decode cX10_callsDebt 6 = .ok (.istore 5, 2) := by decide +kernel
theorem dX10_callsDebt_8 : decode cX10_callsDebt 8 = .ok (.aload_n 0, 1) := by decide +kernel
theorem dX10_callsDebt_9 : decode cX10_callsDebt 9 = .ok (.getfield 74, 3) := by decide +kernel
theorem dX10_callsDebt_12 : decode cX10_callsDebt 12 = .ok (.iconst 0, 1) := by decide +kernel
theorem dX10_callsDebt_13 : decode cX10_callsDebt 13 = .ok (.aload_n 0, 1) := by decide +kernel
theorem dX10_callsDebt_14 : decode cX10_callsDebt 14 = .ok (.getfield 120, 3) := by decide +kernel
theorem dX10_callsDebt_17 : decode cX10_callsDebt 17 = .ok (.iload 5, 2) := by decide +kernel
theorem dX10_callsDebt_19 : decode cX10_callsDebt 19 = .ok (.iaload, 1) := by decide +kernel
theorem dX10_callsDebt_20 : decode cX10_callsDebt 20 = .ok (.i2l, 1) := by decide +kernel
theorem dX10_callsDebt_21 : decode cX10_callsDebt 21 = .ok (.lastore, 1) := by decide +kernel
theorem dX10_callsDebt_22 : decode cX10_callsDebt 22 = .ok (.aload_n 0, 1) := by decide +kernel
theorem dX10_callsDebt_23 : decode cX10_callsDebt 23 = .ok (.getfield 74, 3) := by decide +kernel
theorem dX10_callsDebt_26 : decode cX10_callsDebt 26 = .ok (.iconst 1, 1) := by decide +kernel
theorem dX10_callsDebt_27 : decode cX10_callsDebt 27 = .ok (.iload_n 3, 1) := by decide +kernel
theorem dX10_callsDebt_28 : decode cX10_callsDebt 28 = .ok (.i2l, 1) := by decide +kernel
theorem dX10_callsDebt_29 : decode cX10_callsDebt 29 = .ok (.lastore, 1) := by decide +kernel
theorem dX10_callsDebt_30 : decode cX10_callsDebt 30 = .ok (.aload_n 0, 1) := by decide +kernel
theorem dX10_callsDebt_31 : decode cX10_callsDebt 31 = .ok (.getfield 74, 3) := by decide +kernel
theorem dX10_callsDebt_34 : decode cX10_callsDebt 34 = .ok (.iconst 2, 1) := by decide +kernel
theorem dX10_callsDebt_35 : decode cX10_callsDebt 35 = .ok (.aload_n 0, 1) := by decide +kernel
theorem dX10_callsDebt_36 : decode cX10_callsDebt 36 = .ok (.getfield 93, 3) := by decide +kernel
theorem dX10_callsDebt_39 : decode cX10_callsDebt 39 = .ok (.bipush 6, 2) := by decide +kernel
theorem dX10_callsDebt_41 : decode cX10_callsDebt 41 = .ok (.iload_n 1, 1) := by decide +kernel
theorem dX10_callsDebt_42 : decode cX10_callsDebt 42 = .ok (.imul, 1) := by decide +kernel
theorem dX10_callsDebt_43 : decode cX10_callsDebt 43 = .ok (.aload_n 0, 1) := by decide +kernel
theorem dX10_callsDebt_44 : decode cX10_callsDebt 44 = .ok (.getfield 105, 3) := by decide +kernel
theorem dX10_callsDebt_47 : decode cX10_callsDebt 47 = .ok (.iload 5, 2) := by decide +kernel
theorem dX10_callsDebt_49 : decode cX10_callsDebt 49 = .ok (.iaload, 1) := by decide +kernel
theorem dX10_callsDebt_50 : decode cX10_callsDebt 50 = .ok (.iadd, 1) := by decide +kernel
theorem dX10_callsDebt_51 : decode cX10_callsDebt 51 = .ok (.iaload, 1) := by decide +kernel
theorem dX10_callsDebt_52 : decode cX10_callsDebt 52 = .ok (.i2l, 1) := by decide +kernel
theorem dX10_callsDebt_53 : decode cX10_callsDebt 53 = .ok (.lastore, 1) := by decide +kernel
theorem dX10_callsDebt_54 : decode cX10_callsDebt 54 = .ok (.aload_n 0, 1) := by decide +kernel
theorem dX10_callsDebt_55 : decode cX10_callsDebt 55 = .ok (.getfield 74, 3) := by decide +kernel
theorem dX10_callsDebt_58 : decode cX10_callsDebt 58 = .ok (.iconst 3, 1) := by decide +kernel
theorem dX10_callsDebt_59 : decode cX10_callsDebt 59 = .ok (.aload_n 0, 1) := by decide +kernel
theorem dX10_callsDebt_60 : decode cX10_callsDebt 60 = .ok (.iload_n 1, 1) := by decide +kernel
theorem dX10_callsDebt_61 : decode cX10_callsDebt 61 = .ok (.iload_n 2, 1) := by decide +kernel
theorem dX10_callsDebt_62 : decode cX10_callsDebt 62 = .ok (.invokevirtual 358, 3) := by decide +kernel
theorem dX10_callsDebt_65 : decode cX10_callsDebt 65 = .ok (.invokestatic 361, 3) := by decide +kernel
theorem dX10_callsDebt_68 : decode cX10_callsDebt 68 = .ok (.i2l, 1) := by decide +kernel
theorem dX10_callsDebt_69 : decode cX10_callsDebt 69 = .ok (.lastore, 1) := by decide +kernel
theorem dX10_callsDebt_70 : decode cX10_callsDebt 70 = .ok (.aload_n 0, 1) := by decide +kernel
theorem dX10_callsDebt_71 : decode cX10_callsDebt 71 = .ok (.getfield 74, 3) := by decide +kernel
theorem dX10_callsDebt_74 : decode cX10_callsDebt 74 = .ok (.iconst 4, 1) := by decide +kernel
theorem dX10_callsDebt_75 : decode cX10_callsDebt 75 = .ok (.aload_n 0, 1) := by decide +kernel
theorem dX10_callsDebt_76 : decode cX10_callsDebt 76 = .ok (.getfield 117, 3) := by decide +kernel
theorem dX10_callsDebt_79 : decode cX10_callsDebt 79 = .ok (.iload 5, 2) := by decide +kernel
theorem dX10_callsDebt_81 : decode cX10_callsDebt 81 = .ok (.iaload, 1) := by decide +kernel
theorem dX10_callsDebt_82 : decode cX10_callsDebt 82 = .ok (.iconst 1, 1) := by decide +kernel
theorem dX10_callsDebt_83 : decode cX10_callsDebt 83 = .ok (.if_icmp .ne 21, 3) := by decide +kernel
theorem dX10_callsDebt_86 : decode cX10_callsDebt 86 = .ok (.aload_n 0, 1) := by decide +kernel
theorem dX10_callsDebt_87 : decode cX10_callsDebt 87 = .ok (.getfield 81, 3) := by decide +kernel
theorem dX10_callsDebt_90 : decode cX10_callsDebt 90 = .ok (.iload_n 1, 1) := by decide +kernel
theorem dX10_callsDebt_91 : decode cX10_callsDebt 91 = .ok (.iaload, 1) := by decide +kernel
theorem dX10_callsDebt_92 : decode cX10_callsDebt 92 = .ok (.aload_n 0, 1) := by decide +kernel
theorem dX10_callsDebt_93 : decode cX10_callsDebt 93 = .ok (.getfield 114, 3) := by decide +kernel
theorem dX10_callsDebt_96 : decode cX10_callsDebt 96 = .ok (.iload 5, 2) := by decide +kernel
theorem dX10_callsDebt_98 : decode cX10_callsDebt 98 = .ok (.iaload, 1) := by decide +kernel
theorem dX10_callsDebt_99 : decode cX10_callsDebt 99 = .ok (.isub, 1) := by decide +kernel
theorem dX10_callsDebt_100 : decode cX10_callsDebt 100 = .ok (.i2l, 1) := by decide +kernel
theorem dX10_callsDebt_101 : decode cX10_callsDebt 101 = .ok (.goto 4, 3) := by decide +kernel
theorem dX10_callsDebt_104 : decode cX10_callsDebt 104 = .ok (.lconst 0, 1) := by decide +kernel
theorem dX10_callsDebt_105 : decode cX10_callsDebt 105 = .ok (.lastore, 1) := by decide +kernel
theorem dX10_callsDebt_106 : decode cX10_callsDebt 106 = .ok (.aload_n 0, 1) := by decide +kernel
theorem dX10_callsDebt_107 : decode cX10_callsDebt 107 = .ok (.getfield 74, 3) := by decide +kernel
theorem dX10_callsDebt_110 : decode cX10_callsDebt 110 = .ok (.iconst 5, 1) := by decide +kernel
theorem dX10_callsDebt_111 : decode cX10_callsDebt 111 = .ok (.iload 4, 2) := by decide +kernel
theorem dX10_callsDebt_113 : decode cX10_callsDebt 113 = .ok (.i2l, 1) := by decide +kernel
theorem dX10_callsDebt_114 : decode cX10_callsDebt 114 = .ok (.lastore, 1) := by decide +kernel
theorem dX10_callsDebt_115 : decode cX10_callsDebt 115 = .ok (.aload_n 0, 1) := by decide +kernel
theorem dX10_callsDebt_116 : decode cX10_callsDebt 116 = .ok (.getfield 74, 3) := by decide +kernel
theorem dX10_callsDebt_119 : decode cX10_callsDebt 119 = .ok (.bipush 6, 2) := by decide +kernel
theorem dX10_callsDebt_121 : decode cX10_callsDebt 121 = .ok (.aload_n 0, 1) := by decide +kernel
theorem dX10_callsDebt_122 : decode cX10_callsDebt 122 = .ok (.getfield 81, 3) := by decide +kernel
theorem dX10_callsDebt_125 : decode cX10_callsDebt 125 = .ok (.iload_n 1, 1) := by decide +kernel
theorem dX10_callsDebt_126 : decode cX10_callsDebt 126 = .ok (.iaload, 1) := by decide +kernel
theorem dX10_callsDebt_127 : decode cX10_callsDebt 127 = .ok (.i2l, 1) := by decide +kernel
theorem dX10_callsDebt_128 : decode cX10_callsDebt 128 = .ok (.lastore, 1) := by decide +kernel
theorem dX10_callsDebt_129 : decode cX10_callsDebt 129 = .ok (.return_, 1) := by decide +kernel
theorem dX10_callsPass_0 : decode cX10_callsPass 0 = .ok (.aload_n 0, 1) := by decide +kernel
theorem dX10_callsPass_1 : decode cX10_callsPass 1 = .ok (.iload_n 1, 1) := by decide +kernel
theorem dX10_callsPass_2 : decode cX10_callsPass 2 = .ok (.iload_n 2, 1) := by decide +kernel
theorem dX10_callsPass_3 : decode cX10_callsPass 3 = .ok (.aload_n 0, 1) := by decide +kernel
theorem dX10_callsPass_4 : decode cX10_callsPass 4 = .ok (.getfield 96, 3) := by decide +kernel
theorem dX10_callsPass_7 : decode cX10_callsPass 7 = .ok (.bipush 6, 2) := by decide +kernel
theorem dX10_callsPass_9 : decode cX10_callsPass 9 = .ok (.iload_n 1, 1) := by decide +kernel
theorem dX10_callsPass_10 : decode cX10_callsPass 10 = .ok (.imul, 1) := by decide +kernel
theorem dX10_callsPass_11 : decode cX10_callsPass 11 = .ok (.iload_n 3, 1) := by decide +kernel
theorem dX10_callsPass_12 : decode cX10_callsPass 12 = .ok (.iadd, 1) := by decide +kernel
theorem dX10_callsPass_13 : decode cX10_callsPass 13 = .ok (.iaload, 1) := by decide +kernel
theorem dX10_callsPass_14 : decode cX10_callsPass 14 = .ok (.aload_n 0, 1) := by decide +kernel
theorem dX10_callsPass_15 : decode cX10_callsPass 15 = .ok (.getfield 99, 3) := by decide +kernel
theorem dX10_callsPass_18 : decode cX10_callsPass 18 = .ok (.bipush 6, 2) := by decide +kernel
theorem dX10_callsPass_20 : decode cX10_callsPass 20 = .ok (.iload_n 1, 1) := by decide +kernel
theorem dX10_callsPass_21 : decode cX10_callsPass 21 = .ok (.imul, 1) := by decide +kernel
theorem dX10_callsPass_22 : decode cX10_callsPass 22 = .ok (.iload_n 3, 1) := by decide +kernel
theorem dX10_callsPass_23 : decode cX10_callsPass 23 = .ok (.iadd, 1) := by decide +kernel
theorem dX10_callsPass_24 : decode cX10_callsPass 24 = .ok (.iaload, 1) := by decide +kernel
theorem dX10_callsPass_25 : decode cX10_callsPass 25 = .ok (.invokestatic 361, 3) := by decide +kernel
theorem dX10_callsPass_28 : decode cX10_callsPass 28 = .ok (.invokevirtual 364, 3) := by decide +kernel
theorem dX10_callsPass_31 : decode cX10_callsPass 31 = .ok (.return_, 1) := by decide +kernel
theorem dX10_callsPay_0 : decode cX10_callsPay 0 = .ok (.aload_n 0, 1) := by decide +kernel
theorem dX10_callsPay_1 : decode cX10_callsPay 1 = .ok (.iload_n 1, 1) := by decide +kernel
theorem dX10_callsPay_2 : decode cX10_callsPay 2 = .ok (.iload_n 2, 1) := by decide +kernel
theorem dX10_callsPay_3 : decode cX10_callsPay 3 = .ok (.invokevirtual 368, 3) := by decide +kernel
theorem dX10_callsPay_6 : decode cX10_callsPay 6 = .ok (.istore_n 3, 1) := by decide +kernel
theorem dX10_callsPay_7 : decode cX10_callsPay 7 = .ok (.aload_n 0, 1) := by decide +kernel
theorem dX10_callsPay_8 : decode cX10_callsPay 8 = .ok (.iload_n 1, 1) := by decide +kernel
theorem dX10_callsPay_9 : decode cX10_callsPay 9 = .ok (.iload_n 2, 1) := by decide +kernel
theorem dX10_callsPay_10 : decode cX10_callsPay 10 = .ok (.iload_n 3, 1) := by decide +kernel
theorem dX10_callsPay_11 : decode cX10_callsPay 11 = .ok (.iconst (-1), 1) := by decide +kernel
theorem dX10_callsPay_12 : decode cX10_callsPay 12 = .ok (.if_icmp .ne 7, 3) := by decide +kernel
theorem dX10_callsPay_15 : decode cX10_callsPay 15 = .ok (.iconst 0, 1) := by decide +kernel
theorem dX10_callsPay_16 : decode cX10_callsPay 16 = .ok (.goto 14, 3) := by decide +kernel
theorem dX10_callsPay_19 : decode cX10_callsPay 19 = .ok (.aload_n 0, 1) := by decide +kernel
theorem dX10_callsPay_20 : decode cX10_callsPay 20 = .ok (.getfield 96, 3) := by decide +kernel
theorem dX10_callsPay_23 : decode cX10_callsPay 23 = .ok (.bipush 6, 2) := by decide +kernel
theorem dX10_callsPay_25 : decode cX10_callsPay 25 = .ok (.iload_n 1, 1) := by decide +kernel
theorem dX10_callsPay_26 : decode cX10_callsPay 26 = .ok (.imul, 1) := by decide +kernel
theorem dX10_callsPay_27 : decode cX10_callsPay 27 = .ok (.iload_n 3, 1) := by decide +kernel
theorem dX10_callsPay_28 : decode cX10_callsPay 28 = .ok (.iadd, 1) := by decide +kernel
theorem dX10_callsPay_29 : decode cX10_callsPay 29 = .ok (.iaload, 1) := by decide +kernel
theorem dX10_callsPay_30 : decode cX10_callsPay 30 = .ok (.iconst 0, 1) := by decide +kernel
theorem dX10_callsPay_31 : decode cX10_callsPay 31 = .ok (.invokevirtual 364, 3) := by decide +kernel
theorem dX10_callsPay_34 : decode cX10_callsPay 34 = .ok (.return_, 1) := by decide +kernel
theorem dX10_mortal_0 : decode cX10_mortal 0 = .ok (.aload_n 0, 1) := by decide +kernel
theorem dX10_mortal_1 : decode cX10_mortal 1 = .ok (.getfield 99, 3) := by decide +kernel
theorem dX10_mortal_4 : decode cX10_mortal 4 = .ok (.bipush 6, 2) := by decide +kernel
theorem dX10_mortal_6 : decode cX10_mortal 6 = .ok (.iload_n 1, 1) := by decide +kernel
theorem dX10_mortal_7 : decode cX10_mortal 7 = .ok (.imul, 1) := by decide +kernel
theorem dX10_mortal_8 : decode cX10_mortal 8 = .ok (.iload_n 2, 1) := by decide +kernel
theorem dX10_mortal_9 : decode cX10_mortal 9 = .ok (.iadd, 1) := by decide +kernel
theorem dX10_mortal_10 : decode cX10_mortal 10 = .ok (.iaload, 1) := by decide +kernel
theorem dX10_mortal_11 : decode cX10_mortal 11 = .ok (.invokestatic 361, 3) := by decide +kernel
theorem dX10_mortal_14 : decode cX10_mortal 14 = .ok (.istore_n 3, 1) := by decide +kernel
theorem dX10_mortal_15 : decode cX10_mortal 15 = .ok (.aload_n 0, 1) := by decide +kernel
theorem dX10_mortal_16 : decode cX10_mortal 16 = .ok (.getfield 74, 3) := by decide +kernel
theorem dX10_mortal_19 : decode cX10_mortal 19 = .ok (.iconst 0, 1) := by decide +kernel
theorem dX10_mortal_20 : decode cX10_mortal 20 = .ok (.lconst 0, 1) := by decide +kernel
theorem dX10_mortal_21 : decode cX10_mortal 21 = .ok (.lastore, 1) := by decide +kernel
theorem dX10_mortal_22 : decode cX10_mortal 22 = .ok (.aload_n 0, 1) := by decide +kernel
theorem dX10_mortal_23 : decode cX10_mortal 23 = .ok (.getfield 74, 3) := by decide +kernel
theorem dX10_mortal_26 : decode cX10_mortal 26 = .ok (.iconst 1, 1) := by decide +kernel
theorem dX10_mortal_27 : decode cX10_mortal 27 = .ok (.aload_n 0, 1) := by decide +kernel
theorem dX10_mortal_28 : decode cX10_mortal 28 = .ok (.getfield 96, 3) := by decide +kernel
theorem dX10_mortal_31 : decode cX10_mortal 31 = .ok (.bipush 6, 2) := by decide +kernel
theorem dX10_mortal_33 : decode cX10_mortal 33 = .ok (.iload_n 1, 1) := by decide +kernel
theorem dX10_mortal_34 : decode cX10_mortal 34 = .ok (.imul, 1) := by decide +kernel
theorem dX10_mortal_35 : decode cX10_mortal 35 = .ok (.iload_n 2, 1) := by decide +kernel
theorem dX10_mortal_36 : decode cX10_mortal 36 = .ok (.iadd, 1) := by decide +kernel
theorem dX10_mortal_37 : decode cX10_mortal 37 = .ok (.iaload, 1) := by decide +kernel
theorem dX10_mortal_38 : decode cX10_mortal 38 = .ok (.i2l, 1) := by decide +kernel
theorem dX10_mortal_39 : decode cX10_mortal 39 = .ok (.lastore, 1) := by decide +kernel
theorem dX10_mortal_40 : decode cX10_mortal 40 = .ok (.aload_n 0, 1) := by decide +kernel
theorem dX10_mortal_41 : decode cX10_mortal 41 = .ok (.getfield 74, 3) := by decide +kernel
theorem dX10_mortal_44 : decode cX10_mortal 44 = .ok (.iconst 2, 1) := by decide +kernel
theorem dX10_mortal_45 : decode cX10_mortal 45 = .ok (.lconst 0, 1) := by decide +kernel
theorem dX10_mortal_46 : decode cX10_mortal 46 = .ok (.lastore, 1) := by decide +kernel
theorem dX10_mortal_47 : decode cX10_mortal 47 = .ok (.aload_n 0, 1) := by decide +kernel
theorem dX10_mortal_48 : decode cX10_mortal 48 = .ok (.getfield 74, 3) := by decide +kernel
theorem dX10_mortal_51 : decode cX10_mortal 51 = .ok (.iconst 3, 1) := by decide +kernel
theorem dX10_mortal_52 : decode cX10_mortal 52 = .ok (.iload_n 3, 1) := by decide +kernel
theorem dX10_mortal_53 : decode cX10_mortal 53 = .ok (.i2l, 1) := by decide +kernel
theorem dX10_mortal_54 : decode cX10_mortal 54 = .ok (.lastore, 1) := by decide +kernel
theorem dX10_mortal_55 : decode cX10_mortal 55 = .ok (.aload_n 0, 1) := by decide +kernel
theorem dX10_mortal_56 : decode cX10_mortal 56 = .ok (.getfield 74, 3) := by decide +kernel
theorem dX10_mortal_59 : decode cX10_mortal 59 = .ok (.iconst 4, 1) := by decide +kernel
theorem dX10_mortal_60 : decode cX10_mortal 60 = .ok (.lconst 0, 1) := by decide +kernel
theorem dX10_mortal_61 : decode cX10_mortal 61 = .ok (.lastore, 1) := by decide +kernel
theorem dX10_mortal_62 : decode cX10_mortal 62 = .ok (.aload_n 0, 1) := by decide +kernel
theorem dX10_mortal_63 : decode cX10_mortal 63 = .ok (.getfield 74, 3) := by decide +kernel
theorem dX10_mortal_66 : decode cX10_mortal 66 = .ok (.iconst 5, 1) := by decide +kernel
theorem dX10_mortal_67 : decode cX10_mortal 67 = .ok (.iload_n 3, 1) := by decide +kernel
theorem dX10_mortal_68 : decode cX10_mortal 68 = .ok (.i2l, 1) := by decide +kernel
theorem dX10_mortal_69 : decode cX10_mortal 69 = .ok (.lastore, 1) := by decide +kernel
theorem dX10_mortal_70 : decode cX10_mortal 70 = .ok (.aload_n 0, 1) := by decide +kernel
theorem dX10_mortal_71 : decode cX10_mortal 71 = .ok (.getfield 74, 3) := by decide +kernel
theorem dX10_mortal_74 : decode cX10_mortal 74 = .ok (.bipush 6, 2) := by decide +kernel
theorem dX10_mortal_76 : decode cX10_mortal 76 = .ok (.aload_n 0, 1) := by decide +kernel
theorem dX10_mortal_77 : decode cX10_mortal 77 = .ok (.getfield 81, 3) := by decide +kernel
theorem dX10_mortal_80 : decode cX10_mortal 80 = .ok (.iload_n 1, 1) := by decide +kernel
theorem dX10_mortal_81 : decode cX10_mortal 81 = .ok (.iaload, 1) := by decide +kernel
theorem dX10_mortal_82 : decode cX10_mortal 82 = .ok (.i2l, 1) := by decide +kernel
theorem dX10_mortal_83 : decode cX10_mortal 83 = .ok (.lastore, 1) := by decide +kernel
theorem dX10_mortal_84 : decode cX10_mortal 84 = .ok (.aload_n 0, 1) := by decide +kernel
theorem dX10_mortal_85 : decode cX10_mortal 85 = .ok (.iconst 2, 1) := by decide +kernel
theorem dX10_mortal_86 : decode cX10_mortal 86 = .ok (.invokevirtual 371, 3) := by decide +kernel
theorem dX10_mortal_89 : decode cX10_mortal 89 = .ok (.ifCond .eq 11, 3) := by decide +kernel
theorem dX10_mortal_92 : decode cX10_mortal 92 = .ok (.aload_n 0, 1) := by decide +kernel
theorem dX10_mortal_93 : decode cX10_mortal 93 = .ok (.iconst 2, 1) := by decide +kernel
theorem dX10_mortal_94 : decode cX10_mortal 94 = .ok (.invokevirtual 374, 3) := by decide +kernel
theorem dX10_mortal_97 : decode cX10_mortal 97 = .ok (.ifCond .ne 22, 3) := by decide +kernel
theorem dX10_mortal_100 : decode cX10_mortal 100 = .ok (.iconst 0, 1) := by decide +kernel
theorem dX10_mortal_101 : decode cX10_mortal 101 = .ok (.aload_n 0, 1) := by decide +kernel
theorem dX10_mortal_102 : decode cX10_mortal 102 = .ok (.getfield 96, 3) := by decide +kernel
theorem dX10_mortal_105 : decode cX10_mortal 105 = .ok (.bipush 6, 2) := by decide +kernel
theorem dX10_mortal_107 : decode cX10_mortal 107 = .ok (.iload_n 1, 1) := by decide +kernel
theorem dX10_mortal_108 : decode cX10_mortal 108 = .ok (.imul, 1) := by decide +kernel
theorem dX10_mortal_109 : decode cX10_mortal 109 = .ok (.iload_n 2, 1) := by decide +kernel
theorem dX10_mortal_110 : decode cX10_mortal 110 = .ok (.iadd, 1) := by decide +kernel
theorem dX10_mortal_111 : decode cX10_mortal 111 = .ok (.iaload, 1) := by decide +kernel
theorem dX10_mortal_112 : decode cX10_mortal 112 = .ok (.bipush 60, 2) := by decide +kernel
theorem dX10_mortal_114 : decode cX10_mortal 114 = .ok (.isub, 1) := by decide +kernel
theorem dX10_mortal_115 : decode cX10_mortal 115 = .ok (.invokestatic 377, 3) := by decide +kernel
theorem dX10_mortal_118 : decode cX10_mortal 118 = .ok (.ireturn, 1) := by decide +kernel
theorem dX10_mortal_119 : decode cX10_mortal 119 = .ok (.lconst 0, 1) := by decide +kernel
theorem dX10_mortal_120 : decode cX10_mortal 120 = .ok (.ldc2_w 380, 3) := by decide +kernel
theorem dX10_mortal_123 : decode cX10_mortal 123 = .ok (.aload_n 0, 1) := by decide +kernel
theorem dX10_mortal_124 : decode cX10_mortal 124 = .ok (.getfield 78, 3) := by decide +kernel
theorem dX10_mortal_127 : decode cX10_mortal 127 = .ok (.iconst 0, 1) := by decide +kernel
theorem dX10_mortal_128 : decode cX10_mortal 128 = .ok (.laload, 1) := by decide +kernel
theorem dX10_mortal_129 : decode cX10_mortal 129 = .ok (.invokestatic 382, 3) := by decide +kernel
theorem dX10_mortal_132 : decode cX10_mortal 132 = .ok (.invokestatic 386, 3) := by decide +kernel
theorem dX10_mortal_135 : decode cX10_mortal 135 = .ok (.l2i, 1) := by decide +kernel
theorem dX10_mortal_136 : decode cX10_mortal 136 = .ok (.ireturn, 1) := by decide +kernel
theorem dX10_learns_0 : decode cX10_learns 0 = .ok (.aload_n 0, 1) := by decide +kernel
theorem dX10_learns_1 : decode cX10_learns 1 = .ok (.getfield 388, 3) := by decide +kernel
theorem dX10_learns_4 : decode cX10_learns 4 = .ok (.iconst 2, 1) := by decide +kernel
theorem dX10_learns_5 : decode cX10_learns 5 = .ok (.if_icmp .ne 11, 3) := by decide +kernel
theorem dX10_learns_8 : decode cX10_learns 8 = .ok (.iload_n 2, 1) := by decide +kernel
theorem dX10_learns_9 : decode cX10_learns 9 = .ok (.aload_n 0, 1) := by decide +kernel
theorem dX10_learns_10 : decode cX10_learns 10 = .ok (.getfield 123, 3) := by decide +kernel
theorem dX10_learns_13 : decode cX10_learns 13 = .ok (.if_icmp .eq 20, 3) := by decide +kernel
theorem dX10_learns_16 : decode cX10_learns 16 = .ok (.aload_n 0, 1) := by decide +kernel
theorem dX10_learns_17 : decode cX10_learns 17 = .ok (.getfield 99, 3) := by decide +kernel
theorem dX10_learns_20 : decode cX10_learns 20 = .ok (.bipush 6, 2) := by decide +kernel
theorem dX10_learns_22 : decode cX10_learns 22 = .ok (.iload_n 1, 1) := by decide +kernel
theorem dX10_learns_23 : decode cX10_learns 23 = .ok (.imul, 1) := by decide +kernel
theorem dX10_learns_24 : decode cX10_learns 24 = .ok (.iload_n 2, 1) := by decide +kernel
theorem dX10_learns_25 : decode cX10_learns 25 = .ok (.iadd, 1) := by decide +kernel
theorem dX10_learns_26 : decode cX10_learns 26 = .ok (.dup2, 1) := by decide +kernel
theorem dX10_learns_27 : decode cX10_learns 27 = .ok (.iaload, 1) := by decide +kernel
theorem dX10_learns_28 : decode cX10_learns 28 = .ok (.iconst 1, 1) := by decide +kernel
theorem dX10_learns_29 : decode cX10_learns 29 = .ok (.iload_n 3, 1) := by decide +kernel
theorem dX10_learns_30 : decode cX10_learns 30 = .ok (.ishl, 1) := by decide +kernel
theorem dX10_learns_31 : decode cX10_learns 31 = .ok (.ior, 1) := by decide +kernel
theorem dX10_learns_32 : decode cX10_learns 32 = .ok (.iastore, 1) := by decide +kernel
theorem dX10_learns_33 : decode cX10_learns 33 = .ok (.return_, 1) := by decide +kernel
theorem dX10_opens_0 : decode cX10_opens 0 = .ok (.bipush 8, 2) := by decide +kernel
theorem dX10_opens_2 : decode cX10_opens 2 = .ok (.iload_n 1, 1) := by decide +kernel
theorem dX10_opens_3 : decode cX10_opens 3 = .ok (.imul, 1) := by decide +kernel
theorem dX10_opens_4 : decode cX10_opens 4 = .ok (.iload_n 2, 1) := by decide +kernel
theorem dX10_opens_5 : decode cX10_opens 5 = .ok (.iadd, 1) := by decide +kernel
theorem dX10_opens_6 : decode cX10_opens 6 = .ok (.istore_n 3, 1) := by decide +kernel
theorem dX10_opens_7 : decode cX10_opens 7 = .ok (.bipush 6, 2) := by decide +kernel
theorem dX10_opens_9 : decode cX10_opens 9 = .ok (.iload_n 1, 1) := by decide +kernel
theorem dX10_opens_10 : decode cX10_opens 10 = .ok (.imul, 1) := by decide +kernel
theorem dX10_opens_11 : decode cX10_opens 11 = .ok (.aload_n 0, 1) := by decide +kernel
theorem dX10_opens_12 : decode cX10_opens 12 = .ok (.getfield 102, 3) := by decide +kernel
theorem dX10_opens_15 : decode cX10_opens 15 = .ok (.iload_n 3, 1) := by decide +kernel
theorem dX10_opens_16 : decode cX10_opens 16 = .ok (.iaload, 1) := by decide +kernel
theorem dX10_opens_17 : decode cX10_opens 17 = .ok (.iadd, 1) := by decide +kernel
theorem dX10_opens_18 : decode cX10_opens 18 = .ok (.istore 4, 2) := by decide +kernel
theorem dX10_opens_20 : decode cX10_opens 20 = .ok (.aload_n 0, 1) := by decide +kernel
theorem dX10_opens_21 : decode cX10_opens 21 = .ok (.getfield 108, 3) := by decide +kernel
theorem dX10_opens_24 : decode cX10_opens 24 = .ok (.iload_n 3, 1) := by decide +kernel
theorem dX10_opens_25 : decode cX10_opens 25 = .ok (.iaload, 1) := by decide +kernel
theorem dX10_opens_26 : decode cX10_opens 26 = .ok (.aload_n 0, 1) := by decide +kernel
theorem dX10_opens_27 : decode cX10_opens 27 = .ok (.getfield 28, 3) := by decide +kernel
theorem dX10_opens_30 : decode cX10_opens 30 = .ok (.aload_n 0, 1) := by decide +kernel
theorem dX10_opens_31 : decode cX10_opens 31 = .ok (.getfield 111, 3) := by decide +kernel
theorem dX10_opens_34 : decode cX10_opens 34 = .ok (.iload_n 3, 1) := by decide +kernel
theorem dX10_opens_35 : decode cX10_opens 35 = .ok (.iaload, 1) := by decide +kernel
theorem dX10_opens_36 : decode cX10_opens 36 = .ok (.iaload, 1) := by decide +kernel
theorem dX10_opens_37 : decode cX10_opens 37 = .ok (.iadd, 1) := by decide +kernel
theorem dX10_opens_38 : decode cX10_opens 38 = .ok (.istore 5, 2) := by decide +kernel
theorem dX10_opens_40 : decode cX10_opens 40 = .ok (.aload_n 0, 1) := by decide +kernel
theorem dX10_opens_41 : decode cX10_opens 41 = .ok (.iload_n 1, 1) := by decide +kernel
theorem dX10_opens_42 : decode cX10_opens 42 = .ok (.aload_n 0, 1) := by decide +kernel
theorem dX10_opens_43 : decode cX10_opens 43 = .ok (.getfield 111, 3) := by decide +kernel
theorem dX10_opens_46 : decode cX10_opens 46 = .ok (.iload_n 3, 1) := by decide +kernel
theorem dX10_opens_47 : decode cX10_opens 47 = .ok (.iaload, 1) := by decide +kernel
theorem dX10_opens_48 : decode cX10_opens 48 = .ok (.invokevirtual 391, 3) := by decide +kernel
theorem dX10_opens_51 : decode cX10_opens 51 = .ok (.ifCond .eq 15, 3) := by decide +kernel
theorem dX10_opens_54 : decode cX10_opens 54 = .ok (.aload_n 0, 1) := by decide +kernel
theorem dX10_opens_55 : decode cX10_opens 55 = .ok (.getfield 93, 3) := by decide +kernel
theorem dX10_opens_58 : decode cX10_opens 58 = .ok (.iload 4, 2) := by decide +kernel
theorem dX10_opens_60 : decode cX10_opens 60 = .ok (.iaload, 1) := by decide +kernel
theorem dX10_opens_61 : decode cX10_opens 61 = .ok (.iload 5, 2) := by decide +kernel
theorem dX10_opens_63 : decode cX10_opens 63 = .ok (.if_icmp .ge 11, 3) := by decide +kernel
theorem dX10_opens_66 : decode cX10_opens 66 = .ok (.aload_n 0, 1) := by decide +kernel
theorem dX10_opens_67 : decode cX10_opens 67 = .ok (.getfield 117, 3) := by decide +kernel
theorem dX10_opens_70 : decode cX10_opens 70 = .ok (.iload_n 3, 1) := by decide +kernel
theorem dX10_opens_71 : decode cX10_opens 71 = .ok (.iconst 4, 1) := by decide +kernel
theorem dX10_opens_72 : decode cX10_opens 72 = .ok (.iastore, 1) := by decide +kernel
theorem dX10_opens_73 : decode cX10_opens 73 = .ok (.return_, 1) := by decide +kernel
theorem dX10_opens_74 : decode cX10_opens 74 = .ok (.aload_n 0, 1) := by decide +kernel
theorem dX10_opens_75 : decode cX10_opens 75 = .ok (.getfield 117, 3) := by decide +kernel
theorem dX10_opens_78 : decode cX10_opens 78 = .ok (.iload_n 3, 1) := by decide +kernel
theorem dX10_opens_79 : decode cX10_opens 79 = .ok (.iconst 1, 1) := by decide +kernel
theorem dX10_opens_80 : decode cX10_opens 80 = .ok (.iastore, 1) := by decide +kernel
theorem dX10_opens_81 : decode cX10_opens 81 = .ok (.aload_n 0, 1) := by decide +kernel
theorem dX10_opens_82 : decode cX10_opens 82 = .ok (.getfield 93, 3) := by decide +kernel
theorem dX10_opens_85 : decode cX10_opens 85 = .ok (.iload 4, 2) := by decide +kernel
theorem dX10_opens_87 : decode cX10_opens 87 = .ok (.dup2, 1) := by decide +kernel
theorem dX10_opens_88 : decode cX10_opens 88 = .ok (.iaload, 1) := by decide +kernel
theorem dX10_opens_89 : decode cX10_opens 89 = .ok (.iload 5, 2) := by decide +kernel
theorem dX10_opens_91 : decode cX10_opens 91 = .ok (.isub, 1) := by decide +kernel
theorem dX10_opens_92 : decode cX10_opens 92 = .ok (.iastore, 1) := by decide +kernel
theorem dX10_opens_93 : decode cX10_opens 93 = .ok (.aload_n 0, 1) := by decide +kernel
theorem dX10_opens_94 : decode cX10_opens 94 = .ok (.getfield 93, 3) := by decide +kernel
theorem dX10_opens_97 : decode cX10_opens 97 = .ok (.bipush 6, 2) := by decide +kernel
theorem dX10_opens_99 : decode cX10_opens 99 = .ok (.iload_n 1, 1) := by decide +kernel
theorem dX10_opens_100 : decode cX10_opens 100 = .ok (.imul, 1) := by decide +kernel
theorem dX10_opens_101 : decode cX10_opens 101 = .ok (.aload_n 0, 1) := by decide +kernel
theorem dX10_opens_102 : decode cX10_opens 102 = .ok (.getfield 105, 3) := by decide +kernel
theorem dX10_opens_105 : decode cX10_opens 105 = .ok (.iload_n 3, 1) := by decide +kernel
theorem dX10_opens_106 : decode cX10_opens 106 = .ok (.iaload, 1) := by decide +kernel
theorem dX10_opens_107 : decode cX10_opens 107 = .ok (.iadd, 1) := by decide +kernel
theorem dX10_opens_108 : decode cX10_opens 108 = .ok (.dup2, 1) := by decide +kernel
theorem dX10_opens_109 : decode cX10_opens 109 = .ok (.iaload, 1) := by decide +kernel
theorem dX10_opens_110 : decode cX10_opens 110 = .ok (.aload_n 0, 1) := by decide +kernel
theorem dX10_opens_111 : decode cX10_opens 111 = .ok (.getfield 108, 3) := by decide +kernel
theorem dX10_opens_114 : decode cX10_opens 114 = .ok (.iload_n 3, 1) := by decide +kernel
theorem dX10_opens_115 : decode cX10_opens 115 = .ok (.iaload, 1) := by decide +kernel
theorem dX10_opens_116 : decode cX10_opens 116 = .ok (.iadd, 1) := by decide +kernel
theorem dX10_opens_117 : decode cX10_opens 117 = .ok (.iastore, 1) := by decide +kernel
theorem dX10_opens_118 : decode cX10_opens 118 = .ok (.aload_n 0, 1) := by decide +kernel
theorem dX10_opens_119 : decode cX10_opens 119 = .ok (.getfield 120, 3) := by decide +kernel
theorem dX10_opens_122 : decode cX10_opens 122 = .ok (.iload_n 3, 1) := by decide +kernel
theorem dX10_opens_123 : decode cX10_opens 123 = .ok (.aload_n 0, 1) := by decide +kernel
theorem dX10_opens_124 : decode cX10_opens 124 = .ok (.getfield 108, 3) := by decide +kernel
theorem dX10_opens_127 : decode cX10_opens 127 = .ok (.iload_n 3, 1) := by decide +kernel
theorem dX10_opens_128 : decode cX10_opens 128 = .ok (.iaload, 1) := by decide +kernel
theorem dX10_opens_129 : decode cX10_opens 129 = .ok (.iastore, 1) := by decide +kernel
theorem dX10_opens_130 : decode cX10_opens 130 = .ok (.aload_n 0, 1) := by decide +kernel
theorem dX10_opens_131 : decode cX10_opens 131 = .ok (.iload_n 1, 1) := by decide +kernel
theorem dX10_opens_132 : decode cX10_opens 132 = .ok (.aload_n 0, 1) := by decide +kernel
theorem dX10_opens_133 : decode cX10_opens 133 = .ok (.getfield 111, 3) := by decide +kernel
theorem dX10_opens_136 : decode cX10_opens 136 = .ok (.iload_n 3, 1) := by decide +kernel
theorem dX10_opens_137 : decode cX10_opens 137 = .ok (.iaload, 1) := by decide +kernel
theorem dX10_opens_138 : decode cX10_opens 138 = .ok (.iload_n 2, 1) := by decide +kernel
theorem dX10_opens_139 : decode cX10_opens 139 = .ok (.invokevirtual 395, 3) := by decide +kernel
theorem dX10_opens_142 : decode cX10_opens 142 = .ok (.return_, 1) := by decide +kernel
theorem dX10_leans_0 : decode cX10_leans 0 = .ok (.iconst 0, 1) := by decide +kernel
theorem dX10_leans_1 : decode cX10_leans 1 = .ok (.istore 4, 2) := by decide +kernel
theorem dX10_leans_3 : decode cX10_leans 3 = .ok (.iconst 0, 1) := by decide +kernel
theorem dX10_leans_4 : decode cX10_leans 4 = .ok (.istore 5, 2) := by decide +kernel
theorem dX10_leans_6 : decode cX10_leans 6 = .ok (.iload 5, 2) := by decide +kernel
theorem dX10_leans_8 : decode cX10_leans 8 = .ok (.aload_n 0, 1) := by decide +kernel
theorem dX10_leans_9 : decode cX10_leans 9 = .ok (.getfield 87, 3) := by decide +kernel
theorem dX10_leans_12 : decode cX10_leans 12 = .ok (.iload_n 1, 1) := by decide +kernel
theorem dX10_leans_13 : decode cX10_leans 13 = .ok (.iaload, 1) := by decide +kernel
theorem dX10_leans_14 : decode cX10_leans 14 = .ok (.if_icmp .ge 100, 3) := by decide +kernel
theorem dX10_leans_17 : decode cX10_leans 17 = .ok (.aload_n 0, 1) := by decide +kernel
theorem dX10_leans_18 : decode cX10_leans 18 = .ok (.getfield 99, 3) := by decide +kernel
theorem dX10_leans_21 : decode cX10_leans 21 = .ok (.bipush 6, 2) := by decide +kernel
theorem dX10_leans_23 : decode cX10_leans 23 = .ok (.iload_n 1, 1) := by decide +kernel
theorem dX10_leans_24 : decode cX10_leans 24 = .ok (.imul, 1) := by decide +kernel
theorem dX10_leans_25 : decode cX10_leans 25 = .ok (.iload_n 2, 1) := by decide +kernel
theorem dX10_leans_26 : decode cX10_leans 26 = .ok (.iadd, 1) := by decide +kernel
theorem dX10_leans_27 : decode cX10_leans 27 = .ok (.iaload, 1) := by decide +kernel
theorem dX10_leans_28 : decode cX10_leans 28 = .ok (.iload 5, 2) := by decide +kernel
theorem dX10_leans_30 : decode cX10_leans 30 = .ok (.ishr, 1) := by decide +kernel
theorem dX10_leans_31 : decode cX10_leans 31 = .ok (.iconst 1, 1) := by decide +kernel
theorem dX10_leans_32 : decode cX10_leans 32 = .ok (.iand, 1) := by decide +kernel
theorem dX10_leans_33 : decode cX10_leans 33 = .ok (.ifCond .eq 75, 3) := by decide +kernel
theorem dX10_leans_36 : decode cX10_leans 36 = .ok (.aload_n 0, 1) := by decide +kernel
theorem dX10_leans_37 : decode cX10_leans 37 = .ok (.getfield 99, 3) := by decide +kernel
theorem dX10_leans_40 : decode cX10_leans 40 = .ok (.bipush 6, 2) := by decide +kernel
theorem dX10_leans_42 : decode cX10_leans 42 = .ok (.iload_n 1, 1) := by decide +kernel
theorem dX10_leans_43 : decode cX10_leans 43 = .ok (.imul, 1) := by decide +kernel
theorem dX10_leans_44 : decode cX10_leans 44 = .ok (.iload_n 3, 1) := by decide +kernel
theorem dX10_leans_45 : decode cX10_leans 45 = .ok (.iadd, 1) := by decide +kernel
theorem dX10_leans_46 : decode cX10_leans 46 = .ok (.iaload, 1) := by decide +kernel
theorem dX10_leans_47 : decode cX10_leans 47 = .ok (.iload 5, 2) := by decide +kernel
theorem dX10_leans_49 : decode cX10_leans 49 = .ok (.ishr, 1) := by decide +kernel
theorem dX10_leans_50 : decode cX10_leans 50 = .ok (.iconst 1, 1) := by decide +kernel
theorem dX10_leans_51 : decode cX10_leans 51 = .ok (.iand, 1) := by decide +kernel
theorem dX10_leans_52 : decode cX10_leans 52 = .ok (.iconst 1, 1) := by decide +kernel
theorem dX10_leans_53 : decode cX10_leans 53 = .ok (.if_icmp .ne 6, 3) := by decide +kernel
theorem dX10_leans_56 : decode cX10_leans 56 = .ok (.goto 52, 3) := by decide +kernel
theorem dX10_leans_59 : decode cX10_leans 59 = .ok (.aload_n 0, 1) := by decide +kernel
theorem dX10_leans_60 : decode cX10_leans 60 = .ok (.iload_n 1, 1) := by decide +kernel
theorem dX10_leans_61 : decode cX10_leans 61 = .ok (.iload 5, 2) := by decide +kernel
theorem dX10_leans_63 : decode cX10_leans 63 = .ok (.iload_n 2, 1) := by decide +kernel
theorem dX10_leans_64 : decode cX10_leans 64 = .ok (.invokevirtual 399, 3) := by decide +kernel
theorem dX10_leans_67 : decode cX10_leans 67 = .ok (.aload_n 0, 1) := by decide +kernel
theorem dX10_leans_68 : decode cX10_leans 68 = .ok (.iconst 0, 1) := by decide +kernel
theorem dX10_leans_69 : decode cX10_leans 69 = .ok (.invokevirtual 371, 3) := by decide +kernel
theorem dX10_leans_72 : decode cX10_leans 72 = .ok (.ifCond .eq 25, 3) := by decide +kernel
theorem dX10_leans_75 : decode cX10_leans 75 = .ok (.aload_n 0, 1) := by decide +kernel
theorem dX10_leans_76 : decode cX10_leans 76 = .ok (.iconst 0, 1) := by decide +kernel
theorem dX10_leans_77 : decode cX10_leans 77 = .ok (.invokevirtual 374, 3) := by decide +kernel
theorem dX10_leans_80 : decode cX10_leans 80 = .ok (.ifCond .eq 17, 3) := by decide +kernel
theorem dX10_leans_83 : decode cX10_leans 83 = .ok (.aload_n 0, 1) := by decide +kernel
theorem dX10_leans_84 : decode cX10_leans 84 = .ok (.getfield 78, 3) := by decide +kernel
theorem dX10_leans_87 : decode cX10_leans 87 = .ok (.iconst 0, 1) := by decide +kernel
theorem dX10_leans_88 : decode cX10_leans 88 = .ok (.laload, 1) := by decide +kernel
theorem dX10_leans_89 : decode cX10_leans 89 = .ok (.lconst 0, 1) := by decide +kernel
theorem dX10_leans_90 : decode cX10_leans 90 = .ok (.lcmp, 1) := by decide +kernel
theorem dX10_leans_91 : decode cX10_leans 91 = .ok (.ifCond .ne 6, 3) := by decide +kernel
theorem dX10_leans_94 : decode cX10_leans 94 = .ok (.goto 14, 3) := by decide +kernel
theorem dX10_leans_97 : decode cX10_leans 97 = .ok (.aload_n 0, 1) := by decide +kernel
theorem dX10_leans_98 : decode cX10_leans 98 = .ok (.iload_n 1, 1) := by decide +kernel
theorem dX10_leans_99 : decode cX10_leans 99 = .ok (.iload_n 3, 1) := by decide +kernel
theorem dX10_leans_100 : decode cX10_leans 100 = .ok (.iload 5, 2) := by decide +kernel
theorem dX10_leans_102 : decode cX10_leans 102 = .ok (.invokevirtual 395, 3) := by decide +kernel
theorem dX10_leans_105 : decode cX10_leans 105 = .ok (.iinc 4 1, 3) := by decide +kernel
theorem dX10_leans_108 : decode cX10_leans 108 = .ok (.iinc 5 1, 3) := by decide +kernel
theorem dX10_leans_111 : decode cX10_leans 111 = .ok (.goto (-105), 3) := by decide +kernel
theorem dX10_leans_114 : decode cX10_leans 114 = .ok (.iload 4, 2) := by decide +kernel
theorem dX10_leans_116 : decode cX10_leans 116 = .ok (.ireturn, 1) := by decide +kernel
theorem dX10_dies_0 : decode cX10_dies 0 = .ok (.aload_n 0, 1) := by decide +kernel
theorem dX10_dies_1 : decode cX10_dies 1 = .ok (.getfield 90, 3) := by decide +kernel
theorem dX10_dies_4 : decode cX10_dies 4 = .ok (.iload_n 1, 1) := by decide +kernel
theorem dX10_dies_5 : decode cX10_dies 5 = .ok (.dup2, 1) := by decide +kernel
theorem dX10_dies_6 : decode cX10_dies 6 = .ok (.iaload, 1) := by decide +kernel
theorem dX10_dies_7 : decode cX10_dies 7 = .ok (.iconst 1, 1) := by decide +kernel
theorem dX10_dies_8 : decode cX10_dies 8 = .ok (.iload_n 2, 1) := by decide +kernel
theorem dX10_dies_9 : decode cX10_dies 9 = .ok (.ishl, 1) := by decide +kernel
theorem dX10_dies_10 : decode cX10_dies 10 = .ok (.iconst (-1), 1) := by decide +kernel
theorem dX10_dies_11 : decode cX10_dies 11 = .ok (.ixor, 1) := by decide +kernel
theorem dX10_dies_12 : decode cX10_dies 12 = .ok (.iand, 1) := by decide +kernel
theorem dX10_dies_13 : decode cX10_dies 13 = .ok (.iastore, 1) := by decide +kernel
theorem dX10_dies_14 : decode cX10_dies 14 = .ok (.aload_n 0, 1) := by decide +kernel
theorem dX10_dies_15 : decode cX10_dies 15 = .ok (.getfield 99, 3) := by decide +kernel
theorem dX10_dies_18 : decode cX10_dies 18 = .ok (.bipush 6, 2) := by decide +kernel
theorem dX10_dies_20 : decode cX10_dies 20 = .ok (.iload_n 1, 1) := by decide +kernel
theorem dX10_dies_21 : decode cX10_dies 21 = .ok (.imul, 1) := by decide +kernel
theorem dX10_dies_22 : decode cX10_dies 22 = .ok (.iload_n 2, 1) := by decide +kernel
theorem dX10_dies_23 : decode cX10_dies 23 = .ok (.iadd, 1) := by decide +kernel
theorem dX10_dies_24 : decode cX10_dies 24 = .ok (.iconst 0, 1) := by decide +kernel
theorem dX10_dies_25 : decode cX10_dies 25 = .ok (.iastore, 1) := by decide +kernel
theorem dX10_dies_26 : decode cX10_dies 26 = .ok (.return_, 1) := by decide +kernel
theorem dX10_closes_0 : decode cX10_closes 0 = .ok (.aload_n 0, 1) := by decide +kernel
theorem dX10_closes_1 : decode cX10_closes 1 = .ok (.getfield 117, 3) := by decide +kernel
theorem dX10_closes_4 : decode cX10_closes 4 = .ok (.bipush 8, 2) := by decide +kernel
theorem dX10_closes_6 : decode cX10_closes 6 = .ok (.iload_n 1, 1) := by decide +kernel
theorem dX10_closes_7 : decode cX10_closes 7 = .ok (.imul, 1) := by decide +kernel
theorem dX10_closes_8 : decode cX10_closes 8 = .ok (.iload_n 2, 1) := by decide +kernel
theorem dX10_closes_9 : decode cX10_closes 9 = .ok (.iadd, 1) := by decide +kernel
theorem dX10_closes_10 : decode cX10_closes 10 = .ok (.iload_n 3, 1) := by decide +kernel
theorem dX10_closes_11 : decode cX10_closes 11 = .ok (.iastore, 1) := by decide +kernel
theorem dX10_closes_12 : decode cX10_closes 12 = .ok (.aload_n 0, 1) := by decide +kernel
theorem dX10_closes_13 : decode cX10_closes 13 = .ok (.getfield 120, 3) := by decide +kernel
theorem dX10_closes_16 : decode cX10_closes 16 = .ok (.bipush 8, 2) := by decide +kernel
theorem dX10_closes_18 : decode cX10_closes 18 = .ok (.iload_n 1, 1) := by decide +kernel
theorem dX10_closes_19 : decode cX10_closes 19 = .ok (.imul, 1) := by decide +kernel
theorem dX10_closes_20 : decode cX10_closes 20 = .ok (.iload_n 2, 1) := by decide +kernel
theorem dX10_closes_21 : decode cX10_closes 21 = .ok (.iadd, 1) := by decide +kernel
theorem dX10_closes_22 : decode cX10_closes 22 = .ok (.iconst 0, 1) := by decide +kernel
theorem dX10_closes_23 : decode cX10_closes 23 = .ok (.iastore, 1) := by decide +kernel
theorem dX10_closes_24 : decode cX10_closes 24 = .ok (.iconst 0, 1) := by decide +kernel
theorem dX10_closes_25 : decode cX10_closes 25 = .ok (.istore 4, 2) := by decide +kernel
theorem dX10_closes_27 : decode cX10_closes 27 = .ok (.iload 4, 2) := by decide +kernel
theorem dX10_closes_29 : decode cX10_closes 29 = .ok (.bipush 6, 2) := by decide +kernel
theorem dX10_closes_31 : decode cX10_closes 31 = .ok (.if_icmp .ge 29, 3) := by decide +kernel
theorem dX10_closes_34 : decode cX10_closes 34 = .ok (.aload_n 0, 1) := by decide +kernel
theorem dX10_closes_35 : decode cX10_closes 35 = .ok (.getfield 99, 3) := by decide +kernel
theorem dX10_closes_38 : decode cX10_closes 38 = .ok (.bipush 6, 2) := by decide +kernel
theorem dX10_closes_40 : decode cX10_closes 40 = .ok (.iload_n 1, 1) := by decide +kernel
theorem dX10_closes_41 : decode cX10_closes 41 = .ok (.imul, 1) := by decide +kernel
theorem dX10_closes_42 : decode cX10_closes 42 = .ok (.iload 4, 2) := by decide +kernel
theorem dX10_closes_44 : decode cX10_closes 44 = .ok (.iadd, 1) := by decide +kernel
theorem dX10_closes_45 : decode cX10_closes 45 = .ok (.dup2, 1) := by decide +kernel
theorem dX10_closes_46 : decode cX10_closes 46 = .ok (.iaload, 1) := by decide +kernel
theorem dX10_closes_47 : decode cX10_closes 47 = .ok (.iconst 1, 1) := by decide +kernel
theorem dX10_closes_48 : decode cX10_closes 48 = .ok (.iload_n 2, 1) := by decide +kernel
theorem dX10_closes_49 : decode cX10_closes 49 = .ok (.ishl, 1) := by decide +kernel
theorem dX10_closes_50 : decode cX10_closes 50 = .ok (.iconst (-1), 1) := by decide +kernel
theorem dX10_closes_51 : decode cX10_closes 51 = .ok (.ixor, 1) := by decide +kernel
theorem dX10_closes_52 : decode cX10_closes 52 = .ok (.iand, 1) := by decide +kernel
theorem dX10_closes_53 : decode cX10_closes 53 = .ok (.iastore, 1) := by decide +kernel
theorem dX10_closes_54 : decode cX10_closes 54 = .ok (.iinc 4 1, 3) := by decide +kernel
theorem dX10_closes_57 : decode cX10_closes 57 = .ok (.goto (-30), 3) := by decide +kernel
theorem dX10_closes_60 : decode cX10_closes 60 = .ok (.return_, 1) := by decide +kernel
theorem dX10_hasIt_0 : decode cX10_hasIt 0 = .ok (.bipush 8, 2) := by decide +kernel
theorem dX10_hasIt_2 : decode cX10_hasIt 2 = .ok (.iload_n 1, 1) := by decide +kernel
theorem dX10_hasIt_3 : decode cX10_hasIt 3 = .ok (.imul, 1) := by decide +kernel
theorem dX10_hasIt_4 : decode cX10_hasIt 4 = .ok (.iload_n 2, 1) := by decide +kernel
theorem dX10_hasIt_5 : decode cX10_hasIt 5 = .ok (.iadd, 1) := by decide +kernel
theorem dX10_hasIt_6 : decode cX10_hasIt 6 = .ok (.istore_n 3, 1) := by decide +kernel
theorem dX10_hasIt_7 : decode cX10_hasIt 7 = .ok (.aload_n 0, 1) := by decide +kernel
theorem dX10_hasIt_8 : decode cX10_hasIt 8 = .ok (.iload_n 1, 1) := by decide +kernel
theorem dX10_hasIt_9 : decode cX10_hasIt 9 = .ok (.iload_n 2, 1) := by decide +kernel
theorem dX10_hasIt_10 : decode cX10_hasIt 10 = .ok (.invokevirtual 402, 3) := by decide +kernel
theorem dX10_hasIt_13 : decode cX10_hasIt 13 = .ok (.ifCond .eq 32, 3) := by decide +kernel
theorem dX10_hasIt_16 : decode cX10_hasIt 16 = .ok (.aload_n 0, 1) := by decide +kernel
theorem dX10_hasIt_17 : decode cX10_hasIt 17 = .ok (.getfield 93, 3) := by decide +kernel
theorem dX10_hasIt_20 : decode cX10_hasIt 20 = .ok (.bipush 6, 2) := by decide +kernel
theorem dX10_hasIt_22 : decode cX10_hasIt 22 = .ok (.iload_n 1, 1) := by decide +kernel
theorem dX10_hasIt_23 : decode cX10_hasIt 23 = .ok (.imul, 1) := by decide +kernel
theorem dX10_hasIt_24 : decode cX10_hasIt 24 = .ok (.aload_n 0, 1) := by decide +kernel
theorem dX10_hasIt_25 : decode cX10_hasIt 25 = .ok (.getfield 105, 3) := by decide +kernel
theorem dX10_hasIt_28 : decode cX10_hasIt 28 = .ok (.iload_n 3, 1) := by decide +kernel
theorem dX10_hasIt_29 : decode cX10_hasIt 29 = .ok (.iaload, 1) := by decide +kernel
theorem dX10_hasIt_30 : decode cX10_hasIt 30 = .ok (.iadd, 1) := by decide +kernel
theorem dX10_hasIt_31 : decode cX10_hasIt 31 = .ok (.iaload, 1) := by decide +kernel
theorem dX10_hasIt_32 : decode cX10_hasIt 32 = .ok (.aload_n 0, 1) := by decide +kernel
theorem dX10_hasIt_33 : decode cX10_hasIt 33 = .ok (.getfield 120, 3) := by decide +kernel
theorem dX10_hasIt_36 : decode cX10_hasIt 36 = .ok (.iload_n 3, 1) := by decide +kernel
theorem dX10_hasIt_37 : decode cX10_hasIt 37 = .ok (.iaload, 1) := by decide +kernel
theorem dX10_hasIt_38 : decode cX10_hasIt 38 = .ok (.if_icmp .lt 7, 3) := by decide +kernel
theorem dX10_hasIt_41 : decode cX10_hasIt 41 = .ok (.iconst 1, 1) := by decide +kernel
theorem dX10_hasIt_42 : decode cX10_hasIt 42 = .ok (.goto 4, 3) := by decide +kernel
theorem dX10_hasIt_45 : decode cX10_hasIt 45 = .ok (.iconst 0, 1) := by decide +kernel
theorem dX10_hasIt_46 : decode cX10_hasIt 46 = .ok (.ireturn, 1) := by decide +kernel
theorem dX10_pays_0 : decode cX10_pays 0 = .ok (.bipush 8, 2) := by decide +kernel
theorem dX10_pays_2 : decode cX10_pays 2 = .ok (.iload_n 1, 1) := by decide +kernel
theorem dX10_pays_3 : decode cX10_pays 3 = .ok (.imul, 1) := by decide +kernel
theorem dX10_pays_4 : decode cX10_pays 4 = .ok (.iload_n 2, 1) := by decide +kernel
theorem dX10_pays_5 : decode cX10_pays 5 = .ok (.iadd, 1) := by decide +kernel
theorem dX10_pays_6 : decode cX10_pays 6 = .ok (.istore_n 3, 1) := by decide +kernel
theorem dX10_pays_7 : decode cX10_pays 7 = .ok (.aload_n 0, 1) := by decide +kernel
theorem dX10_pays_8 : decode cX10_pays 8 = .ok (.getfield 120, 3) := by decide +kernel
theorem dX10_pays_11 : decode cX10_pays 11 = .ok (.iload_n 3, 1) := by decide +kernel
theorem dX10_pays_12 : decode cX10_pays 12 = .ok (.iaload, 1) := by decide +kernel
theorem dX10_pays_13 : decode cX10_pays 13 = .ok (.istore 4, 2) := by decide +kernel
theorem dX10_pays_15 : decode cX10_pays 15 = .ok (.aload_n 0, 1) := by decide +kernel
theorem dX10_pays_16 : decode cX10_pays 16 = .ok (.getfield 93, 3) := by decide +kernel
theorem dX10_pays_19 : decode cX10_pays 19 = .ok (.bipush 6, 2) := by decide +kernel
theorem dX10_pays_21 : decode cX10_pays 21 = .ok (.iload_n 1, 1) := by decide +kernel
theorem dX10_pays_22 : decode cX10_pays 22 = .ok (.imul, 1) := by decide +kernel
theorem dX10_pays_23 : decode cX10_pays 23 = .ok (.aload_n 0, 1) := by decide +kernel
theorem dX10_pays_24 : decode cX10_pays 24 = .ok (.getfield 105, 3) := by decide +kernel
theorem dX10_pays_27 : decode cX10_pays 27 = .ok (.iload_n 3, 1) := by decide +kernel
theorem dX10_pays_28 : decode cX10_pays 28 = .ok (.iaload, 1) := by decide +kernel
theorem dX10_pays_29 : decode cX10_pays 29 = .ok (.iadd, 1) := by decide +kernel
theorem dX10_pays_30 : decode cX10_pays 30 = .ok (.dup2, 1) := by decide +kernel
theorem dX10_pays_31 : decode cX10_pays 31 = .ok (.iaload, 1) := by decide +kernel
theorem dX10_pays_32 : decode cX10_pays 32 = .ok (.iload 4, 2) := by decide +kernel
theorem dX10_pays_34 : decode cX10_pays 34 = .ok (.isub, 1) := by decide +kernel
theorem dX10_pays_35 : decode cX10_pays 35 = .ok (.iastore, 1) := by decide +kernel
theorem dX10_pays_36 : decode cX10_pays 36 = .ok (.aload_n 0, 1) := by decide +kernel
theorem dX10_pays_37 : decode cX10_pays 37 = .ok (.getfield 93, 3) := by decide +kernel
theorem dX10_pays_40 : decode cX10_pays 40 = .ok (.bipush 6, 2) := by decide +kernel
theorem dX10_pays_42 : decode cX10_pays 42 = .ok (.iload_n 1, 1) := by decide +kernel
theorem dX10_pays_43 : decode cX10_pays 43 = .ok (.imul, 1) := by decide +kernel
theorem dX10_pays_44 : decode cX10_pays 44 = .ok (.aload_n 0, 1) := by decide +kernel
theorem dX10_pays_45 : decode cX10_pays 45 = .ok (.getfield 102, 3) := by decide +kernel
theorem dX10_pays_48 : decode cX10_pays 48 = .ok (.iload_n 3, 1) := by decide +kernel
theorem dX10_pays_49 : decode cX10_pays 49 = .ok (.iaload, 1) := by decide +kernel
theorem dX10_pays_50 : decode cX10_pays 50 = .ok (.iadd, 1) := by decide +kernel
theorem dX10_pays_51 : decode cX10_pays 51 = .ok (.dup2, 1) := by decide +kernel
theorem dX10_pays_52 : decode cX10_pays 52 = .ok (.iaload, 1) := by decide +kernel
theorem dX10_pays_53 : decode cX10_pays 53 = .ok (.iload 4, 2) := by decide +kernel
theorem dX10_pays_55 : decode cX10_pays 55 = .ok (.iadd, 1) := by decide +kernel
theorem dX10_pays_56 : decode cX10_pays 56 = .ok (.iastore, 1) := by decide +kernel
theorem dX10_pays_57 : decode cX10_pays 57 = .ok (.aload_n 0, 1) := by decide +kernel
theorem dX10_pays_58 : decode cX10_pays 58 = .ok (.iload_n 1, 1) := by decide +kernel
theorem dX10_pays_59 : decode cX10_pays 59 = .ok (.iload_n 2, 1) := by decide +kernel
theorem dX10_pays_60 : decode cX10_pays 60 = .ok (.iconst 2, 1) := by decide +kernel
theorem dX10_pays_61 : decode cX10_pays 61 = .ok (.invokevirtual 405, 3) := by decide +kernel
theorem dX10_pays_64 : decode cX10_pays 64 = .ok (.iload 4, 2) := by decide +kernel
theorem dX10_pays_66 : decode cX10_pays 66 = .ok (.ireturn, 1) := by decide +kernel
theorem dX10_doesPay_0 : decode cX10_doesPay 0 = .ok (.aload_n 0, 1) := by decide +kernel
theorem dX10_doesPay_1 : decode cX10_doesPay 1 = .ok (.iload_n 1, 1) := by decide +kernel
theorem dX10_doesPay_2 : decode cX10_doesPay 2 = .ok (.iload_n 2, 1) := by decide +kernel
theorem dX10_doesPay_3 : decode cX10_doesPay 3 = .ok (.invokevirtual 408, 3) := by decide +kernel
theorem dX10_doesPay_6 : decode cX10_doesPay 6 = .ok (.ifCond .eq 11, 3) := by decide +kernel
theorem dX10_doesPay_9 : decode cX10_doesPay 9 = .ok (.aload_n 0, 1) := by decide +kernel
theorem dX10_doesPay_10 : decode cX10_doesPay 10 = .ok (.getfield 388, 3) := by decide +kernel
theorem dX10_doesPay_13 : decode cX10_doesPay 13 = .ok (.iconst 4, 1) := by decide +kernel
theorem dX10_doesPay_14 : decode cX10_doesPay 14 = .ok (.if_icmp .ne 5, 3) := by decide +kernel
theorem dX10_doesPay_17 : decode cX10_doesPay 17 = .ok (.iconst 0, 1) := by decide +kernel
theorem dX10_doesPay_18 : decode cX10_doesPay 18 = .ok (.ireturn, 1) := by decide +kernel
theorem dX10_doesPay_19 : decode cX10_doesPay 19 = .ok (.aload_n 0, 1) := by decide +kernel
theorem dX10_doesPay_20 : decode cX10_doesPay 20 = .ok (.iload_n 1, 1) := by decide +kernel
theorem dX10_doesPay_21 : decode cX10_doesPay 21 = .ok (.iload_n 2, 1) := by decide +kernel
theorem dX10_doesPay_22 : decode cX10_doesPay 22 = .ok (.invokevirtual 411, 3) := by decide +kernel
theorem dX10_doesPay_25 : decode cX10_doesPay 25 = .ok (.aload_n 0, 1) := by decide +kernel
theorem dX10_doesPay_26 : decode cX10_doesPay 26 = .ok (.iconst 1, 1) := by decide +kernel
theorem dX10_doesPay_27 : decode cX10_doesPay 27 = .ok (.invokevirtual 371, 3) := by decide +kernel
theorem dX10_doesPay_30 : decode cX10_doesPay 30 = .ok (.ifCond .eq 30, 3) := by decide +kernel
theorem dX10_doesPay_33 : decode cX10_doesPay 33 = .ok (.aload_n 0, 1) := by decide +kernel
theorem dX10_doesPay_34 : decode cX10_doesPay 34 = .ok (.iconst 1, 1) := by decide +kernel
theorem dX10_doesPay_35 : decode cX10_doesPay 35 = .ok (.invokevirtual 374, 3) := by decide +kernel
theorem dX10_doesPay_38 : decode cX10_doesPay 38 = .ok (.ifCond .eq 22, 3) := by decide +kernel
theorem dX10_doesPay_41 : decode cX10_doesPay 41 = .ok (.aload_n 0, 1) := by decide +kernel
theorem dX10_doesPay_42 : decode cX10_doesPay 42 = .ok (.getfield 78, 3) := by decide +kernel
theorem dX10_doesPay_45 : decode cX10_doesPay 45 = .ok (.iconst 0, 1) := by decide +kernel
theorem dX10_doesPay_46 : decode cX10_doesPay 46 = .ok (.laload, 1) := by decide +kernel
theorem dX10_doesPay_47 : decode cX10_doesPay 47 = .ok (.lconst 0, 1) := by decide +kernel
theorem dX10_doesPay_48 : decode cX10_doesPay 48 = .ok (.lcmp, 1) := by decide +kernel
theorem dX10_doesPay_49 : decode cX10_doesPay 49 = .ok (.ifCond .eq 7, 3) := by decide +kernel
theorem dX10_doesPay_52 : decode cX10_doesPay 52 = .ok (.iconst 1, 1) := by decide +kernel
theorem dX10_doesPay_53 : decode cX10_doesPay 53 = .ok (.goto 34, 3) := by decide +kernel
theorem dX10_doesPay_56 : decode cX10_doesPay 56 = .ok (.iconst 0, 1) := by decide +kernel
theorem dX10_doesPay_57 : decode cX10_doesPay 57 = .ok (.goto 30, 3) := by decide +kernel
theorem dX10_doesPay_60 : decode cX10_doesPay 60 = .ok (.aload_n 0, 1) := by decide +kernel
theorem dX10_doesPay_61 : decode cX10_doesPay 61 = .ok (.getfield 81, 3) := by decide +kernel
theorem dX10_doesPay_64 : decode cX10_doesPay 64 = .ok (.iload_n 1, 1) := by decide +kernel
theorem dX10_doesPay_65 : decode cX10_doesPay 65 = .ok (.iaload, 1) := by decide +kernel
theorem dX10_doesPay_66 : decode cX10_doesPay 66 = .ok (.aload_n 0, 1) := by decide +kernel
theorem dX10_doesPay_67 : decode cX10_doesPay 67 = .ok (.getfield 114, 3) := by decide +kernel
theorem dX10_doesPay_70 : decode cX10_doesPay 70 = .ok (.bipush 8, 2) := by decide +kernel
theorem dX10_doesPay_72 : decode cX10_doesPay 72 = .ok (.iload_n 1, 1) := by decide +kernel
theorem dX10_doesPay_73 : decode cX10_doesPay 73 = .ok (.imul, 1) := by decide +kernel
theorem dX10_doesPay_74 : decode cX10_doesPay 74 = .ok (.iload_n 2, 1) := by decide +kernel
theorem dX10_doesPay_75 : decode cX10_doesPay 75 = .ok (.iadd, 1) := by decide +kernel
theorem dX10_doesPay_76 : decode cX10_doesPay 76 = .ok (.iaload, 1) := by decide +kernel
theorem dX10_doesPay_77 : decode cX10_doesPay 77 = .ok (.isub, 1) := by decide +kernel
theorem dX10_doesPay_78 : decode cX10_doesPay 78 = .ok (.iconst 5, 1) := by decide +kernel
theorem dX10_doesPay_79 : decode cX10_doesPay 79 = .ok (.if_icmp .lt 7, 3) := by decide +kernel
theorem dX10_doesPay_82 : decode cX10_doesPay 82 = .ok (.iconst 1, 1) := by decide +kernel
theorem dX10_doesPay_83 : decode cX10_doesPay 83 = .ok (.goto 4, 3) := by decide +kernel
theorem dX10_doesPay_86 : decode cX10_doesPay 86 = .ok (.iconst 0, 1) := by decide +kernel
theorem dX10_doesPay_87 : decode cX10_doesPay 87 = .ok (.ireturn, 1) := by decide +kernel
theorem dX10_fallsIll_0 : decode cX10_fallsIll 0 = .ok (.aload_n 0, 1) := by decide +kernel
theorem dX10_fallsIll_1 : decode cX10_fallsIll 1 = .ok (.iload_n 1, 1) := by decide +kernel
theorem dX10_fallsIll_2 : decode cX10_fallsIll 2 = .ok (.iload_n 2, 1) := by decide +kernel
theorem dX10_fallsIll_3 : decode cX10_fallsIll 3 = .ok (.invokevirtual 414, 3) := by decide +kernel
theorem dX10_fallsIll_6 : decode cX10_fallsIll 6 = .ok (.istore 4, 2) := by decide +kernel
theorem dX10_fallsIll_8 : decode cX10_fallsIll 8 = .ok (.iload_n 3, 1) := by decide +kernel
theorem dX10_fallsIll_9 : decode cX10_fallsIll 9 = .ok (.ifCond .eq 15, 3) := by decide +kernel
theorem dX10_fallsIll_12 : decode cX10_fallsIll 12 = .ok (.iload 4, 2) := by decide +kernel
theorem dX10_fallsIll_14 : decode cX10_fallsIll 14 = .ok (.ifCond .eq 10, 3) := by decide +kernel
theorem dX10_fallsIll_17 : decode cX10_fallsIll 17 = .ok (.iload 4, 2) := by decide +kernel
theorem dX10_fallsIll_19 : decode cX10_fallsIll 19 = .ok (.bipush 100, 2) := by decide +kernel
theorem dX10_fallsIll_21 : decode cX10_fallsIll 21 = .ok (.if_icmp .ne 16, 3) := by decide +kernel
theorem dX10_fallsIll_24 : decode cX10_fallsIll 24 = .ok (.iload 4, 2) := by decide +kernel
theorem dX10_fallsIll_26 : decode cX10_fallsIll 26 = .ok (.bipush 50, 2) := by decide +kernel
theorem dX10_fallsIll_28 : decode cX10_fallsIll 28 = .ok (.if_icmp .lt 7, 3) := by decide +kernel
theorem dX10_fallsIll_31 : decode cX10_fallsIll 31 = .ok (.iconst 1, 1) := by decide +kernel
theorem dX10_fallsIll_32 : decode cX10_fallsIll 32 = .ok (.goto 4, 3) := by decide +kernel
theorem dX10_fallsIll_35 : decode cX10_fallsIll 35 = .ok (.iconst 0, 1) := by decide +kernel
theorem dX10_fallsIll_36 : decode cX10_fallsIll 36 = .ok (.ireturn, 1) := by decide +kernel
theorem dX10_fallsIll_37 : decode cX10_fallsIll 37 = .ok (.aload_n 0, 1) := by decide +kernel
theorem dX10_fallsIll_38 : decode cX10_fallsIll 38 = .ok (.getfield 84, 3) := by decide +kernel
theorem dX10_fallsIll_41 : decode cX10_fallsIll 41 = .ok (.iload_n 1, 1) := by decide +kernel
theorem dX10_fallsIll_42 : decode cX10_fallsIll 42 = .ok (.aload_n 0, 1) := by decide +kernel
theorem dX10_fallsIll_43 : decode cX10_fallsIll 43 = .ok (.getfield 84, 3) := by decide +kernel
theorem dX10_fallsIll_46 : decode cX10_fallsIll 46 = .ok (.iload_n 1, 1) := by decide +kernel
theorem dX10_fallsIll_47 : decode cX10_fallsIll 47 = .ok (.iaload, 1) := by decide +kernel
theorem dX10_fallsIll_48 : decode cX10_fallsIll 48 = .ok (.ldc_w 417, 3) := by decide +kernel
theorem dX10_fallsIll_51 : decode cX10_fallsIll 51 = .ok (.imul, 1) := by decide +kernel
theorem dX10_fallsIll_52 : decode cX10_fallsIll 52 = .ok (.sipush 12345, 3) := by decide +kernel
theorem dX10_fallsIll_55 : decode cX10_fallsIll 55 = .ok (.iadd, 1) := by decide +kernel
theorem dX10_fallsIll_56 : decode cX10_fallsIll 56 = .ok (.ldc_w 420, 3) := by decide +kernel
theorem dX10_fallsIll_59 : decode cX10_fallsIll 59 = .ok (.iand, 1) := by decide +kernel
theorem dX10_fallsIll_60 : decode cX10_fallsIll 60 = .ok (.iastore, 1) := by decide +kernel
theorem dX10_fallsIll_61 : decode cX10_fallsIll 61 = .ok (.aload_n 0, 1) := by decide +kernel
theorem dX10_fallsIll_62 : decode cX10_fallsIll 62 = .ok (.getfield 84, 3) := by decide +kernel
theorem dX10_fallsIll_65 : decode cX10_fallsIll 65 = .ok (.iload_n 1, 1) := by decide +kernel
theorem dX10_fallsIll_66 : decode cX10_fallsIll 66 = .ok (.iaload, 1) := by decide +kernel
theorem dX10_fallsIll_67 : decode cX10_fallsIll 67 = .ok (.bipush 16, 2) := by decide +kernel
theorem dX10_fallsIll_69 : decode cX10_fallsIll 69 = .ok (.ishr, 1) := by decide +kernel
theorem dX10_fallsIll_70 : decode cX10_fallsIll 70 = .ok (.bipush 100, 2) := by decide +kernel
theorem dX10_fallsIll_72 : decode cX10_fallsIll 72 = .ok (.irem, 1) := by decide +kernel
theorem dX10_fallsIll_73 : decode cX10_fallsIll 73 = .ok (.iload 4, 2) := by decide +kernel
theorem dX10_fallsIll_75 : decode cX10_fallsIll 75 = .ok (.if_icmp .ge 7, 3) := by decide +kernel
theorem dX10_fallsIll_78 : decode cX10_fallsIll 78 = .ok (.iconst 1, 1) := by decide +kernel
theorem dX10_fallsIll_79 : decode cX10_fallsIll 79 = .ok (.goto 4, 3) := by decide +kernel
theorem dX10_fallsIll_82 : decode cX10_fallsIll 82 = .ok (.iconst 0, 1) := by decide +kernel
theorem dX10_fallsIll_83 : decode cX10_fallsIll 83 = .ok (.ireturn, 1) := by decide +kernel
theorem dX10_tenth_0 : decode cX10_tenth 0 = .ok (.iconst 0, 1) := by decide +kernel
theorem dX10_tenth_1 : decode cX10_tenth 1 = .ok (.istore_n 3, 1) := by decide +kernel
theorem dX10_tenth_2 : decode cX10_tenth 2 = .ok (.iload_n 3, 1) := by decide +kernel
theorem dX10_tenth_3 : decode cX10_tenth 3 = .ok (.aload_n 0, 1) := by decide +kernel
theorem dX10_tenth_4 : decode cX10_tenth 4 = .ok (.getfield 87, 3) := by decide +kernel
theorem dX10_tenth_7 : decode cX10_tenth 7 = .ok (.iload_n 1, 1) := by decide +kernel
theorem dX10_tenth_8 : decode cX10_tenth 8 = .ok (.iaload, 1) := by decide +kernel
theorem dX10_tenth_9 : decode cX10_tenth 9 = .ok (.if_icmp .ge 64, 3) := by decide +kernel
theorem dX10_tenth_12 : decode cX10_tenth 12 = .ok (.bipush 8, 2) := by decide +kernel
theorem dX10_tenth_14 : decode cX10_tenth 14 = .ok (.iload_n 1, 1) := by decide +kernel
theorem dX10_tenth_15 : decode cX10_tenth 15 = .ok (.imul, 1) := by decide +kernel
theorem dX10_tenth_16 : decode cX10_tenth 16 = .ok (.iload_n 3, 1) := by decide +kernel
theorem dX10_tenth_17 : decode cX10_tenth 17 = .ok (.iadd, 1) := by decide +kernel
theorem dX10_tenth_18 : decode cX10_tenth 18 = .ok (.istore 4, 2) := by decide +kernel
theorem dX10_tenth_20 : decode cX10_tenth 20 = .ok (.aload_n 0, 1) := by decide +kernel
theorem dX10_tenth_21 : decode cX10_tenth 21 = .ok (.iload_n 1, 1) := by decide +kernel
theorem dX10_tenth_22 : decode cX10_tenth 22 = .ok (.iload_n 3, 1) := by decide +kernel
theorem dX10_tenth_23 : decode cX10_tenth 23 = .ok (.invokevirtual 402, 3) := by decide +kernel
theorem dX10_tenth_26 : decode cX10_tenth 26 = .ok (.ifCond .eq 41, 3) := by decide +kernel
theorem dX10_tenth_29 : decode cX10_tenth 29 = .ok (.aload_n 0, 1) := by decide +kernel
theorem dX10_tenth_30 : decode cX10_tenth 30 = .ok (.getfield 120, 3) := by decide +kernel
theorem dX10_tenth_33 : decode cX10_tenth 33 = .ok (.iload 4, 2) := by decide +kernel
theorem dX10_tenth_35 : decode cX10_tenth 35 = .ok (.sipush 9999, 3) := by decide +kernel
theorem dX10_tenth_38 : decode cX10_tenth 38 = .ok (.aload_n 0, 1) := by decide +kernel
theorem dX10_tenth_39 : decode cX10_tenth 39 = .ok (.getfield 120, 3) := by decide +kernel
theorem dX10_tenth_42 : decode cX10_tenth 42 = .ok (.iload 4, 2) := by decide +kernel
theorem dX10_tenth_44 : decode cX10_tenth 44 = .ok (.iaload, 1) := by decide +kernel
theorem dX10_tenth_45 : decode cX10_tenth 45 = .ok (.aload_n 0, 1) := by decide +kernel
theorem dX10_tenth_46 : decode cX10_tenth 46 = .ok (.getfield 120, 3) := by decide +kernel
theorem dX10_tenth_49 : decode cX10_tenth 49 = .ok (.iload 4, 2) := by decide +kernel
theorem dX10_tenth_51 : decode cX10_tenth 51 = .ok (.iaload, 1) := by decide +kernel
theorem dX10_tenth_52 : decode cX10_tenth 52 = .ok (.aload_n 0, 1) := by decide +kernel
theorem dX10_tenth_53 : decode cX10_tenth 53 = .ok (.getfield 13, 3) := by decide +kernel
theorem dX10_tenth_56 : decode cX10_tenth 56 = .ok (.iconst 4, 1) := by decide +kernel
theorem dX10_tenth_57 : decode cX10_tenth 57 = .ok (.iaload, 1) := by decide +kernel
theorem dX10_tenth_58 : decode cX10_tenth 58 = .ok (.imul, 1) := by decide +kernel
theorem dX10_tenth_59 : decode cX10_tenth 59 = .ok (.bipush 100, 2) := by decide +kernel
theorem dX10_tenth_61 : decode cX10_tenth 61 = .ok (.idiv, 1) := by decide +kernel
theorem dX10_tenth_62 : decode cX10_tenth 62 = .ok (.iadd, 1) := by decide +kernel
theorem dX10_tenth_63 : decode cX10_tenth 63 = .ok (.invokestatic 421, 3) := by decide +kernel
theorem dX10_tenth_66 : decode cX10_tenth 66 = .ok (.iastore, 1) := by decide +kernel
theorem dX10_tenth_67 : decode cX10_tenth 67 = .ok (.iinc 3 1, 3) := by decide +kernel
theorem dX10_tenth_70 : decode cX10_tenth 70 = .ok (.goto (-68), 3) := by decide +kernel
theorem dX10_tenth_73 : decode cX10_tenth 73 = .ok (.iconst 0, 1) := by decide +kernel
theorem dX10_tenth_74 : decode cX10_tenth 74 = .ok (.istore_n 3, 1) := by decide +kernel
theorem dX10_tenth_75 : decode cX10_tenth 75 = .ok (.iload_n 3, 1) := by decide +kernel
theorem dX10_tenth_76 : decode cX10_tenth 76 = .ok (.aload_n 0, 1) := by decide +kernel
theorem dX10_tenth_77 : decode cX10_tenth 77 = .ok (.getfield 13, 3) := by decide +kernel
theorem dX10_tenth_80 : decode cX10_tenth 80 = .ok (.iconst 1, 1) := by decide +kernel
theorem dX10_tenth_81 : decode cX10_tenth 81 = .ok (.iaload, 1) := by decide +kernel
theorem dX10_tenth_82 : decode cX10_tenth 82 = .ok (.if_icmp .ge 74, 3) := by decide +kernel
theorem dX10_tenth_85 : decode cX10_tenth 85 = .ok (.aload_n 0, 1) := by decide +kernel
theorem dX10_tenth_86 : decode cX10_tenth 86 = .ok (.iload_n 1, 1) := by decide +kernel
theorem dX10_tenth_87 : decode cX10_tenth 87 = .ok (.iload_n 3, 1) := by decide +kernel
theorem dX10_tenth_88 : decode cX10_tenth 88 = .ok (.invokevirtual 391, 3) := by decide +kernel
theorem dX10_tenth_91 : decode cX10_tenth 91 = .ok (.ifCond .ne 6, 3) := by decide +kernel
theorem dX10_tenth_94 : decode cX10_tenth 94 = .ok (.goto 56, 3) := by decide +kernel
theorem dX10_tenth_97 : decode cX10_tenth 97 = .ok (.aload_n 0, 1) := by decide +kernel
theorem dX10_tenth_98 : decode cX10_tenth 98 = .ok (.getfield 96, 3) := by decide +kernel
theorem dX10_tenth_101 : decode cX10_tenth 101 = .ok (.bipush 6, 2) := by decide +kernel
theorem dX10_tenth_103 : decode cX10_tenth 103 = .ok (.iload_n 1, 1) := by decide +kernel
theorem dX10_tenth_104 : decode cX10_tenth 104 = .ok (.imul, 1) := by decide +kernel
theorem dX10_tenth_105 : decode cX10_tenth 105 = .ok (.iload_n 3, 1) := by decide +kernel
theorem dX10_tenth_106 : decode cX10_tenth 106 = .ok (.iadd, 1) := by decide +kernel
theorem dX10_tenth_107 : decode cX10_tenth 107 = .ok (.bipush 99, 2) := by decide +kernel
theorem dX10_tenth_109 : decode cX10_tenth 109 = .ok (.aload_n 0, 1) := by decide +kernel
theorem dX10_tenth_110 : decode cX10_tenth 110 = .ok (.getfield 96, 3) := by decide +kernel
theorem dX10_tenth_113 : decode cX10_tenth 113 = .ok (.bipush 6, 2) := by decide +kernel
theorem dX10_tenth_115 : decode cX10_tenth 115 = .ok (.iload_n 1, 1) := by decide +kernel
theorem dX10_tenth_116 : decode cX10_tenth 116 = .ok (.imul, 1) := by decide +kernel
theorem dX10_tenth_117 : decode cX10_tenth 117 = .ok (.iload_n 3, 1) := by decide +kernel
theorem dX10_tenth_118 : decode cX10_tenth 118 = .ok (.iadd, 1) := by decide +kernel
theorem dX10_tenth_119 : decode cX10_tenth 119 = .ok (.iaload, 1) := by decide +kernel
theorem dX10_tenth_120 : decode cX10_tenth 120 = .ok (.iconst 1, 1) := by decide +kernel
theorem dX10_tenth_121 : decode cX10_tenth 121 = .ok (.iadd, 1) := by decide +kernel
theorem dX10_tenth_122 : decode cX10_tenth 122 = .ok (.invokestatic 421, 3) := by decide +kernel
theorem dX10_tenth_125 : decode cX10_tenth 125 = .ok (.iastore, 1) := by decide +kernel
theorem dX10_tenth_126 : decode cX10_tenth 126 = .ok (.aload_n 0, 1) := by decide +kernel
theorem dX10_tenth_127 : decode cX10_tenth 127 = .ok (.getfield 388, 3) := by decide +kernel
theorem dX10_tenth_130 : decode cX10_tenth 130 = .ok (.iconst 1, 1) := by decide +kernel
theorem dX10_tenth_131 : decode cX10_tenth 131 = .ok (.if_icmp .eq 19, 3) := by decide +kernel
theorem dX10_tenth_134 : decode cX10_tenth 134 = .ok (.aload_n 0, 1) := by decide +kernel
theorem dX10_tenth_135 : decode cX10_tenth 135 = .ok (.iload_n 1, 1) := by decide +kernel
theorem dX10_tenth_136 : decode cX10_tenth 136 = .ok (.iload_n 3, 1) := by decide +kernel
theorem dX10_tenth_137 : decode cX10_tenth 137 = .ok (.iload_n 2, 1) := by decide +kernel
theorem dX10_tenth_138 : decode cX10_tenth 138 = .ok (.invokevirtual 423, 3) := by decide +kernel
theorem dX10_tenth_141 : decode cX10_tenth 141 = .ok (.ifCond .eq 9, 3) := by decide +kernel
theorem dX10_tenth_144 : decode cX10_tenth 144 = .ok (.aload_n 0, 1) := by decide +kernel
theorem dX10_tenth_145 : decode cX10_tenth 145 = .ok (.iload_n 1, 1) := by decide +kernel
theorem dX10_tenth_146 : decode cX10_tenth 146 = .ok (.iload_n 3, 1) := by decide +kernel
theorem dX10_tenth_147 : decode cX10_tenth 147 = .ok (.invokevirtual 427, 3) := by decide +kernel
theorem dX10_tenth_150 : decode cX10_tenth 150 = .ok (.iinc 3 1, 3) := by decide +kernel
theorem dX10_tenth_153 : decode cX10_tenth 153 = .ok (.goto (-78), 3) := by decide +kernel
theorem dX10_tenth_156 : decode cX10_tenth 156 = .ok (.return_, 1) := by decide +kernel
theorem dX10_passes_0 : decode cX10_passes 0 = .ok (.iconst 0, 1) := by decide +kernel
theorem dX10_passes_1 : decode cX10_passes 1 = .ok (.istore_n 3, 1) := by decide +kernel
theorem dX10_passes_2 : decode cX10_passes 2 = .ok (.iload_n 3, 1) := by decide +kernel
theorem dX10_passes_3 : decode cX10_passes 3 = .ok (.aload_n 0, 1) := by decide +kernel
theorem dX10_passes_4 : decode cX10_passes 4 = .ok (.getfield 87, 3) := by decide +kernel
theorem dX10_passes_7 : decode cX10_passes 7 = .ok (.iload_n 1, 1) := by decide +kernel
theorem dX10_passes_8 : decode cX10_passes 8 = .ok (.iaload, 1) := by decide +kernel
theorem dX10_passes_9 : decode cX10_passes 9 = .ok (.if_icmp .ge 49, 3) := by decide +kernel
theorem dX10_passes_12 : decode cX10_passes 12 = .ok (.aload_n 0, 1) := by decide +kernel
theorem dX10_passes_13 : decode cX10_passes 13 = .ok (.getfield 117, 3) := by decide +kernel
theorem dX10_passes_16 : decode cX10_passes 16 = .ok (.bipush 8, 2) := by decide +kernel
theorem dX10_passes_18 : decode cX10_passes 18 = .ok (.iload_n 1, 1) := by decide +kernel
theorem dX10_passes_19 : decode cX10_passes 19 = .ok (.imul, 1) := by decide +kernel
theorem dX10_passes_20 : decode cX10_passes 20 = .ok (.iload_n 3, 1) := by decide +kernel
theorem dX10_passes_21 : decode cX10_passes 21 = .ok (.iadd, 1) := by decide +kernel
theorem dX10_passes_22 : decode cX10_passes 22 = .ok (.iaload, 1) := by decide +kernel
theorem dX10_passes_23 : decode cX10_passes 23 = .ok (.ifCond .ne 29, 3) := by decide +kernel
theorem dX10_passes_26 : decode cX10_passes 26 = .ok (.aload_n 0, 1) := by decide +kernel
theorem dX10_passes_27 : decode cX10_passes 27 = .ok (.getfield 114, 3) := by decide +kernel
theorem dX10_passes_30 : decode cX10_passes 30 = .ok (.bipush 8, 2) := by decide +kernel
theorem dX10_passes_32 : decode cX10_passes 32 = .ok (.iload_n 1, 1) := by decide +kernel
theorem dX10_passes_33 : decode cX10_passes 33 = .ok (.imul, 1) := by decide +kernel
theorem dX10_passes_34 : decode cX10_passes 34 = .ok (.iload_n 3, 1) := by decide +kernel
theorem dX10_passes_35 : decode cX10_passes 35 = .ok (.iadd, 1) := by decide +kernel
theorem dX10_passes_36 : decode cX10_passes 36 = .ok (.iaload, 1) := by decide +kernel
theorem dX10_passes_37 : decode cX10_passes 37 = .ok (.aload_n 0, 1) := by decide +kernel
theorem dX10_passes_38 : decode cX10_passes 38 = .ok (.getfield 81, 3) := by decide +kernel
theorem dX10_passes_41 : decode cX10_passes 41 = .ok (.iload_n 1, 1) := by decide +kernel
theorem dX10_passes_42 : decode cX10_passes 42 = .ok (.iaload, 1) := by decide +kernel
theorem dX10_passes_43 : decode cX10_passes 43 = .ok (.if_icmp .ne 9, 3) := by decide +kernel
theorem dX10_passes_46 : decode cX10_passes 46 = .ok (.aload_n 0, 1) := by decide +kernel
theorem dX10_passes_47 : decode cX10_passes 47 = .ok (.iload_n 1, 1) := by decide +kernel
theorem dX10_passes_48 : decode cX10_passes 48 = .ok (.iload_n 3, 1) := by decide +kernel
theorem dX10_passes_49 : decode cX10_passes 49 = .ok (.invokevirtual 430, 3) := by decide +kernel
theorem dX10_passes_52 : decode cX10_passes 52 = .ok (.iinc 3 1, 3) := by decide +kernel
theorem dX10_passes_55 : decode cX10_passes 55 = .ok (.goto (-53), 3) := by decide +kernel
theorem dX10_passes_58 : decode cX10_passes 58 = .ok (.iconst 0, 1) := by decide +kernel
theorem dX10_passes_59 : decode cX10_passes 59 = .ok (.istore_n 3, 1) := by decide +kernel
theorem dX10_passes_60 : decode cX10_passes 60 = .ok (.iload_n 3, 1) := by decide +kernel
theorem dX10_passes_61 : decode cX10_passes 61 = .ok (.aload_n 0, 1) := by decide +kernel
theorem dX10_passes_62 : decode cX10_passes 62 = .ok (.getfield 13, 3) := by decide +kernel
theorem dX10_passes_65 : decode cX10_passes 65 = .ok (.iconst 3, 1) := by decide +kernel
theorem dX10_passes_66 : decode cX10_passes 66 = .ok (.iaload, 1) := by decide +kernel
theorem dX10_passes_67 : decode cX10_passes 67 = .ok (.if_icmp .ge 78, 3) := by decide +kernel
theorem dX10_passes_70 : decode cX10_passes 70 = .ok (.aload_n 0, 1) := by decide +kernel
theorem dX10_passes_71 : decode cX10_passes 71 = .ok (.getfield 388, 3) := by decide +kernel
theorem dX10_passes_74 : decode cX10_passes 74 = .ok (.iconst 3, 1) := by decide +kernel
theorem dX10_passes_75 : decode cX10_passes 75 = .ok (.if_icmp .eq 70, 3) := by decide +kernel
theorem dX10_passes_78 : decode cX10_passes 78 = .ok (.aload_n 0, 1) := by decide +kernel
theorem dX10_passes_79 : decode cX10_passes 79 = .ok (.getfield 55, 3) := by decide +kernel
theorem dX10_passes_82 : decode cX10_passes 82 = .ok (.iload_n 3, 1) := by decide +kernel
theorem dX10_passes_83 : decode cX10_passes 83 = .ok (.iaload, 1) := by decide +kernel
theorem dX10_passes_84 : decode cX10_passes 84 = .ok (.aload_n 0, 1) := by decide +kernel
theorem dX10_passes_85 : decode cX10_passes 85 = .ok (.getfield 81, 3) := by decide +kernel
theorem dX10_passes_88 : decode cX10_passes 88 = .ok (.iload_n 1, 1) := by decide +kernel
theorem dX10_passes_89 : decode cX10_passes 89 = .ok (.iaload, 1) := by decide +kernel
theorem dX10_passes_90 : decode cX10_passes 90 = .ok (.if_icmp .ne 49, 3) := by decide +kernel
theorem dX10_passes_93 : decode cX10_passes 93 = .ok (.aload_n 0, 1) := by decide +kernel
theorem dX10_passes_94 : decode cX10_passes 94 = .ok (.iload_n 1, 1) := by decide +kernel
theorem dX10_passes_95 : decode cX10_passes 95 = .ok (.aload_n 0, 1) := by decide +kernel
theorem dX10_passes_96 : decode cX10_passes 96 = .ok (.getfield 49, 3) := by decide +kernel
theorem dX10_passes_99 : decode cX10_passes 99 = .ok (.iload_n 3, 1) := by decide +kernel
theorem dX10_passes_100 : decode cX10_passes 100 = .ok (.iaload, 1) := by decide +kernel
theorem dX10_passes_101 : decode cX10_passes 101 = .ok (.invokevirtual 391, 3) := by decide +kernel
theorem dX10_passes_104 : decode cX10_passes 104 = .ok (.ifCond .eq 35, 3) := by decide +kernel
theorem dX10_passes_107 : decode cX10_passes 107 = .ok (.aload_n 0, 1) := by decide +kernel
theorem dX10_passes_108 : decode cX10_passes 108 = .ok (.iload_n 1, 1) := by decide +kernel
theorem dX10_passes_109 : decode cX10_passes 109 = .ok (.aload_n 0, 1) := by decide +kernel
theorem dX10_passes_110 : decode cX10_passes 110 = .ok (.getfield 52, 3) := by decide +kernel
theorem dX10_passes_113 : decode cX10_passes 113 = .ok (.iload_n 3, 1) := by decide +kernel
theorem dX10_passes_114 : decode cX10_passes 114 = .ok (.iaload, 1) := by decide +kernel
theorem dX10_passes_115 : decode cX10_passes 115 = .ok (.invokevirtual 391, 3) := by decide +kernel
theorem dX10_passes_118 : decode cX10_passes 118 = .ok (.ifCond .eq 21, 3) := by decide +kernel
theorem dX10_passes_121 : decode cX10_passes 121 = .ok (.aload_n 0, 1) := by decide +kernel
theorem dX10_passes_122 : decode cX10_passes 122 = .ok (.iload_n 1, 1) := by decide +kernel
theorem dX10_passes_123 : decode cX10_passes 123 = .ok (.aload_n 0, 1) := by decide +kernel
theorem dX10_passes_124 : decode cX10_passes 124 = .ok (.getfield 49, 3) := by decide +kernel
theorem dX10_passes_127 : decode cX10_passes 127 = .ok (.iload_n 3, 1) := by decide +kernel
theorem dX10_passes_128 : decode cX10_passes 128 = .ok (.iaload, 1) := by decide +kernel
theorem dX10_passes_129 : decode cX10_passes 129 = .ok (.aload_n 0, 1) := by decide +kernel
theorem dX10_passes_130 : decode cX10_passes 130 = .ok (.getfield 52, 3) := by decide +kernel
theorem dX10_passes_133 : decode cX10_passes 133 = .ok (.iload_n 3, 1) := by decide +kernel
theorem dX10_passes_134 : decode cX10_passes 134 = .ok (.iaload, 1) := by decide +kernel
theorem dX10_passes_135 : decode cX10_passes 135 = .ok (.invokevirtual 433, 3) := by decide +kernel
theorem dX10_passes_138 : decode cX10_passes 138 = .ok (.pop, 1) := by decide +kernel
theorem dX10_passes_139 : decode cX10_passes 139 = .ok (.iinc 3 1, 3) := by decide +kernel
theorem dX10_passes_142 : decode cX10_passes 142 = .ok (.goto (-82), 3) := by decide +kernel
theorem dX10_passes_145 : decode cX10_passes 145 = .ok (.iconst 0, 1) := by decide +kernel
theorem dX10_passes_146 : decode cX10_passes 146 = .ok (.istore_n 3, 1) := by decide +kernel
theorem dX10_passes_147 : decode cX10_passes 147 = .ok (.iload_n 3, 1) := by decide +kernel
theorem dX10_passes_148 : decode cX10_passes 148 = .ok (.aload_n 0, 1) := by decide +kernel
theorem dX10_passes_149 : decode cX10_passes 149 = .ok (.getfield 13, 3) := by decide +kernel
theorem dX10_passes_152 : decode cX10_passes 152 = .ok (.iconst 1, 1) := by decide +kernel
theorem dX10_passes_153 : decode cX10_passes 153 = .ok (.iaload, 1) := by decide +kernel
theorem dX10_passes_154 : decode cX10_passes 154 = .ok (.if_icmp .ge 47, 3) := by decide +kernel
theorem dX10_passes_157 : decode cX10_passes 157 = .ok (.aload_n 0, 1) := by decide +kernel
theorem dX10_passes_158 : decode cX10_passes 158 = .ok (.getfield 388, 3) := by decide +kernel
theorem dX10_passes_161 : decode cX10_passes 161 = .ok (.iconst 1, 1) := by decide +kernel
theorem dX10_passes_162 : decode cX10_passes 162 = .ok (.if_icmp .eq 39, 3) := by decide +kernel
theorem dX10_passes_165 : decode cX10_passes 165 = .ok (.aload_n 0, 1) := by decide +kernel
theorem dX10_passes_166 : decode cX10_passes 166 = .ok (.getfield 31, 3) := by decide +kernel
theorem dX10_passes_169 : decode cX10_passes 169 = .ok (.iload_n 3, 1) := by decide +kernel
theorem dX10_passes_170 : decode cX10_passes 170 = .ok (.iaload, 1) := by decide +kernel
theorem dX10_passes_171 : decode cX10_passes 171 = .ok (.aload_n 0, 1) := by decide +kernel
theorem dX10_passes_172 : decode cX10_passes 172 = .ok (.getfield 81, 3) := by decide +kernel
theorem dX10_passes_175 : decode cX10_passes 175 = .ok (.iload_n 1, 1) := by decide +kernel
theorem dX10_passes_176 : decode cX10_passes 176 = .ok (.iaload, 1) := by decide +kernel
theorem dX10_passes_177 : decode cX10_passes 177 = .ok (.if_icmp .ne 18, 3) := by decide +kernel
theorem dX10_passes_180 : decode cX10_passes 180 = .ok (.aload_n 0, 1) := by decide +kernel
theorem dX10_passes_181 : decode cX10_passes 181 = .ok (.iload_n 1, 1) := by decide +kernel
theorem dX10_passes_182 : decode cX10_passes 182 = .ok (.iload_n 3, 1) := by decide +kernel
theorem dX10_passes_183 : decode cX10_passes 183 = .ok (.invokevirtual 391, 3) := by decide +kernel
theorem dX10_passes_186 : decode cX10_passes 186 = .ok (.ifCond .eq 9, 3) := by decide +kernel
theorem dX10_passes_189 : decode cX10_passes 189 = .ok (.aload_n 0, 1) := by decide +kernel
theorem dX10_passes_190 : decode cX10_passes 190 = .ok (.iload_n 1, 1) := by decide +kernel
theorem dX10_passes_191 : decode cX10_passes 191 = .ok (.iload_n 3, 1) := by decide +kernel
theorem dX10_passes_192 : decode cX10_passes 192 = .ok (.invokevirtual 427, 3) := by decide +kernel
theorem dX10_passes_195 : decode cX10_passes 195 = .ok (.iinc 3 1, 3) := by decide +kernel
theorem dX10_passes_198 : decode cX10_passes 198 = .ok (.goto (-51), 3) := by decide +kernel
theorem dX10_passes_201 : decode cX10_passes 201 = .ok (.iconst 0, 1) := by decide +kernel
theorem dX10_passes_202 : decode cX10_passes 202 = .ok (.istore_n 3, 1) := by decide +kernel
theorem dX10_passes_203 : decode cX10_passes 203 = .ok (.iload_n 3, 1) := by decide +kernel
theorem dX10_passes_204 : decode cX10_passes 204 = .ok (.aload_n 0, 1) := by decide +kernel
theorem dX10_passes_205 : decode cX10_passes 205 = .ok (.getfield 87, 3) := by decide +kernel
theorem dX10_passes_208 : decode cX10_passes 208 = .ok (.iload_n 1, 1) := by decide +kernel
theorem dX10_passes_209 : decode cX10_passes 209 = .ok (.iaload, 1) := by decide +kernel
theorem dX10_passes_210 : decode cX10_passes 210 = .ok (.if_icmp .ge 25, 3) := by decide +kernel
theorem dX10_passes_213 : decode cX10_passes 213 = .ok (.aload_n 0, 1) := by decide +kernel
theorem dX10_passes_214 : decode cX10_passes 214 = .ok (.iload_n 1, 1) := by decide +kernel
theorem dX10_passes_215 : decode cX10_passes 215 = .ok (.iload_n 3, 1) := by decide +kernel
theorem dX10_passes_216 : decode cX10_passes 216 = .ok (.invokevirtual 437, 3) := by decide +kernel
theorem dX10_passes_219 : decode cX10_passes 219 = .ok (.ifCond .eq 10, 3) := by decide +kernel
theorem dX10_passes_222 : decode cX10_passes 222 = .ok (.aload_n 0, 1) := by decide +kernel
theorem dX10_passes_223 : decode cX10_passes 223 = .ok (.iload_n 1, 1) := by decide +kernel
theorem dX10_passes_224 : decode cX10_passes 224 = .ok (.iload_n 3, 1) := by decide +kernel
theorem dX10_passes_225 : decode cX10_passes 225 = .ok (.invokevirtual 440, 3) := by decide +kernel
theorem dX10_passes_228 : decode cX10_passes 228 = .ok (.pop, 1) := by decide +kernel
theorem dX10_passes_229 : decode cX10_passes 229 = .ok (.iinc 3 1, 3) := by decide +kernel
theorem dX10_passes_232 : decode cX10_passes 232 = .ok (.goto (-29), 3) := by decide +kernel
theorem dX10_passes_235 : decode cX10_passes 235 = .ok (.aload_n 0, 1) := by decide +kernel
theorem dX10_passes_236 : decode cX10_passes 236 = .ok (.getfield 81, 3) := by decide +kernel
theorem dX10_passes_239 : decode cX10_passes 239 = .ok (.iload_n 1, 1) := by decide +kernel
theorem dX10_passes_240 : decode cX10_passes 240 = .ok (.iaload, 1) := by decide +kernel
theorem dX10_passes_241 : decode cX10_passes 241 = .ok (.bipush 10, 2) := by decide +kernel
theorem dX10_passes_243 : decode cX10_passes 243 = .ok (.irem, 1) := by decide +kernel
theorem dX10_passes_244 : decode cX10_passes 244 = .ok (.bipush 9, 2) := by decide +kernel
theorem dX10_passes_246 : decode cX10_passes 246 = .ok (.if_icmp .ne 9, 3) := by decide +kernel
theorem dX10_passes_249 : decode cX10_passes 249 = .ok (.aload_n 0, 1) := by decide +kernel
theorem dX10_passes_250 : decode cX10_passes 250 = .ok (.iload_n 1, 1) := by decide +kernel
theorem dX10_passes_251 : decode cX10_passes 251 = .ok (.iload_n 2, 1) := by decide +kernel
theorem dX10_passes_252 : decode cX10_passes 252 = .ok (.invokevirtual 443, 3) := by decide +kernel
theorem dX10_passes_255 : decode cX10_passes 255 = .ok (.iconst 0, 1) := by decide +kernel
theorem dX10_passes_256 : decode cX10_passes 256 = .ok (.istore_n 3, 1) := by decide +kernel
theorem dX10_passes_257 : decode cX10_passes 257 = .ok (.iload_n 3, 1) := by decide +kernel
theorem dX10_passes_258 : decode cX10_passes 258 = .ok (.aload_n 0, 1) := by decide +kernel
theorem dX10_passes_259 : decode cX10_passes 259 = .ok (.getfield 87, 3) := by decide +kernel
theorem dX10_passes_262 : decode cX10_passes 262 = .ok (.iload_n 1, 1) := by decide +kernel
theorem dX10_passes_263 : decode cX10_passes 263 = .ok (.iaload, 1) := by decide +kernel
theorem dX10_passes_264 : decode cX10_passes 264 = .ok (.if_icmp .ge 34, 3) := by decide +kernel
theorem dX10_passes_267 : decode cX10_passes 267 = .ok (.aload_n 0, 1) := by decide +kernel
theorem dX10_passes_268 : decode cX10_passes 268 = .ok (.iload_n 1, 1) := by decide +kernel
theorem dX10_passes_269 : decode cX10_passes 269 = .ok (.iload_n 3, 1) := by decide +kernel
theorem dX10_passes_270 : decode cX10_passes 270 = .ok (.invokevirtual 402, 3) := by decide +kernel
theorem dX10_passes_273 : decode cX10_passes 273 = .ok (.ifCond .eq 19, 3) := by decide +kernel
theorem dX10_passes_276 : decode cX10_passes 276 = .ok (.aload_n 0, 1) := by decide +kernel
theorem dX10_passes_277 : decode cX10_passes 277 = .ok (.iload_n 1, 1) := by decide +kernel
theorem dX10_passes_278 : decode cX10_passes 278 = .ok (.iload_n 3, 1) := by decide +kernel
theorem dX10_passes_279 : decode cX10_passes 279 = .ok (.invokevirtual 358, 3) := by decide +kernel
theorem dX10_passes_282 : decode cX10_passes 282 = .ok (.ifCond .ne 10, 3) := by decide +kernel
theorem dX10_passes_285 : decode cX10_passes 285 = .ok (.aload_n 0, 1) := by decide +kernel
theorem dX10_passes_286 : decode cX10_passes 286 = .ok (.iload_n 1, 1) := by decide +kernel
theorem dX10_passes_287 : decode cX10_passes 287 = .ok (.iload_n 3, 1) := by decide +kernel
theorem dX10_passes_288 : decode cX10_passes 288 = .ok (.iconst 3, 1) := by decide +kernel
theorem dX10_passes_289 : decode cX10_passes 289 = .ok (.invokevirtual 405, 3) := by decide +kernel
theorem dX10_passes_292 : decode cX10_passes 292 = .ok (.iinc 3 1, 3) := by decide +kernel
theorem dX10_passes_295 : decode cX10_passes 295 = .ok (.goto (-38), 3) := by decide +kernel
theorem dX10_passes_298 : decode cX10_passes 298 = .ok (.aload_n 0, 1) := by decide +kernel
theorem dX10_passes_299 : decode cX10_passes 299 = .ok (.getfield 81, 3) := by decide +kernel
theorem dX10_passes_302 : decode cX10_passes 302 = .ok (.iload_n 1, 1) := by decide +kernel
theorem dX10_passes_303 : decode cX10_passes 303 = .ok (.dup2, 1) := by decide +kernel
theorem dX10_passes_304 : decode cX10_passes 304 = .ok (.iaload, 1) := by decide +kernel
theorem dX10_passes_305 : decode cX10_passes 305 = .ok (.iconst 1, 1) := by decide +kernel
theorem dX10_passes_306 : decode cX10_passes 306 = .ok (.iadd, 1) := by decide +kernel
theorem dX10_passes_307 : decode cX10_passes 307 = .ok (.iastore, 1) := by decide +kernel
theorem dX10_passes_308 : decode cX10_passes 308 = .ok (.return_, 1) := by decide +kernel
theorem dX10_goesOn_0 : decode cX10_goesOn 0 = .ok (.iconst 0, 1) := by decide +kernel
theorem dX10_goesOn_1 : decode cX10_goesOn 1 = .ok (.istore_n 2, 1) := by decide +kernel
theorem dX10_goesOn_2 : decode cX10_goesOn 2 = .ok (.iload_n 2, 1) := by decide +kernel
theorem dX10_goesOn_3 : decode cX10_goesOn 3 = .ok (.iload_n 1, 1) := by decide +kernel
theorem dX10_goesOn_4 : decode cX10_goesOn 4 = .ok (.if_icmp .ge 15, 3) := by decide +kernel
theorem dX10_goesOn_7 : decode cX10_goesOn 7 = .ok (.aload_n 0, 1) := by decide +kernel
theorem dX10_goesOn_8 : decode cX10_goesOn 8 = .ok (.iconst 1, 1) := by decide +kernel
theorem dX10_goesOn_9 : decode cX10_goesOn 9 = .ok (.iconst 0, 1) := by decide +kernel
theorem dX10_goesOn_10 : decode cX10_goesOn 10 = .ok (.invokevirtual 447, 3) := by decide +kernel
theorem dX10_goesOn_13 : decode cX10_goesOn 13 = .ok (.iinc 2 1, 3) := by decide +kernel
theorem dX10_goesOn_16 : decode cX10_goesOn 16 = .ok (.goto (-14), 3) := by decide +kernel
theorem dX10_goesOn_19 : decode cX10_goesOn 19 = .ok (.return_, 1) := by decide +kernel
theorem dX10_runs_0 : decode cX10_runs 0 = .ok (.aload_n 0, 1) := by decide +kernel
theorem dX10_runs_1 : decode cX10_runs 1 = .ok (.iconst 1, 1) := by decide +kernel
theorem dX10_runs_2 : decode cX10_runs 2 = .ok (.iconst 0, 1) := by decide +kernel
theorem dX10_runs_3 : decode cX10_runs 3 = .ok (.invokevirtual 450, 3) := by decide +kernel
theorem dX10_runs_6 : decode cX10_runs 6 = .ok (.aload_n 0, 1) := by decide +kernel
theorem dX10_runs_7 : decode cX10_runs 7 = .ok (.iload_n 1, 1) := by decide +kernel
theorem dX10_runs_8 : decode cX10_runs 8 = .ok (.invokevirtual 453, 3) := by decide +kernel
theorem dX10_runs_11 : decode cX10_runs 11 = .ok (.return_, 1) := by decide +kernel
theorem dX10_manyOf_0 : decode cX10_manyOf 0 = .ok (.iconst 0, 1) := by decide +kernel
theorem dX10_manyOf_1 : decode cX10_manyOf 1 = .ok (.istore_n 3, 1) := by decide +kernel
theorem dX10_manyOf_2 : decode cX10_manyOf 2 = .ok (.iconst 0, 1) := by decide +kernel
theorem dX10_manyOf_3 : decode cX10_manyOf 3 = .ok (.istore 4, 2) := by decide +kernel
theorem dX10_manyOf_5 : decode cX10_manyOf 5 = .ok (.iload 4, 2) := by decide +kernel
theorem dX10_manyOf_7 : decode cX10_manyOf 7 = .ok (.aload_n 0, 1) := by decide +kernel
theorem dX10_manyOf_8 : decode cX10_manyOf 8 = .ok (.getfield 87, 3) := by decide +kernel
theorem dX10_manyOf_11 : decode cX10_manyOf 11 = .ok (.iload_n 1, 1) := by decide +kernel
theorem dX10_manyOf_12 : decode cX10_manyOf 12 = .ok (.iaload, 1) := by decide +kernel
theorem dX10_manyOf_13 : decode cX10_manyOf 13 = .ok (.if_icmp .ge 33, 3) := by decide +kernel
theorem dX10_manyOf_16 : decode cX10_manyOf 16 = .ok (.iload_n 3, 1) := by decide +kernel
theorem dX10_manyOf_17 : decode cX10_manyOf 17 = .ok (.aload_n 0, 1) := by decide +kernel
theorem dX10_manyOf_18 : decode cX10_manyOf 18 = .ok (.getfield 117, 3) := by decide +kernel
theorem dX10_manyOf_21 : decode cX10_manyOf 21 = .ok (.bipush 8, 2) := by decide +kernel
theorem dX10_manyOf_23 : decode cX10_manyOf 23 = .ok (.iload_n 1, 1) := by decide +kernel
theorem dX10_manyOf_24 : decode cX10_manyOf 24 = .ok (.imul, 1) := by decide +kernel
theorem dX10_manyOf_25 : decode cX10_manyOf 25 = .ok (.iload 4, 2) := by decide +kernel
theorem dX10_manyOf_27 : decode cX10_manyOf 27 = .ok (.iadd, 1) := by decide +kernel
theorem dX10_manyOf_28 : decode cX10_manyOf 28 = .ok (.iaload, 1) := by decide +kernel
theorem dX10_manyOf_29 : decode cX10_manyOf 29 = .ok (.iload_n 2, 1) := by decide +kernel
theorem dX10_manyOf_30 : decode cX10_manyOf 30 = .ok (.if_icmp .ne 7, 3) := by decide +kernel
theorem dX10_manyOf_33 : decode cX10_manyOf 33 = .ok (.iconst 1, 1) := by decide +kernel
theorem dX10_manyOf_34 : decode cX10_manyOf 34 = .ok (.goto 4, 3) := by decide +kernel
theorem dX10_manyOf_37 : decode cX10_manyOf 37 = .ok (.iconst 0, 1) := by decide +kernel
theorem dX10_manyOf_38 : decode cX10_manyOf 38 = .ok (.iadd, 1) := by decide +kernel
theorem dX10_manyOf_39 : decode cX10_manyOf 39 = .ok (.istore_n 3, 1) := by decide +kernel
theorem dX10_manyOf_40 : decode cX10_manyOf 40 = .ok (.iinc 4 1, 3) := by decide +kernel
theorem dX10_manyOf_43 : decode cX10_manyOf 43 = .ok (.goto (-38), 3) := by decide +kernel
theorem dX10_manyOf_46 : decode cX10_manyOf 46 = .ok (.iload_n 3, 1) := by decide +kernel
theorem dX10_manyOf_47 : decode cX10_manyOf 47 = .ok (.ireturn, 1) := by decide +kernel
theorem dX10_debt_0 : decode cX10_debt 0 = .ok (.aload_n 0, 1) := by decide +kernel
theorem dX10_debt_1 : decode cX10_debt 1 = .ok (.aload_n 0, 1) := by decide +kernel
theorem dX10_debt_2 : decode cX10_debt 2 = .ok (.iload_n 1, 1) := by decide +kernel
theorem dX10_debt_3 : decode cX10_debt 3 = .ok (.invokevirtual 456, 3) := by decide +kernel
theorem dX10_debt_6 : decode cX10_debt 6 = .ok (.ifCond .ne 7, 3) := by decide +kernel
theorem dX10_debt_9 : decode cX10_debt 9 = .ok (.iconst 1, 1) := by decide +kernel
theorem dX10_debt_10 : decode cX10_debt 10 = .ok (.goto 18, 3) := by decide +kernel
theorem dX10_debt_13 : decode cX10_debt 13 = .ok (.iload_n 2, 1) := by decide +kernel
theorem dX10_debt_14 : decode cX10_debt 14 = .ok (.ifCond .lt 9, 3) := by decide +kernel
theorem dX10_debt_17 : decode cX10_debt 17 = .ok (.iload_n 2, 1) := by decide +kernel
theorem dX10_debt_18 : decode cX10_debt 18 = .ok (.bipush 7, 2) := by decide +kernel
theorem dX10_debt_20 : decode cX10_debt 20 = .ok (.if_icmp .le 7, 3) := by decide +kernel
theorem dX10_debt_23 : decode cX10_debt 23 = .ok (.iconst 2, 1) := by decide +kernel
theorem dX10_debt_24 : decode cX10_debt 24 = .ok (.goto 4, 3) := by decide +kernel
theorem dX10_debt_27 : decode cX10_debt 27 = .ok (.iconst 0, 1) := by decide +kernel
theorem dX10_debt_28 : decode cX10_debt 28 = .ok (.putfield 160, 3) := by decide +kernel
theorem dX10_debt_31 : decode cX10_debt 31 = .ok (.aload_n 0, 1) := by decide +kernel
theorem dX10_debt_32 : decode cX10_debt 32 = .ok (.getfield 160, 3) := by decide +kernel
theorem dX10_debt_35 : decode cX10_debt 35 = .ok (.ifCond .eq 5, 3) := by decide +kernel
theorem dX10_debt_38 : decode cX10_debt 38 = .ok (.iconst 0, 1) := by decide +kernel
theorem dX10_debt_39 : decode cX10_debt 39 = .ok (.ireturn, 1) := by decide +kernel
theorem dX10_debt_40 : decode cX10_debt 40 = .ok (.iload_n 2, 1) := by decide +kernel
theorem dX10_debt_41 : decode cX10_debt 41 = .ok (.tableswitch 92 0 6 #[43, 50, 57, 64, 71, 78, 85], 43) := by decide +kernel
theorem dX10_debt_84 : decode cX10_debt 84 = .ok (.aload_n 0, 1) := by decide +kernel
theorem dX10_debt_85 : decode cX10_debt 85 = .ok (.getfield 102, 3) := by decide +kernel
theorem dX10_debt_88 : decode cX10_debt 88 = .ok (.iload_n 1, 1) := by decide +kernel
theorem dX10_debt_89 : decode cX10_debt 89 = .ok (.iaload, 1) := by decide +kernel
theorem dX10_debt_90 : decode cX10_debt 90 = .ok (.ireturn, 1) := by decide +kernel
theorem dX10_debt_91 : decode cX10_debt 91 = .ok (.aload_n 0, 1) := by decide +kernel
theorem dX10_debt_92 : decode cX10_debt 92 = .ok (.getfield 105, 3) := by decide +kernel
theorem dX10_debt_95 : decode cX10_debt 95 = .ok (.iload_n 1, 1) := by decide +kernel
theorem dX10_debt_96 : decode cX10_debt 96 = .ok (.iaload, 1) := by decide +kernel
theorem dX10_debt_97 : decode cX10_debt 97 = .ok (.ireturn, 1) := by decide +kernel
theorem dX10_debt_98 : decode cX10_debt 98 = .ok (.aload_n 0, 1) := by decide +kernel
theorem dX10_debt_99 : decode cX10_debt 99 = .ok (.getfield 108, 3) := by decide +kernel
theorem dX10_debt_102 : decode cX10_debt 102 = .ok (.iload_n 1, 1) := by decide +kernel
theorem dX10_debt_103 : decode cX10_debt 103 = .ok (.iaload, 1) := by decide +kernel
theorem dX10_debt_104 : decode cX10_debt 104 = .ok (.ireturn, 1) := by decide +kernel
theorem dX10_debt_105 : decode cX10_debt 105 = .ok (.aload_n 0, 1) := by decide +kernel
theorem dX10_debt_106 : decode cX10_debt 106 = .ok (.getfield 111, 3) := by decide +kernel
theorem dX10_debt_109 : decode cX10_debt 109 = .ok (.iload_n 1, 1) := by decide +kernel
theorem dX10_debt_110 : decode cX10_debt 110 = .ok (.iaload, 1) := by decide +kernel
theorem dX10_debt_111 : decode cX10_debt 111 = .ok (.ireturn, 1) := by decide +kernel
theorem dX10_debt_112 : decode cX10_debt 112 = .ok (.aload_n 0, 1) := by decide +kernel
theorem dX10_debt_113 : decode cX10_debt 113 = .ok (.getfield 114, 3) := by decide +kernel
theorem dX10_debt_116 : decode cX10_debt 116 = .ok (.iload_n 1, 1) := by decide +kernel
theorem dX10_debt_117 : decode cX10_debt 117 = .ok (.iaload, 1) := by decide +kernel
theorem dX10_debt_118 : decode cX10_debt 118 = .ok (.ireturn, 1) := by decide +kernel
theorem dX10_debt_119 : decode cX10_debt 119 = .ok (.aload_n 0, 1) := by decide +kernel
theorem dX10_debt_120 : decode cX10_debt 120 = .ok (.getfield 117, 3) := by decide +kernel
theorem dX10_debt_123 : decode cX10_debt 123 = .ok (.iload_n 1, 1) := by decide +kernel
theorem dX10_debt_124 : decode cX10_debt 124 = .ok (.iaload, 1) := by decide +kernel
theorem dX10_debt_125 : decode cX10_debt 125 = .ok (.ireturn, 1) := by decide +kernel
theorem dX10_debt_126 : decode cX10_debt 126 = .ok (.aload_n 0, 1) := by decide +kernel
theorem dX10_debt_127 : decode cX10_debt 127 = .ok (.getfield 120, 3) := by decide +kernel
theorem dX10_debt_130 : decode cX10_debt 130 = .ok (.iload_n 1, 1) := by decide +kernel
theorem dX10_debt_131 : decode cX10_debt 131 = .ok (.iaload, 1) := by decide +kernel
theorem dX10_debt_132 : decode cX10_debt 132 = .ok (.ireturn, 1) := by decide +kernel
theorem dX10_debt_133 : decode cX10_debt 133 = .ok (.aload_n 0, 1) := by decide +kernel
theorem dX10_debt_134 : decode cX10_debt 134 = .ok (.iconst 0, 1) := by decide +kernel
theorem dX10_debt_135 : decode cX10_debt 135 = .ok (.iload_n 1, 1) := by decide +kernel
theorem dX10_debt_136 : decode cX10_debt 136 = .ok (.invokevirtual 358, 3) := by decide +kernel
theorem dX10_debt_139 : decode cX10_debt 139 = .ok (.ireturn, 1) := by decide +kernel
theorem dX10_netOf_0 : decode cX10_netOf 0 = .ok (.iconst 0, 1) := by decide +kernel
theorem dX10_netOf_1 : decode cX10_netOf 1 = .ok (.istore_n 2, 1) := by decide +kernel
theorem dX10_netOf_2 : decode cX10_netOf 2 = .ok (.iconst 0, 1) := by decide +kernel
theorem dX10_netOf_3 : decode cX10_netOf 3 = .ok (.istore_n 3, 1) := by decide +kernel
theorem dX10_netOf_4 : decode cX10_netOf 4 = .ok (.iload_n 3, 1) := by decide +kernel
theorem dX10_netOf_5 : decode cX10_netOf 5 = .ok (.aload_n 0, 1) := by decide +kernel
theorem dX10_netOf_6 : decode cX10_netOf 6 = .ok (.getfield 87, 3) := by decide +kernel
theorem dX10_netOf_9 : decode cX10_netOf 9 = .ok (.iconst 0, 1) := by decide +kernel
theorem dX10_netOf_10 : decode cX10_netOf 10 = .ok (.iaload, 1) := by decide +kernel
theorem dX10_netOf_11 : decode cX10_netOf 11 = .ok (.if_icmp .ge 67, 3) := by decide +kernel
theorem dX10_netOf_14 : decode cX10_netOf 14 = .ok (.aload_n 0, 1) := by decide +kernel
theorem dX10_netOf_15 : decode cX10_netOf 15 = .ok (.iconst 0, 1) := by decide +kernel
theorem dX10_netOf_16 : decode cX10_netOf 16 = .ok (.iload_n 3, 1) := by decide +kernel
theorem dX10_netOf_17 : decode cX10_netOf 17 = .ok (.invokevirtual 402, 3) := by decide +kernel
theorem dX10_netOf_20 : decode cX10_netOf 20 = .ok (.ifCond .ne 6, 3) := by decide +kernel
theorem dX10_netOf_23 : decode cX10_netOf 23 = .ok (.goto 49, 3) := by decide +kernel
theorem dX10_netOf_26 : decode cX10_netOf 26 = .ok (.iload_n 2, 1) := by decide +kernel
theorem dX10_netOf_27 : decode cX10_netOf 27 = .ok (.aload_n 0, 1) := by decide +kernel
theorem dX10_netOf_28 : decode cX10_netOf 28 = .ok (.getfield 102, 3) := by decide +kernel
theorem dX10_netOf_31 : decode cX10_netOf 31 = .ok (.iload_n 3, 1) := by decide +kernel
theorem dX10_netOf_32 : decode cX10_netOf 32 = .ok (.iaload, 1) := by decide +kernel
theorem dX10_netOf_33 : decode cX10_netOf 33 = .ok (.iload_n 1, 1) := by decide +kernel
theorem dX10_netOf_34 : decode cX10_netOf 34 = .ok (.if_icmp .ne 12, 3) := by decide +kernel
theorem dX10_netOf_37 : decode cX10_netOf 37 = .ok (.aload_n 0, 1) := by decide +kernel
theorem dX10_netOf_38 : decode cX10_netOf 38 = .ok (.getfield 120, 3) := by decide +kernel
theorem dX10_netOf_41 : decode cX10_netOf 41 = .ok (.iload_n 3, 1) := by decide +kernel
theorem dX10_netOf_42 : decode cX10_netOf 42 = .ok (.iaload, 1) := by decide +kernel
theorem dX10_netOf_43 : decode cX10_netOf 43 = .ok (.goto 4, 3) := by decide +kernel
theorem dX10_netOf_46 : decode cX10_netOf 46 = .ok (.iconst 0, 1) := by decide +kernel
theorem dX10_netOf_47 : decode cX10_netOf 47 = .ok (.iadd, 1) := by decide +kernel
theorem dX10_netOf_48 : decode cX10_netOf 48 = .ok (.istore_n 2, 1) := by decide +kernel
theorem dX10_netOf_49 : decode cX10_netOf 49 = .ok (.iload_n 2, 1) := by decide +kernel
theorem dX10_netOf_50 : decode cX10_netOf 50 = .ok (.aload_n 0, 1) := by decide +kernel
theorem dX10_netOf_51 : decode cX10_netOf 51 = .ok (.getfield 105, 3) := by decide +kernel
theorem dX10_netOf_54 : decode cX10_netOf 54 = .ok (.iload_n 3, 1) := by decide +kernel
theorem dX10_netOf_55 : decode cX10_netOf 55 = .ok (.iaload, 1) := by decide +kernel
theorem dX10_netOf_56 : decode cX10_netOf 56 = .ok (.iload_n 1, 1) := by decide +kernel
theorem dX10_netOf_57 : decode cX10_netOf 57 = .ok (.if_icmp .ne 12, 3) := by decide +kernel
theorem dX10_netOf_60 : decode cX10_netOf 60 = .ok (.aload_n 0, 1) := by decide +kernel
theorem dX10_netOf_61 : decode cX10_netOf 61 = .ok (.getfield 120, 3) := by decide +kernel
theorem dX10_netOf_64 : decode cX10_netOf 64 = .ok (.iload_n 3, 1) := by decide +kernel
theorem dX10_netOf_65 : decode cX10_netOf 65 = .ok (.iaload, 1) := by decide +kernel
theorem dX10_netOf_66 : decode cX10_netOf 66 = .ok (.goto 4, 3) := by decide +kernel
theorem dX10_netOf_69 : decode cX10_netOf 69 = .ok (.iconst 0, 1) := by decide +kernel
theorem dX10_netOf_70 : decode cX10_netOf 70 = .ok (.isub, 1) := by decide +kernel
theorem dX10_netOf_71 : decode cX10_netOf 71 = .ok (.istore_n 2, 1) := by decide +kernel
theorem dX10_netOf_72 : decode cX10_netOf 72 = .ok (.iinc 3 1, 3) := by decide +kernel
theorem dX10_netOf_75 : decode cX10_netOf 75 = .ok (.goto (-71), 3) := by decide +kernel
theorem dX10_netOf_78 : decode cX10_netOf 78 = .ok (.iload_n 2, 1) := by decide +kernel
theorem dX10_netOf_79 : decode cX10_netOf 79 = .ok (.ireturn, 1) := by decide +kernel
theorem dX10_man_0 : decode cX10_man 0 = .ok (.aload_n 0, 1) := by decide +kernel
theorem dX10_man_1 : decode cX10_man 1 = .ok (.iconst 0, 1) := by decide +kernel
theorem dX10_man_2 : decode cX10_man 2 = .ok (.putfield 160, 3) := by decide +kernel
theorem dX10_man_5 : decode cX10_man 5 = .ok (.aload_n 0, 1) := by decide +kernel
theorem dX10_man_6 : decode cX10_man 6 = .ok (.iload_n 1, 1) := by decide +kernel
theorem dX10_man_7 : decode cX10_man 7 = .ok (.invokevirtual 459, 3) := by decide +kernel
theorem dX10_man_10 : decode cX10_man 10 = .ok (.ifCond .eq 12, 3) := by decide +kernel
theorem dX10_man_13 : decode cX10_man 13 = .ok (.iload_n 2, 1) := by decide +kernel
theorem dX10_man_14 : decode cX10_man 14 = .ok (.ifCond .lt 8, 3) := by decide +kernel
theorem dX10_man_17 : decode cX10_man 17 = .ok (.iload_n 2, 1) := by decide +kernel
theorem dX10_man_18 : decode cX10_man 18 = .ok (.iconst 1, 1) := by decide +kernel
theorem dX10_man_19 : decode cX10_man 19 = .ok (.if_icmp .le 7, 3) := by decide +kernel
theorem dX10_man_22 : decode cX10_man 22 = .ok (.ldc_w 462, 3) := by decide +kernel
theorem dX10_man_25 : decode cX10_man 25 = .ok (.ireturn, 1) := by decide +kernel
theorem dX10_man_26 : decode cX10_man 26 = .ok (.iload_n 2, 1) := by decide +kernel
theorem dX10_man_27 : decode cX10_man 27 = .ok (.ifCond .ne 12, 3) := by decide +kernel
theorem dX10_man_30 : decode cX10_man 30 = .ok (.aload_n 0, 1) := by decide +kernel
theorem dX10_man_31 : decode cX10_man 31 = .ok (.getfield 93, 3) := by decide +kernel
theorem dX10_man_34 : decode cX10_man 34 = .ok (.iload_n 1, 1) := by decide +kernel
theorem dX10_man_35 : decode cX10_man 35 = .ok (.iaload, 1) := by decide +kernel
theorem dX10_man_36 : decode cX10_man 36 = .ok (.goto 8, 3) := by decide +kernel
theorem dX10_man_39 : decode cX10_man 39 = .ok (.aload_n 0, 1) := by decide +kernel
theorem dX10_man_40 : decode cX10_man 40 = .ok (.iload_n 1, 1) := by decide +kernel
theorem dX10_man_41 : decode cX10_man 41 = .ok (.invokevirtual 463, 3) := by decide +kernel
theorem dX10_man_44 : decode cX10_man 44 = .ok (.ireturn, 1) := by decide +kernel
theorem dX10_aloneOf_0 : decode cX10_aloneOf 0 = .ok (.iconst 0, 1) := by decide +kernel
theorem dX10_aloneOf_1 : decode cX10_aloneOf 1 = .ok (.istore_n 2, 1) := by decide +kernel
theorem dX10_aloneOf_2 : decode cX10_aloneOf 2 = .ok (.iconst 0, 1) := by decide +kernel
theorem dX10_aloneOf_3 : decode cX10_aloneOf 3 = .ok (.istore_n 3, 1) := by decide +kernel
theorem dX10_aloneOf_4 : decode cX10_aloneOf 4 = .ok (.iload_n 3, 1) := by decide +kernel
theorem dX10_aloneOf_5 : decode cX10_aloneOf 5 = .ok (.aload_n 0, 1) := by decide +kernel
theorem dX10_aloneOf_6 : decode cX10_aloneOf 6 = .ok (.getfield 87, 3) := by decide +kernel
theorem dX10_aloneOf_9 : decode cX10_aloneOf 9 = .ok (.iconst 0, 1) := by decide +kernel
theorem dX10_aloneOf_10 : decode cX10_aloneOf 10 = .ok (.iaload, 1) := by decide +kernel
theorem dX10_aloneOf_11 : decode cX10_aloneOf 11 = .ok (.if_icmp .ge 31, 3) := by decide +kernel
theorem dX10_aloneOf_14 : decode cX10_aloneOf 14 = .ok (.iload_n 2, 1) := by decide +kernel
theorem dX10_aloneOf_15 : decode cX10_aloneOf 15 = .ok (.aload_n 0, 1) := by decide +kernel
theorem dX10_aloneOf_16 : decode cX10_aloneOf 16 = .ok (.iconst 0, 1) := by decide +kernel
theorem dX10_aloneOf_17 : decode cX10_aloneOf 17 = .ok (.iload_n 3, 1) := by decide +kernel
theorem dX10_aloneOf_18 : decode cX10_aloneOf 18 = .ok (.invokevirtual 358, 3) := by decide +kernel
theorem dX10_aloneOf_21 : decode cX10_aloneOf 21 = .ok (.iconst 1, 1) := by decide +kernel
theorem dX10_aloneOf_22 : decode cX10_aloneOf 22 = .ok (.iload_n 1, 1) := by decide +kernel
theorem dX10_aloneOf_23 : decode cX10_aloneOf 23 = .ok (.ishl, 1) := by decide +kernel
theorem dX10_aloneOf_24 : decode cX10_aloneOf 24 = .ok (.if_icmp .ne 9, 3) := by decide +kernel
theorem dX10_aloneOf_27 : decode cX10_aloneOf 27 = .ok (.iconst 1, 1) := by decide +kernel
theorem dX10_aloneOf_28 : decode cX10_aloneOf 28 = .ok (.iload_n 3, 1) := by decide +kernel
theorem dX10_aloneOf_29 : decode cX10_aloneOf 29 = .ok (.ishl, 1) := by decide +kernel
theorem dX10_aloneOf_30 : decode cX10_aloneOf 30 = .ok (.goto 4, 3) := by decide +kernel
theorem dX10_aloneOf_33 : decode cX10_aloneOf 33 = .ok (.iconst 0, 1) := by decide +kernel
theorem dX10_aloneOf_34 : decode cX10_aloneOf 34 = .ok (.ior, 1) := by decide +kernel
theorem dX10_aloneOf_35 : decode cX10_aloneOf 35 = .ok (.istore_n 2, 1) := by decide +kernel
theorem dX10_aloneOf_36 : decode cX10_aloneOf 36 = .ok (.iinc 3 1, 3) := by decide +kernel
theorem dX10_aloneOf_39 : decode cX10_aloneOf 39 = .ok (.goto (-35), 3) := by decide +kernel
theorem dX10_aloneOf_42 : decode cX10_aloneOf 42 = .ok (.iload_n 2, 1) := by decide +kernel
theorem dX10_aloneOf_43 : decode cX10_aloneOf 43 = .ok (.ireturn, 1) := by decide +kernel
theorem dX10_tusk_0 : decode cX10_tusk 0 = .ok (.aload_n 0, 1) := by decide +kernel
theorem dX10_tusk_1 : decode cX10_tusk 1 = .ok (.iconst 0, 1) := by decide +kernel
theorem dX10_tusk_2 : decode cX10_tusk 2 = .ok (.putfield 160, 3) := by decide +kernel
theorem dX10_tusk_5 : decode cX10_tusk 5 = .ok (.aload_n 0, 1) := by decide +kernel
theorem dX10_tusk_6 : decode cX10_tusk 6 = .ok (.iload_n 1, 1) := by decide +kernel
theorem dX10_tusk_7 : decode cX10_tusk 7 = .ok (.invokevirtual 466, 3) := by decide +kernel
theorem dX10_tusk_10 : decode cX10_tusk 10 = .ok (.ifCond .ne 5, 3) := by decide +kernel
theorem dX10_tusk_13 : decode cX10_tusk 13 = .ok (.iconst (-1), 1) := by decide +kernel
theorem dX10_tusk_14 : decode cX10_tusk 14 = .ok (.ireturn, 1) := by decide +kernel
theorem dX10_tusk_15 : decode cX10_tusk 15 = .ok (.iload_n 2, 1) := by decide +kernel
theorem dX10_tusk_16 : decode cX10_tusk 16 = .ok (.tableswitch 74 0 4 #[36, 43, 50, 61, 68], 36) := by decide +kernel
theorem dX10_tusk_52 : decode cX10_tusk 52 = .ok (.aload_n 0, 1) := by decide +kernel
theorem dX10_tusk_53 : decode cX10_tusk 53 = .ok (.getfield 96, 3) := by decide +kernel
theorem dX10_tusk_56 : decode cX10_tusk 56 = .ok (.iload_n 1, 1) := by decide +kernel
theorem dX10_tusk_57 : decode cX10_tusk 57 = .ok (.iaload, 1) := by decide +kernel
theorem dX10_tusk_58 : decode cX10_tusk 58 = .ok (.ireturn, 1) := by decide +kernel
theorem dX10_tusk_59 : decode cX10_tusk 59 = .ok (.aload_n 0, 1) := by decide +kernel
theorem dX10_tusk_60 : decode cX10_tusk 60 = .ok (.getfield 28, 3) := by decide +kernel
theorem dX10_tusk_63 : decode cX10_tusk 63 = .ok (.iload_n 1, 1) := by decide +kernel
theorem dX10_tusk_64 : decode cX10_tusk 64 = .ok (.iaload, 1) := by decide +kernel
theorem dX10_tusk_65 : decode cX10_tusk 65 = .ok (.ireturn, 1) := by decide +kernel
theorem dX10_tusk_66 : decode cX10_tusk 66 = .ok (.aload_n 0, 1) := by decide +kernel
theorem dX10_tusk_67 : decode cX10_tusk 67 = .ok (.getfield 90, 3) := by decide +kernel
theorem dX10_tusk_70 : decode cX10_tusk 70 = .ok (.iconst 0, 1) := by decide +kernel
theorem dX10_tusk_71 : decode cX10_tusk 71 = .ok (.iaload, 1) := by decide +kernel
theorem dX10_tusk_72 : decode cX10_tusk 72 = .ok (.iload_n 1, 1) := by decide +kernel
theorem dX10_tusk_73 : decode cX10_tusk 73 = .ok (.ishr, 1) := by decide +kernel
theorem dX10_tusk_74 : decode cX10_tusk 74 = .ok (.iconst 1, 1) := by decide +kernel
theorem dX10_tusk_75 : decode cX10_tusk 75 = .ok (.iand, 1) := by decide +kernel
theorem dX10_tusk_76 : decode cX10_tusk 76 = .ok (.ireturn, 1) := by decide +kernel
theorem dX10_tusk_77 : decode cX10_tusk 77 = .ok (.aload_n 0, 1) := by decide +kernel
theorem dX10_tusk_78 : decode cX10_tusk 78 = .ok (.getfield 99, 3) := by decide +kernel
theorem dX10_tusk_81 : decode cX10_tusk 81 = .ok (.iload_n 1, 1) := by decide +kernel
theorem dX10_tusk_82 : decode cX10_tusk 82 = .ok (.iaload, 1) := by decide +kernel
theorem dX10_tusk_83 : decode cX10_tusk 83 = .ok (.ireturn, 1) := by decide +kernel
theorem dX10_tusk_84 : decode cX10_tusk 84 = .ok (.aload_n 0, 1) := by decide +kernel
theorem dX10_tusk_85 : decode cX10_tusk 85 = .ok (.iload_n 1, 1) := by decide +kernel
theorem dX10_tusk_86 : decode cX10_tusk 86 = .ok (.invokevirtual 469, 3) := by decide +kernel
theorem dX10_tusk_89 : decode cX10_tusk 89 = .ok (.ireturn, 1) := by decide +kernel
theorem dX10_tusk_90 : decode cX10_tusk 90 = .ok (.iconst (-1), 1) := by decide +kernel
theorem dX10_tusk_91 : decode cX10_tusk 91 = .ok (.ireturn, 1) := by decide +kernel
theorem dX10_law_0 : decode cX10_law 0 = .ok (.aload_n 0, 1) := by decide +kernel
theorem dX10_law_1 : decode cX10_law 1 = .ok (.iconst 0, 1) := by decide +kernel
theorem dX10_law_2 : decode cX10_law 2 = .ok (.putfield 160, 3) := by decide +kernel
theorem dX10_law_5 : decode cX10_law 5 = .ok (.iload_n 1, 1) := by decide +kernel
theorem dX10_law_6 : decode cX10_law 6 = .ok (.ifCond .lt 16, 3) := by decide +kernel
theorem dX10_law_9 : decode cX10_law 9 = .ok (.iload_n 1, 1) := by decide +kernel
theorem dX10_law_10 : decode cX10_law 10 = .ok (.iconst 2, 1) := by decide +kernel
theorem dX10_law_11 : decode cX10_law 11 = .ok (.if_icmp .gt 11, 3) := by decide +kernel
theorem dX10_law_14 : decode cX10_law 14 = .ok (.aload_n 0, 1) := by decide +kernel
theorem dX10_law_15 : decode cX10_law 15 = .ok (.iload_n 1, 1) := by decide +kernel
theorem dX10_law_16 : decode cX10_law 16 = .ok (.invokevirtual 371, 3) := by decide +kernel
theorem dX10_law_19 : decode cX10_law 19 = .ok (.ifCond .ne 7, 3) := by decide +kernel
theorem dX10_law_22 : decode cX10_law 22 = .ok (.ldc2_w 474, 3) := by decide +kernel
theorem dX10_law_25 : decode cX10_law 25 = .ok (.lreturn, 1) := by decide +kernel
theorem dX10_law_26 : decode cX10_law 26 = .ok (.iload_n 1, 1) := by decide +kernel
theorem dX10_law_27 : decode cX10_law 27 = .ok (.iconst 2, 1) := by decide +kernel
theorem dX10_law_28 : decode cX10_law 28 = .ok (.if_icmp .eq 11, 3) := by decide +kernel
theorem dX10_law_31 : decode cX10_law 31 = .ok (.aload_n 0, 1) := by decide +kernel
theorem dX10_law_32 : decode cX10_law 32 = .ok (.iload_n 2, 1) := by decide +kernel
theorem dX10_law_33 : decode cX10_law 33 = .ok (.invokevirtual 456, 3) := by decide +kernel
theorem dX10_law_36 : decode cX10_law 36 = .ok (.ifCond .eq 16, 3) := by decide +kernel
theorem dX10_law_39 : decode cX10_law 39 = .ok (.iload_n 1, 1) := by decide +kernel
theorem dX10_law_40 : decode cX10_law 40 = .ok (.iconst 1, 1) := by decide +kernel
theorem dX10_law_41 : decode cX10_law 41 = .ok (.if_icmp .eq 15, 3) := by decide +kernel
theorem dX10_law_44 : decode cX10_law 44 = .ok (.aload_n 0, 1) := by decide +kernel
theorem dX10_law_45 : decode cX10_law 45 = .ok (.iload_n 3, 1) := by decide +kernel
theorem dX10_law_46 : decode cX10_law 46 = .ok (.invokevirtual 466, 3) := by decide +kernel
theorem dX10_law_49 : decode cX10_law 49 = .ok (.ifCond .ne 7, 3) := by decide +kernel
theorem dX10_law_52 : decode cX10_law 52 = .ok (.ldc2_w 474, 3) := by decide +kernel
theorem dX10_law_55 : decode cX10_law 55 = .ok (.lreturn, 1) := by decide +kernel
theorem dX10_law_56 : decode cX10_law 56 = .ok (.iload_n 1, 1) := by decide +kernel
theorem dX10_law_57 : decode cX10_law 57 = .ok (.ifCond .ne 13, 3) := by decide +kernel
theorem dX10_law_60 : decode cX10_law 60 = .ok (.aload_n 0, 1) := by decide +kernel
theorem dX10_law_61 : decode cX10_law 61 = .ok (.iconst 0, 1) := by decide +kernel
theorem dX10_law_62 : decode cX10_law 62 = .ok (.iload_n 2, 1) := by decide +kernel
theorem dX10_law_63 : decode cX10_law 63 = .ok (.iload_n 3, 1) := by decide +kernel
theorem dX10_law_64 : decode cX10_law 64 = .ok (.invokevirtual 399, 3) := by decide +kernel
theorem dX10_law_67 : decode cX10_law 67 = .ok (.goto 24, 3) := by decide +kernel
theorem dX10_law_70 : decode cX10_law 70 = .ok (.iload_n 1, 1) := by decide +kernel
theorem dX10_law_71 : decode cX10_law 71 = .ok (.iconst 1, 1) := by decide +kernel
theorem dX10_law_72 : decode cX10_law 72 = .ok (.if_icmp .ne 12, 3) := by decide +kernel
theorem dX10_law_75 : decode cX10_law 75 = .ok (.aload_n 0, 1) := by decide +kernel
theorem dX10_law_76 : decode cX10_law 76 = .ok (.iconst 0, 1) := by decide +kernel
theorem dX10_law_77 : decode cX10_law 77 = .ok (.iload_n 2, 1) := by decide +kernel
theorem dX10_law_78 : decode cX10_law 78 = .ok (.invokevirtual 411, 3) := by decide +kernel
theorem dX10_law_81 : decode cX10_law 81 = .ok (.goto 10, 3) := by decide +kernel
theorem dX10_law_84 : decode cX10_law 84 = .ok (.aload_n 0, 1) := by decide +kernel
theorem dX10_law_85 : decode cX10_law 85 = .ok (.iconst 0, 1) := by decide +kernel
theorem dX10_law_86 : decode cX10_law 86 = .ok (.iload_n 3, 1) := by decide +kernel
theorem dX10_law_87 : decode cX10_law 87 = .ok (.invokevirtual 414, 3) := by decide +kernel
theorem dX10_law_90 : decode cX10_law 90 = .ok (.pop, 1) := by decide +kernel
theorem dX10_law_91 : decode cX10_law 91 = .ok (.aload_n 0, 1) := by decide +kernel
theorem dX10_law_92 : decode cX10_law 92 = .ok (.iload_n 1, 1) := by decide +kernel
theorem dX10_law_93 : decode cX10_law 93 = .ok (.invokevirtual 374, 3) := by decide +kernel
theorem dX10_law_96 : decode cX10_law 96 = .ok (.ifCond .eq 12, 3) := by decide +kernel
theorem dX10_law_99 : decode cX10_law 99 = .ok (.aload_n 0, 1) := by decide +kernel
theorem dX10_law_100 : decode cX10_law 100 = .ok (.getfield 78, 3) := by decide +kernel
theorem dX10_law_103 : decode cX10_law 103 = .ok (.iconst 0, 1) := by decide +kernel
theorem dX10_law_104 : decode cX10_law 104 = .ok (.laload, 1) := by decide +kernel
theorem dX10_law_105 : decode cX10_law 105 = .ok (.goto 6, 3) := by decide +kernel
theorem dX10_law_108 : decode cX10_law 108 = .ok (.ldc2_w 474, 3) := by decide +kernel
theorem dX10_law_111 : decode cX10_law 111 = .ok (.lreturn, 1) := by decide +kernel
theorem dX10_keepNow_0 : decode cX10_keepNow 0 = .ok (.aload_n 0, 1) := by decide +kernel
theorem dX10_keepNow_1 : decode cX10_keepNow 1 = .ok (.getfield 332, 3) := by decide +kernel
theorem dX10_keepNow_4 : decode cX10_keepNow 4 = .ok (.bipush 20, 2) := by decide +kernel
theorem dX10_keepNow_6 : decode cX10_keepNow 6 = .ok (.if_icmp .ne 39, 3) := by decide +kernel
theorem dX10_keepNow_9 : decode cX10_keepNow 9 = .ok (.iconst 1, 1) := by decide +kernel
theorem dX10_keepNow_10 : decode cX10_keepNow 10 = .ok (.istore_n 1, 1) := by decide +kernel
theorem dX10_keepNow_11 : decode cX10_keepNow 11 = .ok (.iload_n 1, 1) := by decide +kernel
theorem dX10_keepNow_12 : decode cX10_keepNow 12 = .ok (.bipush 20, 2) := by decide +kernel
theorem dX10_keepNow_14 : decode cX10_keepNow 14 = .ok (.if_icmp .ge 21, 3) := by decide +kernel
theorem dX10_keepNow_17 : decode cX10_keepNow 17 = .ok (.aload_n 0, 1) := by decide +kernel
theorem dX10_keepNow_18 : decode cX10_keepNow 18 = .ok (.iconst 3, 1) := by decide +kernel
theorem dX10_keepNow_19 : decode cX10_keepNow 19 = .ok (.iload_n 1, 1) := by decide +kernel
theorem dX10_keepNow_20 : decode cX10_keepNow 20 = .ok (.iadd, 1) := by decide +kernel
theorem dX10_keepNow_21 : decode cX10_keepNow 21 = .ok (.iconst 1, 1) := by decide +kernel
theorem dX10_keepNow_22 : decode cX10_keepNow 22 = .ok (.isub, 1) := by decide +kernel
theorem dX10_keepNow_23 : decode cX10_keepNow 23 = .ok (.iconst 3, 1) := by decide +kernel
theorem dX10_keepNow_24 : decode cX10_keepNow 24 = .ok (.iload_n 1, 1) := by decide +kernel
theorem dX10_keepNow_25 : decode cX10_keepNow 25 = .ok (.iadd, 1) := by decide +kernel
theorem dX10_keepNow_26 : decode cX10_keepNow 26 = .ok (.invokevirtual 450, 3) := by decide +kernel
theorem dX10_keepNow_29 : decode cX10_keepNow 29 = .ok (.iinc 1 1, 3) := by decide +kernel
theorem dX10_keepNow_32 : decode cX10_keepNow 32 = .ok (.goto (-21), 3) := by decide +kernel
theorem dX10_keepNow_35 : decode cX10_keepNow 35 = .ok (.aload_n 0, 1) := by decide +kernel
theorem dX10_keepNow_36 : decode cX10_keepNow 36 = .ok (.dup, 1) := by decide +kernel
theorem dX10_keepNow_37 : decode cX10_keepNow 37 = .ok (.getfield 332, 3) := by decide +kernel
theorem dX10_keepNow_40 : decode cX10_keepNow 40 = .ok (.iconst 1, 1) := by decide +kernel
theorem dX10_keepNow_41 : decode cX10_keepNow 41 = .ok (.isub, 1) := by decide +kernel
theorem dX10_keepNow_42 : decode cX10_keepNow 42 = .ok (.putfield 332, 3) := by decide +kernel
theorem dX10_keepNow_45 : decode cX10_keepNow 45 = .ok (.aload_n 0, 1) := by decide +kernel
theorem dX10_keepNow_46 : decode cX10_keepNow 46 = .ok (.iconst 3, 1) := by decide +kernel
theorem dX10_keepNow_47 : decode cX10_keepNow 47 = .ok (.aload_n 0, 1) := by decide +kernel
theorem dX10_keepNow_48 : decode cX10_keepNow 48 = .ok (.getfield 332, 3) := by decide +kernel
theorem dX10_keepNow_51 : decode cX10_keepNow 51 = .ok (.iadd, 1) := by decide +kernel
theorem dX10_keepNow_52 : decode cX10_keepNow 52 = .ok (.iconst 0, 1) := by decide +kernel
theorem dX10_keepNow_53 : decode cX10_keepNow 53 = .ok (.invokevirtual 450, 3) := by decide +kernel
theorem dX10_keepNow_56 : decode cX10_keepNow 56 = .ok (.aload_n 0, 1) := by decide +kernel
theorem dX10_keepNow_57 : decode cX10_keepNow 57 = .ok (.dup, 1) := by decide +kernel
theorem dX10_keepNow_58 : decode cX10_keepNow 58 = .ok (.getfield 332, 3) := by decide +kernel
theorem dX10_keepNow_61 : decode cX10_keepNow 61 = .ok (.iconst 1, 1) := by decide +kernel
theorem dX10_keepNow_62 : decode cX10_keepNow 62 = .ok (.iadd, 1) := by decide +kernel
theorem dX10_keepNow_63 : decode cX10_keepNow 63 = .ok (.putfield 332, 3) := by decide +kernel
theorem dX10_keepNow_66 : decode cX10_keepNow 66 = .ok (.return_, 1) := by decide +kernel
theorem dX10_lend_0 : decode cX10_lend 0 = .ok (.aload_n 0, 1) := by decide +kernel
theorem dX10_lend_1 : decode cX10_lend 1 = .ok (.iconst 0, 1) := by decide +kernel
theorem dX10_lend_2 : decode cX10_lend 2 = .ok (.putfield 160, 3) := by decide +kernel
theorem dX10_lend_5 : decode cX10_lend 5 = .ok (.aload_n 0, 1) := by decide +kernel
theorem dX10_lend_6 : decode cX10_lend 6 = .ok (.iload_n 1, 1) := by decide +kernel
theorem dX10_lend_7 : decode cX10_lend 7 = .ok (.invokevirtual 459, 3) := by decide +kernel
theorem dX10_lend_10 : decode cX10_lend 10 = .ok (.ifCond .eq 47, 3) := by decide +kernel
theorem dX10_lend_13 : decode cX10_lend 13 = .ok (.aload_n 0, 1) := by decide +kernel
theorem dX10_lend_14 : decode cX10_lend 14 = .ok (.iload_n 2, 1) := by decide +kernel
theorem dX10_lend_15 : decode cX10_lend 15 = .ok (.invokevirtual 459, 3) := by decide +kernel
theorem dX10_lend_18 : decode cX10_lend 18 = .ok (.ifCond .eq 39, 3) := by decide +kernel
theorem dX10_lend_21 : decode cX10_lend 21 = .ok (.iload_n 1, 1) := by decide +kernel
theorem dX10_lend_22 : decode cX10_lend 22 = .ok (.iload_n 2, 1) := by decide +kernel
theorem dX10_lend_23 : decode cX10_lend 23 = .ok (.if_icmp .eq 34, 3) := by decide +kernel
theorem dX10_lend_26 : decode cX10_lend 26 = .ok (.iload_n 3, 1) := by decide +kernel
theorem dX10_lend_27 : decode cX10_lend 27 = .ok (.iconst 1, 1) := by decide +kernel
theorem dX10_lend_28 : decode cX10_lend 28 = .ok (.if_icmp .lt 29, 3) := by decide +kernel
theorem dX10_lend_31 : decode cX10_lend 31 = .ok (.iload_n 3, 1) := by decide +kernel
theorem dX10_lend_32 : decode cX10_lend 32 = .ok (.bipush 99, 2) := by decide +kernel
theorem dX10_lend_34 : decode cX10_lend 34 = .ok (.if_icmp .gt 23, 3) := by decide +kernel
theorem dX10_lend_37 : decode cX10_lend 37 = .ok (.aload_n 0, 1) := by decide +kernel
theorem dX10_lend_38 : decode cX10_lend 38 = .ok (.iload 4, 2) := by decide +kernel
theorem dX10_lend_40 : decode cX10_lend 40 = .ok (.invokevirtual 466, 3) := by decide +kernel
theorem dX10_lend_43 : decode cX10_lend 43 = .ok (.ifCond .eq 14, 3) := by decide +kernel
theorem dX10_lend_46 : decode cX10_lend 46 = .ok (.aload_n 0, 1) := by decide +kernel
theorem dX10_lend_47 : decode cX10_lend 47 = .ok (.getfield 87, 3) := by decide +kernel
theorem dX10_lend_50 : decode cX10_lend 50 = .ok (.iconst 0, 1) := by decide +kernel
theorem dX10_lend_51 : decode cX10_lend 51 = .ok (.iaload, 1) := by decide +kernel
theorem dX10_lend_52 : decode cX10_lend 52 = .ok (.bipush 8, 2) := by decide +kernel
theorem dX10_lend_54 : decode cX10_lend 54 = .ok (.if_icmp .ne 5, 3) := by decide +kernel
theorem dX10_lend_57 : decode cX10_lend 57 = .ok (.iconst (-1), 1) := by decide +kernel
theorem dX10_lend_58 : decode cX10_lend 58 = .ok (.ireturn, 1) := by decide +kernel
theorem dX10_lend_59 : decode cX10_lend 59 = .ok (.aload_n 0, 1) := by decide +kernel
theorem dX10_lend_60 : decode cX10_lend 60 = .ok (.iconst 0, 1) := by decide +kernel
theorem dX10_lend_61 : decode cX10_lend 61 = .ok (.iload 4, 2) := by decide +kernel
theorem dX10_lend_63 : decode cX10_lend 63 = .ok (.invokevirtual 391, 3) := by decide +kernel
theorem dX10_lend_66 : decode cX10_lend 66 = .ok (.ifCond .eq 21, 3) := by decide +kernel
theorem dX10_lend_69 : decode cX10_lend 69 = .ok (.aload_n 0, 1) := by decide +kernel
theorem dX10_lend_70 : decode cX10_lend 70 = .ok (.getfield 93, 3) := by decide +kernel
theorem dX10_lend_73 : decode cX10_lend 73 = .ok (.iload_n 1, 1) := by decide +kernel
theorem dX10_lend_74 : decode cX10_lend 74 = .ok (.iaload, 1) := by decide +kernel
theorem dX10_lend_75 : decode cX10_lend 75 = .ok (.iload_n 3, 1) := by decide +kernel
theorem dX10_lend_76 : decode cX10_lend 76 = .ok (.aload_n 0, 1) := by decide +kernel
theorem dX10_lend_77 : decode cX10_lend 77 = .ok (.getfield 28, 3) := by decide +kernel
theorem dX10_lend_80 : decode cX10_lend 80 = .ok (.iload 4, 2) := by decide +kernel
theorem dX10_lend_82 : decode cX10_lend 82 = .ok (.iaload, 1) := by decide +kernel
theorem dX10_lend_83 : decode cX10_lend 83 = .ok (.iadd, 1) := by decide +kernel
theorem dX10_lend_84 : decode cX10_lend 84 = .ok (.if_icmp .ge 6, 3) := by decide +kernel
theorem dX10_lend_87 : decode cX10_lend 87 = .ok (.bipush (-2), 2) := by decide +kernel
theorem dX10_lend_89 : decode cX10_lend 89 = .ok (.ireturn, 1) := by decide +kernel
theorem dX10_lend_90 : decode cX10_lend 90 = .ok (.aload_n 0, 1) := by decide +kernel
theorem dX10_lend_91 : decode cX10_lend 91 = .ok (.invokevirtual 476, 3) := by decide +kernel
theorem dX10_lend_94 : decode cX10_lend 94 = .ok (.aload_n 0, 1) := by decide +kernel
theorem dX10_lend_95 : decode cX10_lend 95 = .ok (.getfield 87, 3) := by decide +kernel
theorem dX10_lend_98 : decode cX10_lend 98 = .ok (.iconst 0, 1) := by decide +kernel
theorem dX10_lend_99 : decode cX10_lend 99 = .ok (.iaload, 1) := by decide +kernel
theorem dX10_lend_100 : decode cX10_lend 100 = .ok (.istore 5, 2) := by decide +kernel
theorem dX10_lend_102 : decode cX10_lend 102 = .ok (.aload_n 0, 1) := by decide +kernel
theorem dX10_lend_103 : decode cX10_lend 103 = .ok (.getfield 102, 3) := by decide +kernel
theorem dX10_lend_106 : decode cX10_lend 106 = .ok (.iload 5, 2) := by decide +kernel
theorem dX10_lend_108 : decode cX10_lend 108 = .ok (.iload_n 1, 1) := by decide +kernel
theorem dX10_lend_109 : decode cX10_lend 109 = .ok (.iastore, 1) := by decide +kernel
theorem dX10_lend_110 : decode cX10_lend 110 = .ok (.aload_n 0, 1) := by decide +kernel
theorem dX10_lend_111 : decode cX10_lend 111 = .ok (.getfield 105, 3) := by decide +kernel
theorem dX10_lend_114 : decode cX10_lend 114 = .ok (.iload 5, 2) := by decide +kernel
theorem dX10_lend_116 : decode cX10_lend 116 = .ok (.iload_n 2, 1) := by decide +kernel
theorem dX10_lend_117 : decode cX10_lend 117 = .ok (.iastore, 1) := by decide +kernel
theorem dX10_lend_118 : decode cX10_lend 118 = .ok (.aload_n 0, 1) := by decide +kernel
theorem dX10_lend_119 : decode cX10_lend 119 = .ok (.getfield 108, 3) := by decide +kernel
theorem dX10_lend_122 : decode cX10_lend 122 = .ok (.iload 5, 2) := by decide +kernel
theorem dX10_lend_124 : decode cX10_lend 124 = .ok (.iload_n 3, 1) := by decide +kernel
theorem dX10_lend_125 : decode cX10_lend 125 = .ok (.iastore, 1) := by decide +kernel
theorem dX10_lend_126 : decode cX10_lend 126 = .ok (.aload_n 0, 1) := by decide +kernel
theorem dX10_lend_127 : decode cX10_lend 127 = .ok (.getfield 111, 3) := by decide +kernel
theorem dX10_lend_130 : decode cX10_lend 130 = .ok (.iload 5, 2) := by decide +kernel
theorem dX10_lend_132 : decode cX10_lend 132 = .ok (.iload 4, 2) := by decide +kernel
theorem dX10_lend_134 : decode cX10_lend 134 = .ok (.iastore, 1) := by decide +kernel
theorem dX10_lend_135 : decode cX10_lend 135 = .ok (.aload_n 0, 1) := by decide +kernel
theorem dX10_lend_136 : decode cX10_lend 136 = .ok (.getfield 114, 3) := by decide +kernel
theorem dX10_lend_139 : decode cX10_lend 139 = .ok (.iload 5, 2) := by decide +kernel
theorem dX10_lend_141 : decode cX10_lend 141 = .ok (.aload_n 0, 1) := by decide +kernel
theorem dX10_lend_142 : decode cX10_lend 142 = .ok (.getfield 81, 3) := by decide +kernel
theorem dX10_lend_145 : decode cX10_lend 145 = .ok (.iconst 0, 1) := by decide +kernel
theorem dX10_lend_146 : decode cX10_lend 146 = .ok (.iaload, 1) := by decide +kernel
theorem dX10_lend_147 : decode cX10_lend 147 = .ok (.iastore, 1) := by decide +kernel
theorem dX10_lend_148 : decode cX10_lend 148 = .ok (.aload_n 0, 1) := by decide +kernel
theorem dX10_lend_149 : decode cX10_lend 149 = .ok (.getfield 87, 3) := by decide +kernel
theorem dX10_lend_152 : decode cX10_lend 152 = .ok (.iconst 0, 1) := by decide +kernel
theorem dX10_lend_153 : decode cX10_lend 153 = .ok (.dup2, 1) := by decide +kernel
theorem dX10_lend_154 : decode cX10_lend 154 = .ok (.iaload, 1) := by decide +kernel
theorem dX10_lend_155 : decode cX10_lend 155 = .ok (.iconst 1, 1) := by decide +kernel
theorem dX10_lend_156 : decode cX10_lend 156 = .ok (.iadd, 1) := by decide +kernel
theorem dX10_lend_157 : decode cX10_lend 157 = .ok (.iastore, 1) := by decide +kernel
theorem dX10_lend_158 : decode cX10_lend 158 = .ok (.aload_n 0, 1) := by decide +kernel
theorem dX10_lend_159 : decode cX10_lend 159 = .ok (.iconst 0, 1) := by decide +kernel
theorem dX10_lend_160 : decode cX10_lend 160 = .ok (.iload 5, 2) := by decide +kernel
theorem dX10_lend_162 : decode cX10_lend 162 = .ok (.invokevirtual 430, 3) := by decide +kernel
theorem dX10_lend_165 : decode cX10_lend 165 = .ok (.iload 5, 2) := by decide +kernel
theorem dX10_lend_167 : decode cX10_lend 167 = .ok (.ireturn, 1) := by decide +kernel
theorem dX10_lean_0 : decode cX10_lean 0 = .ok (.aload_n 0, 1) := by decide +kernel
theorem dX10_lean_1 : decode cX10_lean 1 = .ok (.iconst 0, 1) := by decide +kernel
theorem dX10_lean_2 : decode cX10_lean 2 = .ok (.putfield 160, 3) := by decide +kernel
theorem dX10_lean_5 : decode cX10_lean 5 = .ok (.aload_n 0, 1) := by decide +kernel
theorem dX10_lean_6 : decode cX10_lean 6 = .ok (.iload_n 1, 1) := by decide +kernel
theorem dX10_lean_7 : decode cX10_lean 7 = .ok (.invokevirtual 466, 3) := by decide +kernel
theorem dX10_lean_10 : decode cX10_lean 10 = .ok (.ifCond .eq 34, 3) := by decide +kernel
theorem dX10_lean_13 : decode cX10_lean 13 = .ok (.aload_n 0, 1) := by decide +kernel
theorem dX10_lean_14 : decode cX10_lean 14 = .ok (.iload_n 2, 1) := by decide +kernel
theorem dX10_lean_15 : decode cX10_lean 15 = .ok (.invokevirtual 466, 3) := by decide +kernel
theorem dX10_lean_18 : decode cX10_lean 18 = .ok (.ifCond .eq 26, 3) := by decide +kernel
theorem dX10_lean_21 : decode cX10_lean 21 = .ok (.iload_n 1, 1) := by decide +kernel
theorem dX10_lean_22 : decode cX10_lean 22 = .ok (.iload_n 2, 1) := by decide +kernel
theorem dX10_lean_23 : decode cX10_lean 23 = .ok (.if_icmp .eq 21, 3) := by decide +kernel
theorem dX10_lean_26 : decode cX10_lean 26 = .ok (.aload_n 0, 1) := by decide +kernel
theorem dX10_lean_27 : decode cX10_lean 27 = .ok (.iconst 0, 1) := by decide +kernel
theorem dX10_lean_28 : decode cX10_lean 28 = .ok (.iload_n 1, 1) := by decide +kernel
theorem dX10_lean_29 : decode cX10_lean 29 = .ok (.invokevirtual 391, 3) := by decide +kernel
theorem dX10_lean_32 : decode cX10_lean 32 = .ok (.ifCond .eq 12, 3) := by decide +kernel
theorem dX10_lean_35 : decode cX10_lean 35 = .ok (.aload_n 0, 1) := by decide +kernel
theorem dX10_lean_36 : decode cX10_lean 36 = .ok (.iconst 0, 1) := by decide +kernel
theorem dX10_lean_37 : decode cX10_lean 37 = .ok (.iload_n 2, 1) := by decide +kernel
theorem dX10_lean_38 : decode cX10_lean 38 = .ok (.invokevirtual 391, 3) := by decide +kernel
theorem dX10_lean_41 : decode cX10_lean 41 = .ok (.ifCond .ne 5, 3) := by decide +kernel
theorem dX10_lean_44 : decode cX10_lean 44 = .ok (.iconst (-1), 1) := by decide +kernel
theorem dX10_lean_45 : decode cX10_lean 45 = .ok (.ireturn, 1) := by decide +kernel
theorem dX10_lean_46 : decode cX10_lean 46 = .ok (.aload_n 0, 1) := by decide +kernel
theorem dX10_lean_47 : decode cX10_lean 47 = .ok (.invokevirtual 476, 3) := by decide +kernel
theorem dX10_lean_50 : decode cX10_lean 50 = .ok (.aload_n 0, 1) := by decide +kernel
theorem dX10_lean_51 : decode cX10_lean 51 = .ok (.iconst 0, 1) := by decide +kernel
theorem dX10_lean_52 : decode cX10_lean 52 = .ok (.iload_n 1, 1) := by decide +kernel
theorem dX10_lean_53 : decode cX10_lean 53 = .ok (.iload_n 2, 1) := by decide +kernel
theorem dX10_lean_54 : decode cX10_lean 54 = .ok (.invokevirtual 433, 3) := by decide +kernel
theorem dX10_lean_57 : decode cX10_lean 57 = .ok (.ireturn, 1) := by decide +kernel
theorem dX10_pay_0 : decode cX10_pay 0 = .ok (.aload_n 0, 1) := by decide +kernel
theorem dX10_pay_1 : decode cX10_pay 1 = .ok (.iconst 0, 1) := by decide +kernel
theorem dX10_pay_2 : decode cX10_pay 2 = .ok (.putfield 160, 3) := by decide +kernel
theorem dX10_pay_5 : decode cX10_pay 5 = .ok (.aload_n 0, 1) := by decide +kernel
theorem dX10_pay_6 : decode cX10_pay 6 = .ok (.iload_n 1, 1) := by decide +kernel
theorem dX10_pay_7 : decode cX10_pay 7 = .ok (.invokevirtual 456, 3) := by decide +kernel
theorem dX10_pay_10 : decode cX10_pay 10 = .ok (.ifCond .ne 5, 3) := by decide +kernel
theorem dX10_pay_13 : decode cX10_pay 13 = .ok (.iconst (-1), 1) := by decide +kernel
theorem dX10_pay_14 : decode cX10_pay 14 = .ok (.ireturn, 1) := by decide +kernel
theorem dX10_pay_15 : decode cX10_pay 15 = .ok (.aload_n 0, 1) := by decide +kernel
theorem dX10_pay_16 : decode cX10_pay 16 = .ok (.iconst 0, 1) := by decide +kernel
theorem dX10_pay_17 : decode cX10_pay 17 = .ok (.iload_n 1, 1) := by decide +kernel
theorem dX10_pay_18 : decode cX10_pay 18 = .ok (.invokevirtual 408, 3) := by decide +kernel
theorem dX10_pay_21 : decode cX10_pay 21 = .ok (.ifCond .ne 6, 3) := by decide +kernel
theorem dX10_pay_24 : decode cX10_pay 24 = .ok (.bipush (-2), 2) := by decide +kernel
theorem dX10_pay_26 : decode cX10_pay 26 = .ok (.ireturn, 1) := by decide +kernel
theorem dX10_pay_27 : decode cX10_pay 27 = .ok (.aload_n 0, 1) := by decide +kernel
theorem dX10_pay_28 : decode cX10_pay 28 = .ok (.invokevirtual 476, 3) := by decide +kernel
theorem dX10_pay_31 : decode cX10_pay 31 = .ok (.aload_n 0, 1) := by decide +kernel
theorem dX10_pay_32 : decode cX10_pay 32 = .ok (.iconst 0, 1) := by decide +kernel
theorem dX10_pay_33 : decode cX10_pay 33 = .ok (.iload_n 1, 1) := by decide +kernel
theorem dX10_pay_34 : decode cX10_pay 34 = .ok (.invokevirtual 440, 3) := by decide +kernel
theorem dX10_pay_37 : decode cX10_pay 37 = .ok (.ireturn, 1) := by decide +kernel
theorem dX10_gift_0 : decode cX10_gift 0 = .ok (.aload_n 0, 1) := by decide +kernel
theorem dX10_gift_1 : decode cX10_gift 1 = .ok (.iconst 0, 1) := by decide +kernel
theorem dX10_gift_2 : decode cX10_gift 2 = .ok (.putfield 160, 3) := by decide +kernel
theorem dX10_gift_5 : decode cX10_gift 5 = .ok (.aload_n 0, 1) := by decide +kernel
theorem dX10_gift_6 : decode cX10_gift 6 = .ok (.iload_n 1, 1) := by decide +kernel
theorem dX10_gift_7 : decode cX10_gift 7 = .ok (.invokevirtual 459, 3) := by decide +kernel
theorem dX10_gift_10 : decode cX10_gift 10 = .ok (.ifCond .eq 27, 3) := by decide +kernel
theorem dX10_gift_13 : decode cX10_gift 13 = .ok (.iload_n 2, 1) := by decide +kernel
theorem dX10_gift_14 : decode cX10_gift 14 = .ok (.iconst 1, 1) := by decide +kernel
theorem dX10_gift_15 : decode cX10_gift 15 = .ok (.if_icmp .lt 22, 3) := by decide +kernel
theorem dX10_gift_18 : decode cX10_gift 18 = .ok (.iload_n 2, 1) := by decide +kernel
theorem dX10_gift_19 : decode cX10_gift 19 = .ok (.bipush 99, 2) := by decide +kernel
theorem dX10_gift_21 : decode cX10_gift 21 = .ok (.if_icmp .gt 16, 3) := by decide +kernel
theorem dX10_gift_24 : decode cX10_gift 24 = .ok (.aload_n 0, 1) := by decide +kernel
theorem dX10_gift_25 : decode cX10_gift 25 = .ok (.getfield 93, 3) := by decide +kernel
theorem dX10_gift_28 : decode cX10_gift 28 = .ok (.iload_n 1, 1) := by decide +kernel
theorem dX10_gift_29 : decode cX10_gift 29 = .ok (.iaload, 1) := by decide +kernel
theorem dX10_gift_30 : decode cX10_gift 30 = .ok (.iload_n 2, 1) := by decide +kernel
theorem dX10_gift_31 : decode cX10_gift 31 = .ok (.iadd, 1) := by decide +kernel
theorem dX10_gift_32 : decode cX10_gift 32 = .ok (.ldc 198, 2) := by decide +kernel
theorem dX10_gift_34 : decode cX10_gift 34 = .ok (.if_icmp .le 5, 3) := by decide +kernel
theorem dX10_gift_37 : decode cX10_gift 37 = .ok (.iconst (-1), 1) := by decide +kernel
theorem dX10_gift_38 : decode cX10_gift 38 = .ok (.ireturn, 1) := by decide +kernel
theorem dX10_gift_39 : decode cX10_gift 39 = .ok (.aload_n 0, 1) := by decide +kernel
theorem dX10_gift_40 : decode cX10_gift 40 = .ok (.invokevirtual 476, 3) := by decide +kernel
theorem dX10_gift_43 : decode cX10_gift 43 = .ok (.aload_n 0, 1) := by decide +kernel
theorem dX10_gift_44 : decode cX10_gift 44 = .ok (.getfield 93, 3) := by decide +kernel
theorem dX10_gift_47 : decode cX10_gift 47 = .ok (.iload_n 1, 1) := by decide +kernel
theorem dX10_gift_48 : decode cX10_gift 48 = .ok (.dup2, 1) := by decide +kernel
theorem dX10_gift_49 : decode cX10_gift 49 = .ok (.iaload, 1) := by decide +kernel
theorem dX10_gift_50 : decode cX10_gift 50 = .ok (.iload_n 2, 1) := by decide +kernel
theorem dX10_gift_51 : decode cX10_gift 51 = .ok (.iadd, 1) := by decide +kernel
theorem dX10_gift_52 : decode cX10_gift 52 = .ok (.iastore, 1) := by decide +kernel
theorem dX10_gift_53 : decode cX10_gift 53 = .ok (.aload_n 0, 1) := by decide +kernel
theorem dX10_gift_54 : decode cX10_gift 54 = .ok (.getfield 93, 3) := by decide +kernel
theorem dX10_gift_57 : decode cX10_gift 57 = .ok (.iload_n 1, 1) := by decide +kernel
theorem dX10_gift_58 : decode cX10_gift 58 = .ok (.iaload, 1) := by decide +kernel
theorem dX10_gift_59 : decode cX10_gift 59 = .ok (.ireturn, 1) := by decide +kernel
theorem dX10_go_0 : decode cX10_go 0 = .ok (.aload_n 0, 1) := by decide +kernel
theorem dX10_go_1 : decode cX10_go 1 = .ok (.iconst 0, 1) := by decide +kernel
theorem dX10_go_2 : decode cX10_go 2 = .ok (.putfield 160, 3) := by decide +kernel
theorem dX10_go_5 : decode cX10_go 5 = .ok (.iload_n 1, 1) := by decide +kernel
theorem dX10_go_6 : decode cX10_go 6 = .ok (.ifCond .lt 23, 3) := by decide +kernel
theorem dX10_go_9 : decode cX10_go 9 = .ok (.iload_n 1, 1) := by decide +kernel
theorem dX10_go_10 : decode cX10_go 10 = .ok (.bipush 99, 2) := by decide +kernel
theorem dX10_go_12 : decode cX10_go 12 = .ok (.if_icmp .gt 17, 3) := by decide +kernel
theorem dX10_go_15 : decode cX10_go 15 = .ok (.aload_n 0, 1) := by decide +kernel
theorem dX10_go_16 : decode cX10_go 16 = .ok (.getfield 81, 3) := by decide +kernel
theorem dX10_go_19 : decode cX10_go 19 = .ok (.iconst 0, 1) := by decide +kernel
theorem dX10_go_20 : decode cX10_go 20 = .ok (.iaload, 1) := by decide +kernel
theorem dX10_go_21 : decode cX10_go 21 = .ok (.iload_n 1, 1) := by decide +kernel
theorem dX10_go_22 : decode cX10_go 22 = .ok (.iadd, 1) := by decide +kernel
theorem dX10_go_23 : decode cX10_go 23 = .ok (.sipush 9900, 3) := by decide +kernel
theorem dX10_go_26 : decode cX10_go 26 = .ok (.if_icmp .le 5, 3) := by decide +kernel
theorem dX10_go_29 : decode cX10_go 29 = .ok (.iconst (-1), 1) := by decide +kernel
theorem dX10_go_30 : decode cX10_go 30 = .ok (.ireturn, 1) := by decide +kernel
theorem dX10_go_31 : decode cX10_go 31 = .ok (.iload_n 1, 1) := by decide +kernel
theorem dX10_go_32 : decode cX10_go 32 = .ok (.ifCond .le 8, 3) := by decide +kernel
theorem dX10_go_35 : decode cX10_go 35 = .ok (.aload_n 0, 1) := by decide +kernel
theorem dX10_go_36 : decode cX10_go 36 = .ok (.iconst 0, 1) := by decide +kernel
theorem dX10_go_37 : decode cX10_go 37 = .ok (.putfield 332, 3) := by decide +kernel
theorem dX10_go_40 : decode cX10_go 40 = .ok (.iconst 0, 1) := by decide +kernel
theorem dX10_go_41 : decode cX10_go 41 = .ok (.istore_n 2, 1) := by decide +kernel
theorem dX10_go_42 : decode cX10_go 42 = .ok (.iload_n 2, 1) := by decide +kernel
theorem dX10_go_43 : decode cX10_go 43 = .ok (.iload_n 1, 1) := by decide +kernel
theorem dX10_go_44 : decode cX10_go 44 = .ok (.if_icmp .ge 15, 3) := by decide +kernel
theorem dX10_go_47 : decode cX10_go 47 = .ok (.aload_n 0, 1) := by decide +kernel
theorem dX10_go_48 : decode cX10_go 48 = .ok (.iconst 0, 1) := by decide +kernel
theorem dX10_go_49 : decode cX10_go 49 = .ok (.iconst 1, 1) := by decide +kernel
theorem dX10_go_50 : decode cX10_go 50 = .ok (.invokevirtual 447, 3) := by decide +kernel
theorem dX10_go_53 : decode cX10_go 53 = .ok (.iinc 2 1, 3) := by decide +kernel
theorem dX10_go_56 : decode cX10_go 56 = .ok (.goto (-14), 3) := by decide +kernel
theorem dX10_go_59 : decode cX10_go 59 = .ok (.aload_n 0, 1) := by decide +kernel
theorem dX10_go_60 : decode cX10_go 60 = .ok (.getfield 81, 3) := by decide +kernel
theorem dX10_go_63 : decode cX10_go 63 = .ok (.iconst 0, 1) := by decide +kernel
theorem dX10_go_64 : decode cX10_go 64 = .ok (.iaload, 1) := by decide +kernel
theorem dX10_go_65 : decode cX10_go 65 = .ok (.ireturn, 1) := by decide +kernel
theorem dX10_ahead_0 : decode cX10_ahead 0 = .ok (.aload_n 0, 1) := by decide +kernel
theorem dX10_ahead_1 : decode cX10_ahead 1 = .ok (.iconst 0, 1) := by decide +kernel
theorem dX10_ahead_2 : decode cX10_ahead 2 = .ok (.putfield 160, 3) := by decide +kernel
theorem dX10_ahead_5 : decode cX10_ahead 5 = .ok (.iload_n 1, 1) := by decide +kernel
theorem dX10_ahead_6 : decode cX10_ahead 6 = .ok (.ifCond .lt 31, 3) := by decide +kernel
theorem dX10_ahead_9 : decode cX10_ahead 9 = .ok (.iload_n 1, 1) := by decide +kernel
theorem dX10_ahead_10 : decode cX10_ahead 10 = .ok (.bipush 99, 2) := by decide +kernel
theorem dX10_ahead_12 : decode cX10_ahead 12 = .ok (.if_icmp .gt 25, 3) := by decide +kernel
theorem dX10_ahead_15 : decode cX10_ahead 15 = .ok (.iload_n 2, 1) := by decide +kernel
theorem dX10_ahead_16 : decode cX10_ahead 16 = .ok (.ifCond .lt 21, 3) := by decide +kernel
theorem dX10_ahead_19 : decode cX10_ahead 19 = .ok (.iload_n 2, 1) := by decide +kernel
theorem dX10_ahead_20 : decode cX10_ahead 20 = .ok (.iconst 4, 1) := by decide +kernel
theorem dX10_ahead_21 : decode cX10_ahead 21 = .ok (.if_icmp .gt 16, 3) := by decide +kernel
theorem dX10_ahead_24 : decode cX10_ahead 24 = .ok (.iload_n 2, 1) := by decide +kernel
theorem dX10_ahead_25 : decode cX10_ahead 25 = .ok (.iconst 3, 1) := by decide +kernel
theorem dX10_ahead_26 : decode cX10_ahead 26 = .ok (.if_icmp .ne 13, 3) := by decide +kernel
theorem dX10_ahead_29 : decode cX10_ahead 29 = .ok (.aload_n 0, 1) := by decide +kernel
theorem dX10_ahead_30 : decode cX10_ahead 30 = .ok (.iload_n 3, 1) := by decide +kernel
theorem dX10_ahead_31 : decode cX10_ahead 31 = .ok (.invokevirtual 459, 3) := by decide +kernel
theorem dX10_ahead_34 : decode cX10_ahead 34 = .ok (.ifCond .ne 5, 3) := by decide +kernel
theorem dX10_ahead_37 : decode cX10_ahead 37 = .ok (.iconst (-1), 1) := by decide +kernel
theorem dX10_ahead_38 : decode cX10_ahead 38 = .ok (.ireturn, 1) := by decide +kernel
theorem dX10_ahead_39 : decode cX10_ahead 39 = .ok (.aload_n 0, 1) := by decide +kernel
theorem dX10_ahead_40 : decode cX10_ahead 40 = .ok (.iload_n 1, 1) := by decide +kernel
theorem dX10_ahead_41 : decode cX10_ahead 41 = .ok (.invokevirtual 479, 3) := by decide +kernel
theorem dX10_ahead_44 : decode cX10_ahead 44 = .ok (.iload_n 2, 1) := by decide +kernel
theorem dX10_ahead_45 : decode cX10_ahead 45 = .ok (.tableswitch 83 0 3 #[31, 45, 59, 73], 31) := by decide +kernel
theorem dX10_ahead_76 : decode cX10_ahead 76 = .ok (.aload_n 0, 1) := by decide +kernel
theorem dX10_ahead_77 : decode cX10_ahead 77 = .ok (.iconst 1, 1) := by decide +kernel
theorem dX10_ahead_78 : decode cX10_ahead 78 = .ok (.iconst 2, 1) := by decide +kernel
theorem dX10_ahead_79 : decode cX10_ahead 79 = .ok (.invokevirtual 482, 3) := by decide +kernel
theorem dX10_ahead_82 : decode cX10_ahead 82 = .ok (.aload_n 0, 1) := by decide +kernel
theorem dX10_ahead_83 : decode cX10_ahead 83 = .ok (.iconst 0, 1) := by decide +kernel
theorem dX10_ahead_84 : decode cX10_ahead 84 = .ok (.iconst 2, 1) := by decide +kernel
theorem dX10_ahead_85 : decode cX10_ahead 85 = .ok (.invokevirtual 482, 3) := by decide +kernel
theorem dX10_ahead_88 : decode cX10_ahead 88 = .ok (.isub, 1) := by decide +kernel
theorem dX10_ahead_89 : decode cX10_ahead 89 = .ok (.ireturn, 1) := by decide +kernel
theorem dX10_ahead_90 : decode cX10_ahead 90 = .ok (.aload_n 0, 1) := by decide +kernel
theorem dX10_ahead_91 : decode cX10_ahead 91 = .ok (.iconst 1, 1) := by decide +kernel
theorem dX10_ahead_92 : decode cX10_ahead 92 = .ok (.iconst 3, 1) := by decide +kernel
theorem dX10_ahead_93 : decode cX10_ahead 93 = .ok (.invokevirtual 482, 3) := by decide +kernel
theorem dX10_ahead_96 : decode cX10_ahead 96 = .ok (.aload_n 0, 1) := by decide +kernel
theorem dX10_ahead_97 : decode cX10_ahead 97 = .ok (.iconst 0, 1) := by decide +kernel
theorem dX10_ahead_98 : decode cX10_ahead 98 = .ok (.iconst 3, 1) := by decide +kernel
theorem dX10_ahead_99 : decode cX10_ahead 99 = .ok (.invokevirtual 482, 3) := by decide +kernel
theorem dX10_ahead_102 : decode cX10_ahead 102 = .ok (.isub, 1) := by decide +kernel
theorem dX10_ahead_103 : decode cX10_ahead 103 = .ok (.ireturn, 1) := by decide +kernel
theorem dX10_ahead_104 : decode cX10_ahead 104 = .ok (.aload_n 0, 1) := by decide +kernel
theorem dX10_ahead_105 : decode cX10_ahead 105 = .ok (.iconst 1, 1) := by decide +kernel
theorem dX10_ahead_106 : decode cX10_ahead 106 = .ok (.iconst 4, 1) := by decide +kernel
theorem dX10_ahead_107 : decode cX10_ahead 107 = .ok (.invokevirtual 482, 3) := by decide +kernel
theorem dX10_ahead_110 : decode cX10_ahead 110 = .ok (.aload_n 0, 1) := by decide +kernel
theorem dX10_ahead_111 : decode cX10_ahead 111 = .ok (.iconst 0, 1) := by decide +kernel
theorem dX10_ahead_112 : decode cX10_ahead 112 = .ok (.iconst 4, 1) := by decide +kernel
theorem dX10_ahead_113 : decode cX10_ahead 113 = .ok (.invokevirtual 482, 3) := by decide +kernel
theorem dX10_ahead_116 : decode cX10_ahead 116 = .ok (.isub, 1) := by decide +kernel
theorem dX10_ahead_117 : decode cX10_ahead 117 = .ok (.ireturn, 1) := by decide +kernel
theorem dX10_ahead_118 : decode cX10_ahead 118 = .ok (.aload_n 0, 1) := by decide +kernel
theorem dX10_ahead_119 : decode cX10_ahead 119 = .ok (.getfield 93, 3) := by decide +kernel
theorem dX10_ahead_122 : decode cX10_ahead 122 = .ok (.bipush 6, 2) := by decide +kernel
theorem dX10_ahead_124 : decode cX10_ahead 124 = .ok (.iload_n 3, 1) := by decide +kernel
theorem dX10_ahead_125 : decode cX10_ahead 125 = .ok (.iadd, 1) := by decide +kernel
theorem dX10_ahead_126 : decode cX10_ahead 126 = .ok (.iaload, 1) := by decide +kernel
theorem dX10_ahead_127 : decode cX10_ahead 127 = .ok (.ireturn, 1) := by decide +kernel
theorem dX10_ahead_128 : decode cX10_ahead 128 = .ok (.aload_n 0, 1) := by decide +kernel
theorem dX10_ahead_129 : decode cX10_ahead 129 = .ok (.getfield 90, 3) := by decide +kernel
theorem dX10_ahead_132 : decode cX10_ahead 132 = .ok (.iconst 1, 1) := by decide +kernel
theorem dX10_ahead_133 : decode cX10_ahead 133 = .ok (.iaload, 1) := by decide +kernel
theorem dX10_ahead_134 : decode cX10_ahead 134 = .ok (.invokestatic 361, 3) := by decide +kernel
theorem dX10_ahead_137 : decode cX10_ahead 137 = .ok (.ireturn, 1) := by decide +kernel
theorem dX10_ends_0 : decode cX10_ends 0 = .ok (.aload_n 0, 1) := by decide +kernel
theorem dX10_ends_1 : decode cX10_ends 1 = .ok (.iconst 0, 1) := by decide +kernel
theorem dX10_ends_2 : decode cX10_ends 2 = .ok (.putfield 160, 3) := by decide +kernel
theorem dX10_ends_5 : decode cX10_ends 5 = .ok (.aload_n 0, 1) := by decide +kernel
theorem dX10_ends_6 : decode cX10_ends 6 = .ok (.iload_n 1, 1) := by decide +kernel
theorem dX10_ends_7 : decode cX10_ends 7 = .ok (.invokevirtual 456, 3) := by decide +kernel
theorem dX10_ends_10 : decode cX10_ends 10 = .ok (.ifCond .ne 5, 3) := by decide +kernel
theorem dX10_ends_13 : decode cX10_ends 13 = .ok (.iconst (-1), 1) := by decide +kernel
theorem dX10_ends_14 : decode cX10_ends 14 = .ok (.ireturn, 1) := by decide +kernel
theorem dX10_ends_15 : decode cX10_ends 15 = .ok (.aload_n 0, 1) := by decide +kernel
theorem dX10_ends_16 : decode cX10_ends 16 = .ok (.iconst 1, 1) := by decide +kernel
theorem dX10_ends_17 : decode cX10_ends 17 = .ok (.iconst 0, 1) := by decide +kernel
theorem dX10_ends_18 : decode cX10_ends 18 = .ok (.invokevirtual 450, 3) := by decide +kernel
theorem dX10_ends_21 : decode cX10_ends 21 = .ok (.iconst 0, 1) := by decide +kernel
theorem dX10_ends_22 : decode cX10_ends 22 = .ok (.istore_n 2, 1) := by decide +kernel
theorem dX10_ends_23 : decode cX10_ends 23 = .ok (.iload_n 2, 1) := by decide +kernel
theorem dX10_ends_24 : decode cX10_ends 24 = .ok (.bipush 99, 2) := by decide +kernel
theorem dX10_ends_26 : decode cX10_ends 26 = .ok (.if_icmp .gt 30, 3) := by decide +kernel
theorem dX10_ends_29 : decode cX10_ends 29 = .ok (.aload_n 0, 1) := by decide +kernel
theorem dX10_ends_30 : decode cX10_ends 30 = .ok (.getfield 117, 3) := by decide +kernel
theorem dX10_ends_33 : decode cX10_ends 33 = .ok (.bipush 8, 2) := by decide +kernel
theorem dX10_ends_35 : decode cX10_ends 35 = .ok (.iload_n 1, 1) := by decide +kernel
theorem dX10_ends_36 : decode cX10_ends 36 = .ok (.iadd, 1) := by decide +kernel
theorem dX10_ends_37 : decode cX10_ends 37 = .ok (.iaload, 1) := by decide +kernel
theorem dX10_ends_38 : decode cX10_ends 38 = .ok (.iconst 1, 1) := by decide +kernel
theorem dX10_ends_39 : decode cX10_ends 39 = .ok (.if_icmp .le 5, 3) := by decide +kernel
theorem dX10_ends_42 : decode cX10_ends 42 = .ok (.iload_n 2, 1) := by decide +kernel
theorem dX10_ends_43 : decode cX10_ends 43 = .ok (.ireturn, 1) := by decide +kernel
theorem dX10_ends_44 : decode cX10_ends 44 = .ok (.aload_n 0, 1) := by decide +kernel
theorem dX10_ends_45 : decode cX10_ends 45 = .ok (.iconst 1, 1) := by decide +kernel
theorem dX10_ends_46 : decode cX10_ends 46 = .ok (.iconst 0, 1) := by decide +kernel
theorem dX10_ends_47 : decode cX10_ends 47 = .ok (.invokevirtual 447, 3) := by decide +kernel
theorem dX10_ends_50 : decode cX10_ends 50 = .ok (.iinc 2 1, 3) := by decide +kernel
theorem dX10_ends_53 : decode cX10_ends 53 = .ok (.goto (-30), 3) := by decide +kernel
theorem dX10_ends_56 : decode cX10_ends 56 = .ok (.bipush (-2), 2) := by decide +kernel
theorem dX10_ends_58 : decode cX10_ends 58 = .ok (.ireturn, 1) := by decide +kernel
theorem dX10_isEven_0 : decode cX10_isEven 0 = .ok (.iconst 0, 1) := by decide +kernel
theorem dX10_isEven_1 : decode cX10_isEven 1 = .ok (.istore_n 2, 1) := by decide +kernel
theorem dX10_isEven_2 : decode cX10_isEven 2 = .ok (.iconst 0, 1) := by decide +kernel
theorem dX10_isEven_3 : decode cX10_isEven 3 = .ok (.istore_n 3, 1) := by decide +kernel
theorem dX10_isEven_4 : decode cX10_isEven 4 = .ok (.iload_n 3, 1) := by decide +kernel
theorem dX10_isEven_5 : decode cX10_isEven 5 = .ok (.aload_n 0, 1) := by decide +kernel
theorem dX10_isEven_6 : decode cX10_isEven 6 = .ok (.getfield 13, 3) := by decide +kernel
theorem dX10_isEven_9 : decode cX10_isEven 9 = .ok (.iconst 0, 1) := by decide +kernel
theorem dX10_isEven_10 : decode cX10_isEven 10 = .ok (.iaload, 1) := by decide +kernel
theorem dX10_isEven_11 : decode cX10_isEven 11 = .ok (.if_icmp .ge 30, 3) := by decide +kernel
theorem dX10_isEven_14 : decode cX10_isEven 14 = .ok (.iload_n 2, 1) := by decide +kernel
theorem dX10_isEven_15 : decode cX10_isEven 15 = .ok (.iload_n 1, 1) := by decide +kernel
theorem dX10_isEven_16 : decode cX10_isEven 16 = .ok (.iload_n 3, 1) := by decide +kernel
theorem dX10_isEven_17 : decode cX10_isEven 17 = .ok (.ishr, 1) := by decide +kernel
theorem dX10_isEven_18 : decode cX10_isEven 18 = .ok (.iconst 1, 1) := by decide +kernel
theorem dX10_isEven_19 : decode cX10_isEven 19 = .ok (.iand, 1) := by decide +kernel
theorem dX10_isEven_20 : decode cX10_isEven 20 = .ok (.iconst 1, 1) := by decide +kernel
theorem dX10_isEven_21 : decode cX10_isEven 21 = .ok (.if_icmp .ne 11, 3) := by decide +kernel
theorem dX10_isEven_24 : decode cX10_isEven 24 = .ok (.aload_n 0, 1) := by decide +kernel
theorem dX10_isEven_25 : decode cX10_isEven 25 = .ok (.iload_n 3, 1) := by decide +kernel
theorem dX10_isEven_26 : decode cX10_isEven 26 = .ok (.invokevirtual 463, 3) := by decide +kernel
theorem dX10_isEven_29 : decode cX10_isEven 29 = .ok (.goto 4, 3) := by decide +kernel
theorem dX10_isEven_32 : decode cX10_isEven 32 = .ok (.iconst 0, 1) := by decide +kernel
theorem dX10_isEven_33 : decode cX10_isEven 33 = .ok (.iadd, 1) := by decide +kernel
theorem dX10_isEven_34 : decode cX10_isEven 34 = .ok (.istore_n 2, 1) := by decide +kernel
theorem dX10_isEven_35 : decode cX10_isEven 35 = .ok (.iinc 3 1, 3) := by decide +kernel
theorem dX10_isEven_38 : decode cX10_isEven 38 = .ok (.goto (-34), 3) := by decide +kernel
theorem dX10_isEven_41 : decode cX10_isEven 41 = .ok (.iload_n 2, 1) := by decide +kernel
theorem dX10_isEven_42 : decode cX10_isEven 42 = .ok (.ifCond .ne 7, 3) := by decide +kernel
theorem dX10_isEven_45 : decode cX10_isEven 45 = .ok (.iconst 1, 1) := by decide +kernel
theorem dX10_isEven_46 : decode cX10_isEven 46 = .ok (.goto 4, 3) := by decide +kernel
theorem dX10_isEven_49 : decode cX10_isEven 49 = .ok (.iconst 0, 1) := by decide +kernel
theorem dX10_isEven_50 : decode cX10_isEven 50 = .ok (.ireturn, 1) := by decide +kernel
theorem dX10_clear_0 : decode cX10_clear 0 = .ok (.aload_n 0, 1) := by decide +kernel
theorem dX10_clear_1 : decode cX10_clear 1 = .ok (.iconst 0, 1) := by decide +kernel
theorem dX10_clear_2 : decode cX10_clear 2 = .ok (.putfield 160, 3) := by decide +kernel
theorem dX10_clear_5 : decode cX10_clear 5 = .ok (.iconst 0, 1) := by decide +kernel
theorem dX10_clear_6 : decode cX10_clear 6 = .ok (.istore_n 1, 1) := by decide +kernel
theorem dX10_clear_7 : decode cX10_clear 7 = .ok (.iconst 0, 1) := by decide +kernel
theorem dX10_clear_8 : decode cX10_clear 8 = .ok (.istore_n 2, 1) := by decide +kernel
theorem dX10_clear_9 : decode cX10_clear 9 = .ok (.iload_n 2, 1) := by decide +kernel
theorem dX10_clear_10 : decode cX10_clear 10 = .ok (.aload_n 0, 1) := by decide +kernel
theorem dX10_clear_11 : decode cX10_clear 11 = .ok (.getfield 13, 3) := by decide +kernel
theorem dX10_clear_14 : decode cX10_clear 14 = .ok (.iconst 0, 1) := by decide +kernel
theorem dX10_clear_15 : decode cX10_clear 15 = .ok (.iaload, 1) := by decide +kernel
theorem dX10_clear_16 : decode cX10_clear 16 = .ok (.if_icmp .ge 27, 3) := by decide +kernel
theorem dX10_clear_19 : decode cX10_clear 19 = .ok (.iload_n 1, 1) := by decide +kernel
theorem dX10_clear_20 : decode cX10_clear 20 = .ok (.aload_n 0, 1) := by decide +kernel
theorem dX10_clear_21 : decode cX10_clear 21 = .ok (.iload_n 2, 1) := by decide +kernel
theorem dX10_clear_22 : decode cX10_clear 22 = .ok (.invokevirtual 463, 3) := by decide +kernel
theorem dX10_clear_25 : decode cX10_clear 25 = .ok (.ifCond .eq 9, 3) := by decide +kernel
theorem dX10_clear_28 : decode cX10_clear 28 = .ok (.iconst 1, 1) := by decide +kernel
theorem dX10_clear_29 : decode cX10_clear 29 = .ok (.iload_n 2, 1) := by decide +kernel
theorem dX10_clear_30 : decode cX10_clear 30 = .ok (.ishl, 1) := by decide +kernel
theorem dX10_clear_31 : decode cX10_clear 31 = .ok (.goto 4, 3) := by decide +kernel
theorem dX10_clear_34 : decode cX10_clear 34 = .ok (.iconst 0, 1) := by decide +kernel
theorem dX10_clear_35 : decode cX10_clear 35 = .ok (.ior, 1) := by decide +kernel
theorem dX10_clear_36 : decode cX10_clear 36 = .ok (.istore_n 1, 1) := by decide +kernel
theorem dX10_clear_37 : decode cX10_clear 37 = .ok (.iinc 2 1, 3) := by decide +kernel
theorem dX10_clear_40 : decode cX10_clear 40 = .ok (.goto (-31), 3) := by decide +kernel
theorem dX10_clear_43 : decode cX10_clear 43 = .ok (.iconst 0, 1) := by decide +kernel
theorem dX10_clear_44 : decode cX10_clear 44 = .ok (.istore_n 2, 1) := by decide +kernel
theorem dX10_clear_45 : decode cX10_clear 45 = .ok (.iload_n 2, 1) := by decide +kernel
theorem dX10_clear_46 : decode cX10_clear 46 = .ok (.iload_n 1, 1) := by decide +kernel
theorem dX10_clear_47 : decode cX10_clear 47 = .ok (.if_icmp .gt 80, 3) := by decide +kernel
theorem dX10_clear_50 : decode cX10_clear 50 = .ok (.aload_n 0, 1) := by decide +kernel
theorem dX10_clear_51 : decode cX10_clear 51 = .ok (.getfield 126, 3) := by decide +kernel
theorem dX10_clear_54 : decode cX10_clear 54 = .ok (.iload_n 2, 1) := by decide +kernel
theorem dX10_clear_55 : decode cX10_clear 55 = .ok (.iconst 0, 1) := by decide +kernel
theorem dX10_clear_56 : decode cX10_clear 56 = .ok (.iastore, 1) := by decide +kernel
theorem dX10_clear_57 : decode cX10_clear 57 = .ok (.iconst 1, 1) := by decide +kernel
theorem dX10_clear_58 : decode cX10_clear 58 = .ok (.istore_n 3, 1) := by decide +kernel
theorem dX10_clear_59 : decode cX10_clear 59 = .ok (.iload_n 3, 1) := by decide +kernel
theorem dX10_clear_60 : decode cX10_clear 60 = .ok (.iload_n 2, 1) := by decide +kernel
theorem dX10_clear_61 : decode cX10_clear 61 = .ok (.if_icmp .gt 60, 3) := by decide +kernel
theorem dX10_clear_64 : decode cX10_clear 64 = .ok (.iload_n 2, 1) := by decide +kernel
theorem dX10_clear_65 : decode cX10_clear 65 = .ok (.iload_n 1, 1) := by decide +kernel
theorem dX10_clear_66 : decode cX10_clear 66 = .ok (.iconst (-1), 1) := by decide +kernel
theorem dX10_clear_67 : decode cX10_clear 67 = .ok (.ixor, 1) := by decide +kernel
theorem dX10_clear_68 : decode cX10_clear 68 = .ok (.iand, 1) := by decide +kernel
theorem dX10_clear_69 : decode cX10_clear 69 = .ok (.ifCond .ne 52, 3) := by decide +kernel
theorem dX10_clear_72 : decode cX10_clear 72 = .ok (.iload_n 3, 1) := by decide +kernel
theorem dX10_clear_73 : decode cX10_clear 73 = .ok (.iload_n 2, 1) := by decide +kernel
theorem dX10_clear_74 : decode cX10_clear 74 = .ok (.iconst (-1), 1) := by decide +kernel
theorem dX10_clear_75 : decode cX10_clear 75 = .ok (.ixor, 1) := by decide +kernel
theorem dX10_clear_76 : decode cX10_clear 76 = .ok (.iand, 1) := by decide +kernel
theorem dX10_clear_77 : decode cX10_clear 77 = .ok (.ifCond .ne 38, 3) := by decide +kernel
theorem dX10_clear_80 : decode cX10_clear 80 = .ok (.aload_n 0, 1) := by decide +kernel
theorem dX10_clear_81 : decode cX10_clear 81 = .ok (.iload_n 3, 1) := by decide +kernel
theorem dX10_clear_82 : decode cX10_clear 82 = .ok (.invokevirtual 485, 3) := by decide +kernel
theorem dX10_clear_85 : decode cX10_clear 85 = .ok (.ifCond .eq 30, 3) := by decide +kernel
theorem dX10_clear_88 : decode cX10_clear 88 = .ok (.aload_n 0, 1) := by decide +kernel
theorem dX10_clear_89 : decode cX10_clear 89 = .ok (.getfield 126, 3) := by decide +kernel
theorem dX10_clear_92 : decode cX10_clear 92 = .ok (.iload_n 2, 1) := by decide +kernel
theorem dX10_clear_93 : decode cX10_clear 93 = .ok (.aload_n 0, 1) := by decide +kernel
theorem dX10_clear_94 : decode cX10_clear 94 = .ok (.getfield 126, 3) := by decide +kernel
theorem dX10_clear_97 : decode cX10_clear 97 = .ok (.iload_n 2, 1) := by decide +kernel
theorem dX10_clear_98 : decode cX10_clear 98 = .ok (.iaload, 1) := by decide +kernel
theorem dX10_clear_99 : decode cX10_clear 99 = .ok (.iconst 1, 1) := by decide +kernel
theorem dX10_clear_100 : decode cX10_clear 100 = .ok (.aload_n 0, 1) := by decide +kernel
theorem dX10_clear_101 : decode cX10_clear 101 = .ok (.getfield 126, 3) := by decide +kernel
theorem dX10_clear_104 : decode cX10_clear 104 = .ok (.iload_n 2, 1) := by decide +kernel
theorem dX10_clear_105 : decode cX10_clear 105 = .ok (.iload_n 3, 1) := by decide +kernel
theorem dX10_clear_106 : decode cX10_clear 106 = .ok (.iconst (-1), 1) := by decide +kernel
theorem dX10_clear_107 : decode cX10_clear 107 = .ok (.ixor, 1) := by decide +kernel
theorem dX10_clear_108 : decode cX10_clear 108 = .ok (.iand, 1) := by decide +kernel
theorem dX10_clear_109 : decode cX10_clear 109 = .ok (.iaload, 1) := by decide +kernel
theorem dX10_clear_110 : decode cX10_clear 110 = .ok (.iadd, 1) := by decide +kernel
theorem dX10_clear_111 : decode cX10_clear 111 = .ok (.invokestatic 377, 3) := by decide +kernel
theorem dX10_clear_114 : decode cX10_clear 114 = .ok (.iastore, 1) := by decide +kernel
theorem dX10_clear_115 : decode cX10_clear 115 = .ok (.iinc 3 1, 3) := by decide +kernel
theorem dX10_clear_118 : decode cX10_clear 118 = .ok (.goto (-59), 3) := by decide +kernel
theorem dX10_clear_121 : decode cX10_clear 121 = .ok (.iinc 2 1, 3) := by decide +kernel
theorem dX10_clear_124 : decode cX10_clear 124 = .ok (.goto (-79), 3) := by decide +kernel
theorem dX10_clear_127 : decode cX10_clear 127 = .ok (.iload_n 1, 1) := by decide +kernel
theorem dX10_clear_128 : decode cX10_clear 128 = .ok (.invokestatic 361, 3) := by decide +kernel
theorem dX10_clear_131 : decode cX10_clear 131 = .ok (.aload_n 0, 1) := by decide +kernel
theorem dX10_clear_132 : decode cX10_clear 132 = .ok (.getfield 126, 3) := by decide +kernel
theorem dX10_clear_135 : decode cX10_clear 135 = .ok (.iload_n 1, 1) := by decide +kernel
theorem dX10_clear_136 : decode cX10_clear 136 = .ok (.iaload, 1) := by decide +kernel
theorem dX10_clear_137 : decode cX10_clear 137 = .ok (.isub, 1) := by decide +kernel
theorem dX10_clear_138 : decode cX10_clear 138 = .ok (.ireturn, 1) := by decide +kernel
theorem dX10_keep_0 : decode cX10_keep 0 = .ok (.aload_n 0, 1) := by decide +kernel
theorem dX10_keep_1 : decode cX10_keep 1 = .ok (.iconst 0, 1) := by decide +kernel
theorem dX10_keep_2 : decode cX10_keep 2 = .ok (.putfield 160, 3) := by decide +kernel
theorem dX10_keep_5 : decode cX10_keep 5 = .ok (.aload_n 0, 1) := by decide +kernel
theorem dX10_keep_6 : decode cX10_keep 6 = .ok (.iload_n 1, 1) := by decide +kernel
theorem dX10_keep_7 : decode cX10_keep 7 = .ok (.invokevirtual 456, 3) := by decide +kernel
theorem dX10_keep_10 : decode cX10_keep 10 = .ok (.ifCond .eq 13, 3) := by decide +kernel
theorem dX10_keep_13 : decode cX10_keep 13 = .ok (.iload_n 2, 1) := by decide +kernel
theorem dX10_keep_14 : decode cX10_keep 14 = .ok (.ifCond .lt 9, 3) := by decide +kernel
theorem dX10_keep_17 : decode cX10_keep 17 = .ok (.iload_n 2, 1) := by decide +kernel
theorem dX10_keep_18 : decode cX10_keep 18 = .ok (.bipush 60, 2) := by decide +kernel
theorem dX10_keep_20 : decode cX10_keep 20 = .ok (.if_icmp .le 5, 3) := by decide +kernel
theorem dX10_keep_23 : decode cX10_keep 23 = .ok (.iconst (-1), 1) := by decide +kernel
theorem dX10_keep_24 : decode cX10_keep 24 = .ok (.ireturn, 1) := by decide +kernel
theorem dX10_keep_25 : decode cX10_keep 25 = .ok (.aload_n 0, 1) := by decide +kernel
theorem dX10_keep_26 : decode cX10_keep 26 = .ok (.iconst 0, 1) := by decide +kernel
theorem dX10_keep_27 : decode cX10_keep 27 = .ok (.iload_n 1, 1) := by decide +kernel
theorem dX10_keep_28 : decode cX10_keep 28 = .ok (.invokevirtual 402, 3) := by decide +kernel
theorem dX10_keep_31 : decode cX10_keep 31 = .ok (.ifCond .ne 6, 3) := by decide +kernel
theorem dX10_keep_34 : decode cX10_keep 34 = .ok (.bipush (-2), 2) := by decide +kernel
theorem dX10_keep_36 : decode cX10_keep 36 = .ok (.ireturn, 1) := by decide +kernel
theorem dX10_keep_37 : decode cX10_keep 37 = .ok (.bipush (-2), 2) := by decide +kernel
theorem dX10_keep_39 : decode cX10_keep 39 = .ok (.istore_n 3, 1) := by decide +kernel
theorem dX10_keep_40 : decode cX10_keep 40 = .ok (.iconst 0, 1) := by decide +kernel
theorem dX10_keep_41 : decode cX10_keep 41 = .ok (.istore 4, 2) := by decide +kernel
theorem dX10_keep_43 : decode cX10_keep 43 = .ok (.iload 4, 2) := by decide +kernel
theorem dX10_keep_45 : decode cX10_keep 45 = .ok (.aload_n 0, 1) := by decide +kernel
theorem dX10_keep_46 : decode cX10_keep 46 = .ok (.getfield 90, 3) := by decide +kernel
theorem dX10_keep_49 : decode cX10_keep 49 = .ok (.iconst 0, 1) := by decide +kernel
theorem dX10_keep_50 : decode cX10_keep 50 = .ok (.iaload, 1) := by decide +kernel
theorem dX10_keep_51 : decode cX10_keep 51 = .ok (.if_icmp .gt 160, 3) := by decide +kernel
theorem dX10_keep_54 : decode cX10_keep 54 = .ok (.iload 4, 2) := by decide +kernel
theorem dX10_keep_56 : decode cX10_keep 56 = .ok (.aload_n 0, 1) := by decide +kernel
theorem dX10_keep_57 : decode cX10_keep 57 = .ok (.getfield 90, 3) := by decide +kernel
theorem dX10_keep_60 : decode cX10_keep 60 = .ok (.iconst 0, 1) := by decide +kernel
theorem dX10_keep_61 : decode cX10_keep 61 = .ok (.iaload, 1) := by decide +kernel
theorem dX10_keep_62 : decode cX10_keep 62 = .ok (.iconst (-1), 1) := by decide +kernel
theorem dX10_keep_63 : decode cX10_keep 63 = .ok (.ixor, 1) := by decide +kernel
theorem dX10_keep_64 : decode cX10_keep 64 = .ok (.iand, 1) := by decide +kernel
theorem dX10_keep_65 : decode cX10_keep 65 = .ok (.ifCond .ne 140, 3) := by decide +kernel
theorem dX10_keep_68 : decode cX10_keep 68 = .ok (.iload_n 3, 1) := by decide +kernel
theorem dX10_keep_69 : decode cX10_keep 69 = .ok (.ifCond .lt 18, 3) := by decide +kernel
theorem dX10_keep_72 : decode cX10_keep 72 = .ok (.iload 4, 2) := by decide +kernel
theorem dX10_keep_74 : decode cX10_keep 74 = .ok (.invokestatic 361, 3) := by decide +kernel
theorem dX10_keep_77 : decode cX10_keep 77 = .ok (.iload_n 3, 1) := by decide +kernel
theorem dX10_keep_78 : decode cX10_keep 78 = .ok (.invokestatic 361, 3) := by decide +kernel
theorem dX10_keep_81 : decode cX10_keep 81 = .ok (.if_icmp .lt 6, 3) := by decide +kernel
theorem dX10_keep_84 : decode cX10_keep 84 = .ok (.goto 121, 3) := by decide +kernel
theorem dX10_keep_87 : decode cX10_keep 87 = .ok (.aload_n 0, 1) := by decide +kernel
theorem dX10_keep_88 : decode cX10_keep 88 = .ok (.iconst 1, 1) := by decide +kernel
theorem dX10_keep_89 : decode cX10_keep 89 = .ok (.iconst 0, 1) := by decide +kernel
theorem dX10_keep_90 : decode cX10_keep 90 = .ok (.invokevirtual 450, 3) := by decide +kernel
theorem dX10_keep_93 : decode cX10_keep 93 = .ok (.iconst 0, 1) := by decide +kernel
theorem dX10_keep_94 : decode cX10_keep 94 = .ok (.istore 5, 2) := by decide +kernel
theorem dX10_keep_96 : decode cX10_keep 96 = .ok (.iload 5, 2) := by decide +kernel
theorem dX10_keep_98 : decode cX10_keep 98 = .ok (.aload_n 0, 1) := by decide +kernel
theorem dX10_keep_99 : decode cX10_keep 99 = .ok (.getfield 13, 3) := by decide +kernel
theorem dX10_keep_102 : decode cX10_keep 102 = .ok (.iconst 1, 1) := by decide +kernel
theorem dX10_keep_103 : decode cX10_keep 103 = .ok (.iaload, 1) := by decide +kernel
theorem dX10_keep_104 : decode cX10_keep 104 = .ok (.if_icmp .ge 61, 3) := by decide +kernel
theorem dX10_keep_107 : decode cX10_keep 107 = .ok (.bipush 6, 2) := by decide +kernel
theorem dX10_keep_109 : decode cX10_keep 109 = .ok (.iload 5, 2) := by decide +kernel
theorem dX10_keep_111 : decode cX10_keep 111 = .ok (.iadd, 1) := by decide +kernel
theorem dX10_keep_112 : decode cX10_keep 112 = .ok (.istore 6, 2) := by decide +kernel
theorem dX10_keep_114 : decode cX10_keep 114 = .ok (.aload_n 0, 1) := by decide +kernel
theorem dX10_keep_115 : decode cX10_keep 115 = .ok (.getfield 99, 3) := by decide +kernel
theorem dX10_keep_118 : decode cX10_keep 118 = .ok (.iload 6, 2) := by decide +kernel
theorem dX10_keep_120 : decode cX10_keep 120 = .ok (.iload 4, 2) := by decide +kernel
theorem dX10_keep_122 : decode cX10_keep 122 = .ok (.iload 5, 2) := by decide +kernel
theorem dX10_keep_124 : decode cX10_keep 124 = .ok (.ishr, 1) := by decide +kernel
theorem dX10_keep_125 : decode cX10_keep 125 = .ok (.iconst 1, 1) := by decide +kernel
theorem dX10_keep_126 : decode cX10_keep 126 = .ok (.iand, 1) := by decide +kernel
theorem dX10_keep_127 : decode cX10_keep 127 = .ok (.iconst 1, 1) := by decide +kernel
theorem dX10_keep_128 : decode cX10_keep 128 = .ok (.if_icmp .ne 17, 3) := by decide +kernel
theorem dX10_keep_131 : decode cX10_keep 131 = .ok (.aload_n 0, 1) := by decide +kernel
theorem dX10_keep_132 : decode cX10_keep 132 = .ok (.getfield 99, 3) := by decide +kernel
theorem dX10_keep_135 : decode cX10_keep 135 = .ok (.iload 6, 2) := by decide +kernel
theorem dX10_keep_137 : decode cX10_keep 137 = .ok (.iaload, 1) := by decide +kernel
theorem dX10_keep_138 : decode cX10_keep 138 = .ok (.iconst 1, 1) := by decide +kernel
theorem dX10_keep_139 : decode cX10_keep 139 = .ok (.iload_n 1, 1) := by decide +kernel
theorem dX10_keep_140 : decode cX10_keep 140 = .ok (.ishl, 1) := by decide +kernel
theorem dX10_keep_141 : decode cX10_keep 141 = .ok (.ior, 1) := by decide +kernel
theorem dX10_keep_142 : decode cX10_keep 142 = .ok (.goto 16, 3) := by decide +kernel
theorem dX10_keep_145 : decode cX10_keep 145 = .ok (.aload_n 0, 1) := by decide +kernel
theorem dX10_keep_146 : decode cX10_keep 146 = .ok (.getfield 99, 3) := by decide +kernel
theorem dX10_keep_149 : decode cX10_keep 149 = .ok (.iload 6, 2) := by decide +kernel
theorem dX10_keep_151 : decode cX10_keep 151 = .ok (.iaload, 1) := by decide +kernel
theorem dX10_keep_152 : decode cX10_keep 152 = .ok (.iconst 1, 1) := by decide +kernel
theorem dX10_keep_153 : decode cX10_keep 153 = .ok (.iload_n 1, 1) := by decide +kernel
theorem dX10_keep_154 : decode cX10_keep 154 = .ok (.ishl, 1) := by decide +kernel
theorem dX10_keep_155 : decode cX10_keep 155 = .ok (.iconst (-1), 1) := by decide +kernel
theorem dX10_keep_156 : decode cX10_keep 156 = .ok (.ixor, 1) := by decide +kernel
theorem dX10_keep_157 : decode cX10_keep 157 = .ok (.iand, 1) := by decide +kernel
theorem dX10_keep_158 : decode cX10_keep 158 = .ok (.iastore, 1) := by decide +kernel
theorem dX10_keep_159 : decode cX10_keep 159 = .ok (.iinc 5 1, 3) := by decide +kernel
theorem dX10_keep_162 : decode cX10_keep 162 = .ok (.goto (-66), 3) := by decide +kernel
theorem dX10_keep_165 : decode cX10_keep 165 = .ok (.aload_n 0, 1) := by decide +kernel
theorem dX10_keep_166 : decode cX10_keep 166 = .ok (.iload_n 2, 1) := by decide +kernel
theorem dX10_keep_167 : decode cX10_keep 167 = .ok (.invokevirtual 453, 3) := by decide +kernel
theorem dX10_keep_170 : decode cX10_keep 170 = .ok (.aload_n 0, 1) := by decide +kernel
theorem dX10_keep_171 : decode cX10_keep 171 = .ok (.getfield 117, 3) := by decide +kernel
theorem dX10_keep_174 : decode cX10_keep 174 = .ok (.bipush 8, 2) := by decide +kernel
theorem dX10_keep_176 : decode cX10_keep 176 = .ok (.iload_n 1, 1) := by decide +kernel
theorem dX10_keep_177 : decode cX10_keep 177 = .ok (.iadd, 1) := by decide +kernel
theorem dX10_keep_178 : decode cX10_keep 178 = .ok (.iaload, 1) := by decide +kernel
theorem dX10_keep_179 : decode cX10_keep 179 = .ok (.istore 5, 2) := by decide +kernel
theorem dX10_keep_181 : decode cX10_keep 181 = .ok (.iload 5, 2) := by decide +kernel
theorem dX10_keep_183 : decode cX10_keep 183 = .ok (.iconst 2, 1) := by decide +kernel
theorem dX10_keep_184 : decode cX10_keep 184 = .ok (.if_icmp .eq 18, 3) := by decide +kernel
theorem dX10_keep_187 : decode cX10_keep 187 = .ok (.iload 5, 2) := by decide +kernel
theorem dX10_keep_189 : decode cX10_keep 189 = .ok (.iconst 1, 1) := by decide +kernel
theorem dX10_keep_190 : decode cX10_keep 190 = .ok (.if_icmp .ne 15, 3) := by decide +kernel
theorem dX10_keep_193 : decode cX10_keep 193 = .ok (.aload_n 0, 1) := by decide +kernel
theorem dX10_keep_194 : decode cX10_keep 194 = .ok (.iconst 1, 1) := by decide +kernel
theorem dX10_keep_195 : decode cX10_keep 195 = .ok (.iload_n 1, 1) := by decide +kernel
theorem dX10_keep_196 : decode cX10_keep 196 = .ok (.invokevirtual 358, 3) := by decide +kernel
theorem dX10_keep_199 : decode cX10_keep 199 = .ok (.ifCond .eq 6, 3) := by decide +kernel
theorem dX10_keep_202 : decode cX10_keep 202 = .ok (.iload 4, 2) := by decide +kernel
theorem dX10_keep_204 : decode cX10_keep 204 = .ok (.istore_n 3, 1) := by decide +kernel
theorem dX10_keep_205 : decode cX10_keep 205 = .ok (.iinc 4 1, 3) := by decide +kernel
theorem dX10_keep_208 : decode cX10_keep 208 = .ok (.goto (-165), 3) := by decide +kernel
theorem dX10_keep_211 : decode cX10_keep 211 = .ok (.iload_n 3, 1) := by decide +kernel
theorem dX10_keep_212 : decode cX10_keep 212 = .ok (.ireturn, 1) := by decide +kernel
theorem dX10_rows_0 : decode cX10_rows 0 = .ok (.iload_n 1, 1) := by decide +kernel
theorem dX10_rows_1 : decode cX10_rows 1 = .ok (.aload_n 0, 1) := by decide +kernel
theorem dX10_rows_2 : decode cX10_rows 2 = .ok (.getfield 488, 3) := by decide +kernel
theorem dX10_rows_5 : decode cX10_rows 5 = .ok (.if_icmp .ge 56, 3) := by decide +kernel
theorem dX10_rows_8 : decode cX10_rows 8 = .ok (.iconst 0, 1) := by decide +kernel
theorem dX10_rows_9 : decode cX10_rows 9 = .ok (.istore_n 3, 1) := by decide +kernel
theorem dX10_rows_10 : decode cX10_rows 10 = .ok (.iload_n 3, 1) := by decide +kernel
theorem dX10_rows_11 : decode cX10_rows 11 = .ok (.aload_n 0, 1) := by decide +kernel
theorem dX10_rows_12 : decode cX10_rows 12 = .ok (.getfield 488, 3) := by decide +kernel
theorem dX10_rows_15 : decode cX10_rows 15 = .ok (.if_icmp .ge 45, 3) := by decide +kernel
theorem dX10_rows_18 : decode cX10_rows 18 = .ok (.iload_n 2, 1) := by decide +kernel
theorem dX10_rows_19 : decode cX10_rows 19 = .ok (.iload_n 3, 1) := by decide +kernel
theorem dX10_rows_20 : decode cX10_rows 20 = .ok (.ishr, 1) := by decide +kernel
theorem dX10_rows_21 : decode cX10_rows 21 = .ok (.iconst 1, 1) := by decide +kernel
theorem dX10_rows_22 : decode cX10_rows 22 = .ok (.iand, 1) := by decide +kernel
theorem dX10_rows_23 : decode cX10_rows 23 = .ok (.iconst 1, 1) := by decide +kernel
theorem dX10_rows_24 : decode cX10_rows 24 = .ok (.if_icmp .ne 6, 3) := by decide +kernel
theorem dX10_rows_27 : decode cX10_rows 27 = .ok (.goto 27, 3) := by decide +kernel
theorem dX10_rows_30 : decode cX10_rows 30 = .ok (.aload_n 0, 1) := by decide +kernel
theorem dX10_rows_31 : decode cX10_rows 31 = .ok (.getfield 132, 3) := by decide +kernel
theorem dX10_rows_34 : decode cX10_rows 34 = .ok (.iload_n 1, 1) := by decide +kernel
theorem dX10_rows_35 : decode cX10_rows 35 = .ok (.aload_n 0, 1) := by decide +kernel
theorem dX10_rows_36 : decode cX10_rows 36 = .ok (.getfield 129, 3) := by decide +kernel
theorem dX10_rows_39 : decode cX10_rows 39 = .ok (.iload_n 3, 1) := by decide +kernel
theorem dX10_rows_40 : decode cX10_rows 40 = .ok (.iaload, 1) := by decide +kernel
theorem dX10_rows_41 : decode cX10_rows 41 = .ok (.iastore, 1) := by decide +kernel
theorem dX10_rows_42 : decode cX10_rows 42 = .ok (.aload_n 0, 1) := by decide +kernel
theorem dX10_rows_43 : decode cX10_rows 43 = .ok (.iload_n 1, 1) := by decide +kernel
theorem dX10_rows_44 : decode cX10_rows 44 = .ok (.iconst 1, 1) := by decide +kernel
theorem dX10_rows_45 : decode cX10_rows 45 = .ok (.iadd, 1) := by decide +kernel
theorem dX10_rows_46 : decode cX10_rows 46 = .ok (.iload_n 2, 1) := by decide +kernel
theorem dX10_rows_47 : decode cX10_rows 47 = .ok (.iconst 1, 1) := by decide +kernel
theorem dX10_rows_48 : decode cX10_rows 48 = .ok (.iload_n 3, 1) := by decide +kernel
theorem dX10_rows_49 : decode cX10_rows 49 = .ok (.ishl, 1) := by decide +kernel
theorem dX10_rows_50 : decode cX10_rows 50 = .ok (.ior, 1) := by decide +kernel
theorem dX10_rows_51 : decode cX10_rows 51 = .ok (.invokevirtual 491, 3) := by decide +kernel
theorem dX10_rows_54 : decode cX10_rows 54 = .ok (.iinc 3 1, 3) := by decide +kernel
theorem dX10_rows_57 : decode cX10_rows 57 = .ok (.goto (-47), 3) := by decide +kernel
theorem dX10_rows_60 : decode cX10_rows 60 = .ok (.return_, 1) := by decide +kernel
theorem dX10_rows_61 : decode cX10_rows 61 = .ok (.aload_n 0, 1) := by decide +kernel
theorem dX10_rows_62 : decode cX10_rows 62 = .ok (.iconst 1, 1) := by decide +kernel
theorem dX10_rows_63 : decode cX10_rows 63 = .ok (.iconst 0, 1) := by decide +kernel
theorem dX10_rows_64 : decode cX10_rows 64 = .ok (.invokevirtual 450, 3) := by decide +kernel
theorem dX10_rows_67 : decode cX10_rows 67 = .ok (.iconst 0, 1) := by decide +kernel
theorem dX10_rows_68 : decode cX10_rows 68 = .ok (.istore_n 3, 1) := by decide +kernel
theorem dX10_rows_69 : decode cX10_rows 69 = .ok (.iconst 0, 1) := by decide +kernel
theorem dX10_rows_70 : decode cX10_rows 70 = .ok (.istore 4, 2) := by decide +kernel
theorem dX10_rows_72 : decode cX10_rows 72 = .ok (.iload 4, 2) := by decide +kernel
theorem dX10_rows_74 : decode cX10_rows 74 = .ok (.aload_n 0, 1) := by decide +kernel
theorem dX10_rows_75 : decode cX10_rows 75 = .ok (.getfield 488, 3) := by decide +kernel
theorem dX10_rows_78 : decode cX10_rows 78 = .ok (.if_icmp .ge 39, 3) := by decide +kernel
theorem dX10_rows_81 : decode cX10_rows 81 = .ok (.aload_n 0, 1) := by decide +kernel
theorem dX10_rows_82 : decode cX10_rows 82 = .ok (.iconst 1, 1) := by decide +kernel
theorem dX10_rows_83 : decode cX10_rows 83 = .ok (.aload_n 0, 1) := by decide +kernel
theorem dX10_rows_84 : decode cX10_rows 84 = .ok (.getfield 132, 3) := by decide +kernel
theorem dX10_rows_87 : decode cX10_rows 87 = .ok (.iload 4, 2) := by decide +kernel
theorem dX10_rows_89 : decode cX10_rows 89 = .ok (.iaload, 1) := by decide +kernel
theorem dX10_rows_90 : decode cX10_rows 90 = .ok (.invokevirtual 408, 3) := by decide +kernel
theorem dX10_rows_93 : decode cX10_rows 93 = .ok (.ifCond .eq 18, 3) := by decide +kernel
theorem dX10_rows_96 : decode cX10_rows 96 = .ok (.iload_n 3, 1) := by decide +kernel
theorem dX10_rows_97 : decode cX10_rows 97 = .ok (.aload_n 0, 1) := by decide +kernel
theorem dX10_rows_98 : decode cX10_rows 98 = .ok (.iconst 1, 1) := by decide +kernel
theorem dX10_rows_99 : decode cX10_rows 99 = .ok (.aload_n 0, 1) := by decide +kernel
theorem dX10_rows_100 : decode cX10_rows 100 = .ok (.getfield 132, 3) := by decide +kernel
theorem dX10_rows_103 : decode cX10_rows 103 = .ok (.iload 4, 2) := by decide +kernel
theorem dX10_rows_105 : decode cX10_rows 105 = .ok (.iaload, 1) := by decide +kernel
theorem dX10_rows_106 : decode cX10_rows 106 = .ok (.invokevirtual 440, 3) := by decide +kernel
theorem dX10_rows_109 : decode cX10_rows 109 = .ok (.iadd, 1) := by decide +kernel
theorem dX10_rows_110 : decode cX10_rows 110 = .ok (.istore_n 3, 1) := by decide +kernel
theorem dX10_rows_111 : decode cX10_rows 111 = .ok (.iinc 4 1, 3) := by decide +kernel
theorem dX10_rows_114 : decode cX10_rows 114 = .ok (.goto (-42), 3) := by decide +kernel
theorem dX10_rows_117 : decode cX10_rows 117 = .ok (.iload_n 3, 1) := by decide +kernel
theorem dX10_rows_118 : decode cX10_rows 118 = .ok (.aload_n 0, 1) := by decide +kernel
theorem dX10_rows_119 : decode cX10_rows 119 = .ok (.getfield 494, 3) := by decide +kernel
theorem dX10_rows_122 : decode cX10_rows 122 = .ok (.if_icmp .gt 4, 3) := by decide +kernel
theorem dX10_rows_125 : decode cX10_rows 125 = .ok (.return_, 1) := by decide +kernel
theorem dX10_rows_126 : decode cX10_rows 126 = .ok (.aload_n 0, 1) := by decide +kernel
theorem dX10_rows_127 : decode cX10_rows 127 = .ok (.iload_n 3, 1) := by decide +kernel
theorem dX10_rows_128 : decode cX10_rows 128 = .ok (.putfield 494, 3) := by decide +kernel
theorem dX10_rows_131 : decode cX10_rows 131 = .ok (.iconst 0, 1) := by decide +kernel
theorem dX10_rows_132 : decode cX10_rows 132 = .ok (.istore 4, 2) := by decide +kernel
theorem dX10_rows_134 : decode cX10_rows 134 = .ok (.iload 4, 2) := by decide +kernel
theorem dX10_rows_136 : decode cX10_rows 136 = .ok (.aload_n 0, 1) := by decide +kernel
theorem dX10_rows_137 : decode cX10_rows 137 = .ok (.getfield 488, 3) := by decide +kernel
theorem dX10_rows_140 : decode cX10_rows 140 = .ok (.if_icmp .ge 23, 3) := by decide +kernel
theorem dX10_rows_143 : decode cX10_rows 143 = .ok (.aload_n 0, 1) := by decide +kernel
theorem dX10_rows_144 : decode cX10_rows 144 = .ok (.getfield 135, 3) := by decide +kernel
theorem dX10_rows_147 : decode cX10_rows 147 = .ok (.iload 4, 2) := by decide +kernel
theorem dX10_rows_149 : decode cX10_rows 149 = .ok (.aload_n 0, 1) := by decide +kernel
theorem dX10_rows_150 : decode cX10_rows 150 = .ok (.getfield 132, 3) := by decide +kernel
theorem dX10_rows_153 : decode cX10_rows 153 = .ok (.iload 4, 2) := by decide +kernel
theorem dX10_rows_155 : decode cX10_rows 155 = .ok (.iaload, 1) := by decide +kernel
theorem dX10_rows_156 : decode cX10_rows 156 = .ok (.iastore, 1) := by decide +kernel
theorem dX10_rows_157 : decode cX10_rows 157 = .ok (.iinc 4 1, 3) := by decide +kernel
theorem dX10_rows_160 : decode cX10_rows 160 = .ok (.goto (-26), 3) := by decide +kernel
theorem dX10_rows_163 : decode cX10_rows 163 = .ok (.return_, 1) := by decide +kernel
theorem dX10_order_0 : decode cX10_order 0 = .ok (.aload_n 0, 1) := by decide +kernel
theorem dX10_order_1 : decode cX10_order 1 = .ok (.iconst 0, 1) := by decide +kernel
theorem dX10_order_2 : decode cX10_order 2 = .ok (.putfield 160, 3) := by decide +kernel
theorem dX10_order_5 : decode cX10_order 5 = .ok (.iload_n 1, 1) := by decide +kernel
theorem dX10_order_6 : decode cX10_order 6 = .ok (.ifCond .lt 8, 3) := by decide +kernel
theorem dX10_order_9 : decode cX10_order 9 = .ok (.iload_n 1, 1) := by decide +kernel
theorem dX10_order_10 : decode cX10_order 10 = .ok (.iconst 4, 1) := by decide +kernel
theorem dX10_order_11 : decode cX10_order 11 = .ok (.if_icmp .le 5, 3) := by decide +kernel
theorem dX10_order_14 : decode cX10_order 14 = .ok (.iconst (-1), 1) := by decide +kernel
theorem dX10_order_15 : decode cX10_order 15 = .ok (.ireturn, 1) := by decide +kernel
theorem dX10_order_16 : decode cX10_order 16 = .ok (.aload_n 0, 1) := by decide +kernel
theorem dX10_order_17 : decode cX10_order 17 = .ok (.iconst 0, 1) := by decide +kernel
theorem dX10_order_18 : decode cX10_order 18 = .ok (.putfield 488, 3) := by decide +kernel
theorem dX10_order_21 : decode cX10_order 21 = .ok (.iconst 0, 1) := by decide +kernel
theorem dX10_order_22 : decode cX10_order 22 = .ok (.istore_n 2, 1) := by decide +kernel
theorem dX10_order_23 : decode cX10_order 23 = .ok (.iload_n 2, 1) := by decide +kernel
theorem dX10_order_24 : decode cX10_order 24 = .ok (.aload_n 0, 1) := by decide +kernel
theorem dX10_order_25 : decode cX10_order 25 = .ok (.getfield 87, 3) := by decide +kernel
theorem dX10_order_28 : decode cX10_order 28 = .ok (.iconst 0, 1) := by decide +kernel
theorem dX10_order_29 : decode cX10_order 29 = .ok (.iaload, 1) := by decide +kernel
theorem dX10_order_30 : decode cX10_order 30 = .ok (.if_icmp .ge 49, 3) := by decide +kernel
theorem dX10_order_33 : decode cX10_order 33 = .ok (.aload_n 0, 1) := by decide +kernel
theorem dX10_order_34 : decode cX10_order 34 = .ok (.getfield 488, 3) := by decide +kernel
theorem dX10_order_37 : decode cX10_order 37 = .ok (.iconst 4, 1) := by decide +kernel
theorem dX10_order_38 : decode cX10_order 38 = .ok (.if_icmp .ge 41, 3) := by decide +kernel
theorem dX10_order_41 : decode cX10_order 41 = .ok (.aload_n 0, 1) := by decide +kernel
theorem dX10_order_42 : decode cX10_order 42 = .ok (.iconst 0, 1) := by decide +kernel
theorem dX10_order_43 : decode cX10_order 43 = .ok (.iload_n 2, 1) := by decide +kernel
theorem dX10_order_44 : decode cX10_order 44 = .ok (.invokevirtual 402, 3) := by decide +kernel
theorem dX10_order_47 : decode cX10_order 47 = .ok (.ifCond .ne 6, 3) := by decide +kernel
theorem dX10_order_50 : decode cX10_order 50 = .ok (.goto 23, 3) := by decide +kernel
theorem dX10_order_53 : decode cX10_order 53 = .ok (.aload_n 0, 1) := by decide +kernel
theorem dX10_order_54 : decode cX10_order 54 = .ok (.getfield 129, 3) := by decide +kernel
theorem dX10_order_57 : decode cX10_order 57 = .ok (.aload_n 0, 1) := by decide +kernel
theorem dX10_order_58 : decode cX10_order 58 = .ok (.getfield 488, 3) := by decide +kernel
theorem dX10_order_61 : decode cX10_order 61 = .ok (.iload_n 2, 1) := by decide +kernel
theorem dX10_order_62 : decode cX10_order 62 = .ok (.iastore, 1) := by decide +kernel
theorem dX10_order_63 : decode cX10_order 63 = .ok (.aload_n 0, 1) := by decide +kernel
theorem dX10_order_64 : decode cX10_order 64 = .ok (.dup, 1) := by decide +kernel
theorem dX10_order_65 : decode cX10_order 65 = .ok (.getfield 488, 3) := by decide +kernel
theorem dX10_order_68 : decode cX10_order 68 = .ok (.iconst 1, 1) := by decide +kernel
theorem dX10_order_69 : decode cX10_order 69 = .ok (.iadd, 1) := by decide +kernel
theorem dX10_order_70 : decode cX10_order 70 = .ok (.putfield 488, 3) := by decide +kernel
theorem dX10_order_73 : decode cX10_order 73 = .ok (.iinc 2 1, 3) := by decide +kernel
theorem dX10_order_76 : decode cX10_order 76 = .ok (.goto (-53), 3) := by decide +kernel
theorem dX10_order_79 : decode cX10_order 79 = .ok (.aload_n 0, 1) := by decide +kernel
theorem dX10_order_80 : decode cX10_order 80 = .ok (.iconst (-1), 1) := by decide +kernel
theorem dX10_order_81 : decode cX10_order 81 = .ok (.putfield 494, 3) := by decide +kernel
theorem dX10_order_84 : decode cX10_order 84 = .ok (.aload_n 0, 1) := by decide +kernel
theorem dX10_order_85 : decode cX10_order 85 = .ok (.iconst 0, 1) := by decide +kernel
theorem dX10_order_86 : decode cX10_order 86 = .ok (.iconst 0, 1) := by decide +kernel
theorem dX10_order_87 : decode cX10_order 87 = .ok (.invokevirtual 491, 3) := by decide +kernel
theorem dX10_order_90 : decode cX10_order 90 = .ok (.iload_n 1, 1) := by decide +kernel
theorem dX10_order_91 : decode cX10_order 91 = .ok (.iconst 4, 1) := by decide +kernel
theorem dX10_order_92 : decode cX10_order 92 = .ok (.if_icmp .ne 10, 3) := by decide +kernel
theorem dX10_order_95 : decode cX10_order 95 = .ok (.aload_n 0, 1) := by decide +kernel
theorem dX10_order_96 : decode cX10_order 96 = .ok (.getfield 494, 3) := by decide +kernel
theorem dX10_order_99 : decode cX10_order 99 = .ok (.goto 22, 3) := by decide +kernel
theorem dX10_order_102 : decode cX10_order 102 = .ok (.iload_n 1, 1) := by decide +kernel
theorem dX10_order_103 : decode cX10_order 103 = .ok (.aload_n 0, 1) := by decide +kernel
theorem dX10_order_104 : decode cX10_order 104 = .ok (.getfield 488, 3) := by decide +kernel
theorem dX10_order_107 : decode cX10_order 107 = .ok (.if_icmp .ge 12, 3) := by decide +kernel
theorem dX10_order_110 : decode cX10_order 110 = .ok (.aload_n 0, 1) := by decide +kernel
theorem dX10_order_111 : decode cX10_order 111 = .ok (.getfield 135, 3) := by decide +kernel
theorem dX10_order_114 : decode cX10_order 114 = .ok (.iload_n 1, 1) := by decide +kernel
theorem dX10_order_115 : decode cX10_order 115 = .ok (.iaload, 1) := by decide +kernel
theorem dX10_order_116 : decode cX10_order 116 = .ok (.goto 5, 3) := by decide +kernel
theorem dX10_order_119 : decode cX10_order 119 = .ok (.bipush (-2), 2) := by decide +kernel
theorem dX10_order_121 : decode cX10_order 121 = .ok (.ireturn, 1) := by decide +kernel
theorem dX10_hasOf_0 : decode cX10_hasOf 0 = .ok (.aload_n 0, 1) := by decide +kernel
theorem dX10_hasOf_1 : decode cX10_hasOf 1 = .ok (.getfield 93, 3) := by decide +kernel
theorem dX10_hasOf_4 : decode cX10_hasOf 4 = .ok (.aload_n 0, 1) := by decide +kernel
theorem dX10_hasOf_5 : decode cX10_hasOf 5 = .ok (.getfield 105, 3) := by decide +kernel
theorem dX10_hasOf_8 : decode cX10_hasOf 8 = .ok (.iload_n 1, 1) := by decide +kernel
theorem dX10_hasOf_9 : decode cX10_hasOf 9 = .ok (.iaload, 1) := by decide +kernel
theorem dX10_hasOf_10 : decode cX10_hasOf 10 = .ok (.iaload, 1) := by decide +kernel
theorem dX10_hasOf_11 : decode cX10_hasOf 11 = .ok (.istore 5, 2) := by decide +kernel
theorem dX10_hasOf_13 : decode cX10_hasOf 13 = .ok (.iload_n 3, 1) := by decide +kernel
theorem dX10_hasOf_14 : decode cX10_hasOf 14 = .ok (.iload 4, 2) := by decide +kernel
theorem dX10_hasOf_16 : decode cX10_hasOf 16 = .ok (.if_icmp .ne 19, 3) := by decide +kernel
theorem dX10_hasOf_19 : decode cX10_hasOf 19 = .ok (.aload_n 0, 1) := by decide +kernel
theorem dX10_hasOf_20 : decode cX10_hasOf 20 = .ok (.getfield 120, 3) := by decide +kernel
theorem dX10_hasOf_23 : decode cX10_hasOf 23 = .ok (.iload_n 1, 1) := by decide +kernel
theorem dX10_hasOf_24 : decode cX10_hasOf 24 = .ok (.iaload, 1) := by decide +kernel
theorem dX10_hasOf_25 : decode cX10_hasOf 25 = .ok (.iload 5, 2) := by decide +kernel
theorem dX10_hasOf_27 : decode cX10_hasOf 27 = .ok (.iconst 2, 1) := by decide +kernel
theorem dX10_hasOf_28 : decode cX10_hasOf 28 = .ok (.idiv, 1) := by decide +kernel
theorem dX10_hasOf_29 : decode cX10_hasOf 29 = .ok (.invokestatic 421, 3) := by decide +kernel
theorem dX10_hasOf_32 : decode cX10_hasOf 32 = .ok (.iload_n 3, 1) := by decide +kernel
theorem dX10_hasOf_33 : decode cX10_hasOf 33 = .ok (.isub, 1) := by decide +kernel
theorem dX10_hasOf_34 : decode cX10_hasOf 34 = .ok (.ireturn, 1) := by decide +kernel
theorem dX10_hasOf_35 : decode cX10_hasOf 35 = .ok (.iload_n 3, 1) := by decide +kernel
theorem dX10_hasOf_36 : decode cX10_hasOf 36 = .ok (.ifCond .ne 15, 3) := by decide +kernel
theorem dX10_hasOf_39 : decode cX10_hasOf 39 = .ok (.aload_n 0, 1) := by decide +kernel
theorem dX10_hasOf_40 : decode cX10_hasOf 40 = .ok (.getfield 120, 3) := by decide +kernel
theorem dX10_hasOf_43 : decode cX10_hasOf 43 = .ok (.iload_n 1, 1) := by decide +kernel
theorem dX10_hasOf_44 : decode cX10_hasOf 44 = .ok (.iaload, 1) := by decide +kernel
theorem dX10_hasOf_45 : decode cX10_hasOf 45 = .ok (.iload 5, 2) := by decide +kernel
theorem dX10_hasOf_47 : decode cX10_hasOf 47 = .ok (.invokestatic 421, 3) := by decide +kernel
theorem dX10_hasOf_50 : decode cX10_hasOf 50 = .ok (.ireturn, 1) := by decide +kernel
theorem dX10_hasOf_51 : decode cX10_hasOf 51 = .ok (.aload_n 0, 1) := by decide +kernel
theorem dX10_hasOf_52 : decode cX10_hasOf 52 = .ok (.getfield 120, 3) := by decide +kernel
theorem dX10_hasOf_55 : decode cX10_hasOf 55 = .ok (.iload_n 1, 1) := by decide +kernel
theorem dX10_hasOf_56 : decode cX10_hasOf 56 = .ok (.iaload, 1) := by decide +kernel
theorem dX10_hasOf_57 : decode cX10_hasOf 57 = .ok (.iload 5, 2) := by decide +kernel
theorem dX10_hasOf_59 : decode cX10_hasOf 59 = .ok (.aload_n 0, 1) := by decide +kernel
theorem dX10_hasOf_60 : decode cX10_hasOf 60 = .ok (.getfield 120, 3) := by decide +kernel
theorem dX10_hasOf_63 : decode cX10_hasOf 63 = .ok (.iload_n 2, 1) := by decide +kernel
theorem dX10_hasOf_64 : decode cX10_hasOf 64 = .ok (.iaload, 1) := by decide +kernel
theorem dX10_hasOf_65 : decode cX10_hasOf 65 = .ok (.iload 5, 2) := by decide +kernel
theorem dX10_hasOf_67 : decode cX10_hasOf 67 = .ok (.invokestatic 421, 3) := by decide +kernel
theorem dX10_hasOf_70 : decode cX10_hasOf 70 = .ok (.isub, 1) := by decide +kernel
theorem dX10_hasOf_71 : decode cX10_hasOf 71 = .ok (.invokestatic 421, 3) := by decide +kernel
theorem dX10_hasOf_74 : decode cX10_hasOf 74 = .ok (.iconst 1, 1) := by decide +kernel
theorem dX10_hasOf_75 : decode cX10_hasOf 75 = .ok (.isub, 1) := by decide +kernel
theorem dX10_hasOf_76 : decode cX10_hasOf 76 = .ok (.ireturn, 1) := by decide +kernel
theorem dX10_isRest_0 : decode cX10_isRest 0 = .ok (.iload_n 3, 1) := by decide +kernel
theorem dX10_isRest_1 : decode cX10_isRest 1 = .ok (.iconst 2, 1) := by decide +kernel
theorem dX10_isRest_2 : decode cX10_isRest 2 = .ok (.idiv, 1) := by decide +kernel
theorem dX10_isRest_3 : decode cX10_isRest 3 = .ok (.istore 4, 2) := by decide +kernel
theorem dX10_isRest_5 : decode cX10_isRest 5 = .ok (.iload_n 3, 1) := by decide +kernel
theorem dX10_isRest_6 : decode cX10_isRest 6 = .ok (.iconst 2, 1) := by decide +kernel
theorem dX10_isRest_7 : decode cX10_isRest 7 = .ok (.irem, 1) := by decide +kernel
theorem dX10_isRest_8 : decode cX10_isRest 8 = .ok (.istore 5, 2) := by decide +kernel
theorem dX10_isRest_10 : decode cX10_isRest 10 = .ok (.aload_n 0, 1) := by decide +kernel
theorem dX10_isRest_11 : decode cX10_isRest 11 = .ok (.iload_n 1, 1) := by decide +kernel
theorem dX10_isRest_12 : decode cX10_isRest 12 = .ok (.iload_n 2, 1) := by decide +kernel
theorem dX10_isRest_13 : decode cX10_isRest 13 = .ok (.iconst 1, 1) := by decide +kernel
theorem dX10_isRest_14 : decode cX10_isRest 14 = .ok (.iload 4, 2) := by decide +kernel
theorem dX10_isRest_16 : decode cX10_isRest 16 = .ok (.isub, 1) := by decide +kernel
theorem dX10_isRest_17 : decode cX10_isRest 17 = .ok (.iload 5, 2) := by decide +kernel
theorem dX10_isRest_19 : decode cX10_isRest 19 = .ok (.invokevirtual 497, 3) := by decide +kernel
theorem dX10_isRest_22 : decode cX10_isRest 22 = .ok (.aload_n 0, 1) := by decide +kernel
theorem dX10_isRest_23 : decode cX10_isRest 23 = .ok (.iload_n 1, 1) := by decide +kernel
theorem dX10_isRest_24 : decode cX10_isRest 24 = .ok (.iload_n 2, 1) := by decide +kernel
theorem dX10_isRest_25 : decode cX10_isRest 25 = .ok (.iload 4, 2) := by decide +kernel
theorem dX10_isRest_27 : decode cX10_isRest 27 = .ok (.iload 5, 2) := by decide +kernel
theorem dX10_isRest_29 : decode cX10_isRest 29 = .ok (.invokevirtual 497, 3) := by decide +kernel
theorem dX10_isRest_32 : decode cX10_isRest 32 = .ok (.if_icmp .gt 32, 3) := by decide +kernel
theorem dX10_isRest_35 : decode cX10_isRest 35 = .ok (.aload_n 0, 1) := by decide +kernel
theorem dX10_isRest_36 : decode cX10_isRest 36 = .ok (.iload_n 2, 1) := by decide +kernel
theorem dX10_isRest_37 : decode cX10_isRest 37 = .ok (.iload_n 1, 1) := by decide +kernel
theorem dX10_isRest_38 : decode cX10_isRest 38 = .ok (.iconst 1, 1) := by decide +kernel
theorem dX10_isRest_39 : decode cX10_isRest 39 = .ok (.iload 5, 2) := by decide +kernel
theorem dX10_isRest_41 : decode cX10_isRest 41 = .ok (.isub, 1) := by decide +kernel
theorem dX10_isRest_42 : decode cX10_isRest 42 = .ok (.iload 4, 2) := by decide +kernel
theorem dX10_isRest_44 : decode cX10_isRest 44 = .ok (.invokevirtual 497, 3) := by decide +kernel
theorem dX10_isRest_47 : decode cX10_isRest 47 = .ok (.aload_n 0, 1) := by decide +kernel
theorem dX10_isRest_48 : decode cX10_isRest 48 = .ok (.iload_n 2, 1) := by decide +kernel
theorem dX10_isRest_49 : decode cX10_isRest 49 = .ok (.iload_n 1, 1) := by decide +kernel
theorem dX10_isRest_50 : decode cX10_isRest 50 = .ok (.iload 5, 2) := by decide +kernel
theorem dX10_isRest_52 : decode cX10_isRest 52 = .ok (.iload 4, 2) := by decide +kernel
theorem dX10_isRest_54 : decode cX10_isRest 54 = .ok (.invokevirtual 497, 3) := by decide +kernel
theorem dX10_isRest_57 : decode cX10_isRest 57 = .ok (.if_icmp .gt 7, 3) := by decide +kernel
theorem dX10_isRest_60 : decode cX10_isRest 60 = .ok (.iconst 1, 1) := by decide +kernel
theorem dX10_isRest_61 : decode cX10_isRest 61 = .ok (.goto 4, 3) := by decide +kernel
theorem dX10_isRest_64 : decode cX10_isRest 64 = .ok (.iconst 0, 1) := by decide +kernel
theorem dX10_isRest_65 : decode cX10_isRest 65 = .ok (.ireturn, 1) := by decide +kernel
theorem dX10_restOf_0 : decode cX10_restOf 0 = .ok (.iconst 0, 1) := by decide +kernel
theorem dX10_restOf_1 : decode cX10_restOf 1 = .ok (.istore 4, 2) := by decide +kernel
theorem dX10_restOf_3 : decode cX10_restOf 3 = .ok (.iconst 0, 1) := by decide +kernel
theorem dX10_restOf_4 : decode cX10_restOf 4 = .ok (.istore 5, 2) := by decide +kernel
theorem dX10_restOf_6 : decode cX10_restOf 6 = .ok (.iload 5, 2) := by decide +kernel
theorem dX10_restOf_8 : decode cX10_restOf 8 = .ok (.iconst 4, 1) := by decide +kernel
theorem dX10_restOf_9 : decode cX10_restOf 9 = .ok (.if_icmp .ge 45, 3) := by decide +kernel
theorem dX10_restOf_12 : decode cX10_restOf 12 = .ok (.aload_n 0, 1) := by decide +kernel
theorem dX10_restOf_13 : decode cX10_restOf 13 = .ok (.iload_n 1, 1) := by decide +kernel
theorem dX10_restOf_14 : decode cX10_restOf 14 = .ok (.iload_n 2, 1) := by decide +kernel
theorem dX10_restOf_15 : decode cX10_restOf 15 = .ok (.iload 5, 2) := by decide +kernel
theorem dX10_restOf_17 : decode cX10_restOf 17 = .ok (.invokevirtual 501, 3) := by decide +kernel
theorem dX10_restOf_20 : decode cX10_restOf 20 = .ok (.ifCond .ne 6, 3) := by decide +kernel
theorem dX10_restOf_23 : decode cX10_restOf 23 = .ok (.goto 25, 3) := by decide +kernel
theorem dX10_restOf_26 : decode cX10_restOf 26 = .ok (.iload 4, 2) := by decide +kernel
theorem dX10_restOf_28 : decode cX10_restOf 28 = .ok (.iload_n 3, 1) := by decide +kernel
theorem dX10_restOf_29 : decode cX10_restOf 29 = .ok (.if_icmp .ne 16, 3) := by decide +kernel
theorem dX10_restOf_32 : decode cX10_restOf 32 = .ok (.bipush 10, 2) := by decide +kernel
theorem dX10_restOf_34 : decode cX10_restOf 34 = .ok (.iload 5, 2) := by decide +kernel
theorem dX10_restOf_36 : decode cX10_restOf 36 = .ok (.iconst 2, 1) := by decide +kernel
theorem dX10_restOf_37 : decode cX10_restOf 37 = .ok (.idiv, 1) := by decide +kernel
theorem dX10_restOf_38 : decode cX10_restOf 38 = .ok (.imul, 1) := by decide +kernel
theorem dX10_restOf_39 : decode cX10_restOf 39 = .ok (.iload 5, 2) := by decide +kernel
theorem dX10_restOf_41 : decode cX10_restOf 41 = .ok (.iconst 2, 1) := by decide +kernel
theorem dX10_restOf_42 : decode cX10_restOf 42 = .ok (.irem, 1) := by decide +kernel
theorem dX10_restOf_43 : decode cX10_restOf 43 = .ok (.iadd, 1) := by decide +kernel
theorem dX10_restOf_44 : decode cX10_restOf 44 = .ok (.ireturn, 1) := by decide +kernel
theorem dX10_restOf_45 : decode cX10_restOf 45 = .ok (.iinc 4 1, 3) := by decide +kernel
theorem dX10_restOf_48 : decode cX10_restOf 48 = .ok (.iinc 5 1, 3) := by decide +kernel
theorem dX10_restOf_51 : decode cX10_restOf 51 = .ok (.goto (-45), 3) := by decide +kernel
theorem dX10_restOf_54 : decode cX10_restOf 54 = .ok (.iload_n 3, 1) := by decide +kernel
theorem dX10_restOf_55 : decode cX10_restOf 55 = .ok (.iconst (-1), 1) := by decide +kernel
theorem dX10_restOf_56 : decode cX10_restOf 56 = .ok (.if_icmp .ne 8, 3) := by decide +kernel
theorem dX10_restOf_59 : decode cX10_restOf 59 = .ok (.iload 4, 2) := by decide +kernel
theorem dX10_restOf_61 : decode cX10_restOf 61 = .ok (.goto 5, 3) := by decide +kernel
theorem dX10_restOf_64 : decode cX10_restOf 64 = .ok (.bipush (-2), 2) := by decide +kernel
theorem dX10_restOf_66 : decode cX10_restOf 66 = .ok (.ireturn, 1) := by decide +kernel
theorem dX10_areTwo_0 : decode cX10_areTwo 0 = .ok (.aload_n 0, 1) := by decide +kernel
theorem dX10_areTwo_1 : decode cX10_areTwo 1 = .ok (.iload_n 1, 1) := by decide +kernel
theorem dX10_areTwo_2 : decode cX10_areTwo 2 = .ok (.invokevirtual 456, 3) := by decide +kernel
theorem dX10_areTwo_5 : decode cX10_areTwo 5 = .ok (.ifCond .eq 53, 3) := by decide +kernel
theorem dX10_areTwo_8 : decode cX10_areTwo 8 = .ok (.aload_n 0, 1) := by decide +kernel
theorem dX10_areTwo_9 : decode cX10_areTwo 9 = .ok (.iload_n 2, 1) := by decide +kernel
theorem dX10_areTwo_10 : decode cX10_areTwo 10 = .ok (.invokevirtual 456, 3) := by decide +kernel
theorem dX10_areTwo_13 : decode cX10_areTwo 13 = .ok (.ifCond .eq 45, 3) := by decide +kernel
theorem dX10_areTwo_16 : decode cX10_areTwo 16 = .ok (.iload_n 1, 1) := by decide +kernel
theorem dX10_areTwo_17 : decode cX10_areTwo 17 = .ok (.iload_n 2, 1) := by decide +kernel
theorem dX10_areTwo_18 : decode cX10_areTwo 18 = .ok (.if_icmp .eq 40, 3) := by decide +kernel
theorem dX10_areTwo_21 : decode cX10_areTwo 21 = .ok (.aload_n 0, 1) := by decide +kernel
theorem dX10_areTwo_22 : decode cX10_areTwo 22 = .ok (.iconst 0, 1) := by decide +kernel
theorem dX10_areTwo_23 : decode cX10_areTwo 23 = .ok (.iload_n 1, 1) := by decide +kernel
theorem dX10_areTwo_24 : decode cX10_areTwo 24 = .ok (.invokevirtual 402, 3) := by decide +kernel
theorem dX10_areTwo_27 : decode cX10_areTwo 27 = .ok (.ifCond .eq 31, 3) := by decide +kernel
theorem dX10_areTwo_30 : decode cX10_areTwo 30 = .ok (.aload_n 0, 1) := by decide +kernel
theorem dX10_areTwo_31 : decode cX10_areTwo 31 = .ok (.iconst 0, 1) := by decide +kernel
theorem dX10_areTwo_32 : decode cX10_areTwo 32 = .ok (.iload_n 2, 1) := by decide +kernel
theorem dX10_areTwo_33 : decode cX10_areTwo 33 = .ok (.invokevirtual 402, 3) := by decide +kernel
theorem dX10_areTwo_36 : decode cX10_areTwo 36 = .ok (.ifCond .eq 22, 3) := by decide +kernel
theorem dX10_areTwo_39 : decode cX10_areTwo 39 = .ok (.aload_n 0, 1) := by decide +kernel
theorem dX10_areTwo_40 : decode cX10_areTwo 40 = .ok (.getfield 105, 3) := by decide +kernel
theorem dX10_areTwo_43 : decode cX10_areTwo 43 = .ok (.iload_n 1, 1) := by decide +kernel
theorem dX10_areTwo_44 : decode cX10_areTwo 44 = .ok (.iaload, 1) := by decide +kernel
theorem dX10_areTwo_45 : decode cX10_areTwo 45 = .ok (.aload_n 0, 1) := by decide +kernel
theorem dX10_areTwo_46 : decode cX10_areTwo 46 = .ok (.getfield 105, 3) := by decide +kernel
theorem dX10_areTwo_49 : decode cX10_areTwo 49 = .ok (.iload_n 2, 1) := by decide +kernel
theorem dX10_areTwo_50 : decode cX10_areTwo 50 = .ok (.iaload, 1) := by decide +kernel
theorem dX10_areTwo_51 : decode cX10_areTwo 51 = .ok (.if_icmp .ne 7, 3) := by decide +kernel
theorem dX10_areTwo_54 : decode cX10_areTwo 54 = .ok (.iconst 1, 1) := by decide +kernel
theorem dX10_areTwo_55 : decode cX10_areTwo 55 = .ok (.goto 4, 3) := by decide +kernel
theorem dX10_areTwo_58 : decode cX10_areTwo 58 = .ok (.iconst 0, 1) := by decide +kernel
theorem dX10_areTwo_59 : decode cX10_areTwo 59 = .ok (.ireturn, 1) := by decide +kernel
theorem dX10_rests_0 : decode cX10_rests 0 = .ok (.aload_n 0, 1) := by decide +kernel
theorem dX10_rests_1 : decode cX10_rests 1 = .ok (.iconst 0, 1) := by decide +kernel
theorem dX10_rests_2 : decode cX10_rests 2 = .ok (.putfield 160, 3) := by decide +kernel
theorem dX10_rests_5 : decode cX10_rests 5 = .ok (.aload_n 0, 1) := by decide +kernel
theorem dX10_rests_6 : decode cX10_rests 6 = .ok (.iload_n 1, 1) := by decide +kernel
theorem dX10_rests_7 : decode cX10_rests 7 = .ok (.iload_n 2, 1) := by decide +kernel
theorem dX10_rests_8 : decode cX10_rests 8 = .ok (.invokevirtual 505, 3) := by decide +kernel
theorem dX10_rests_11 : decode cX10_rests 11 = .ok (.ifCond .eq 13, 3) := by decide +kernel
theorem dX10_rests_14 : decode cX10_rests 14 = .ok (.aload_n 0, 1) := by decide +kernel
theorem dX10_rests_15 : decode cX10_rests 15 = .ok (.iload_n 1, 1) := by decide +kernel
theorem dX10_rests_16 : decode cX10_rests 16 = .ok (.iload_n 2, 1) := by decide +kernel
theorem dX10_rests_17 : decode cX10_rests 17 = .ok (.iconst (-1), 1) := by decide +kernel
theorem dX10_rests_18 : decode cX10_rests 18 = .ok (.invokevirtual 508, 3) := by decide +kernel
theorem dX10_rests_21 : decode cX10_rests 21 = .ok (.goto 4, 3) := by decide +kernel
theorem dX10_rests_24 : decode cX10_rests 24 = .ok (.iconst (-1), 1) := by decide +kernel
theorem dX10_rests_25 : decode cX10_rests 25 = .ok (.ireturn, 1) := by decide +kernel
theorem dX10_rest_0 : decode cX10_rest 0 = .ok (.aload_n 0, 1) := by decide +kernel
theorem dX10_rest_1 : decode cX10_rest 1 = .ok (.iconst 0, 1) := by decide +kernel
theorem dX10_rest_2 : decode cX10_rest 2 = .ok (.putfield 160, 3) := by decide +kernel
theorem dX10_rest_5 : decode cX10_rest 5 = .ok (.aload_n 0, 1) := by decide +kernel
theorem dX10_rest_6 : decode cX10_rest 6 = .ok (.iload_n 1, 1) := by decide +kernel
theorem dX10_rest_7 : decode cX10_rest 7 = .ok (.iload_n 2, 1) := by decide +kernel
theorem dX10_rest_8 : decode cX10_rest 8 = .ok (.invokevirtual 505, 3) := by decide +kernel
theorem dX10_rest_11 : decode cX10_rest 11 = .ok (.ifCond .eq 17, 3) := by decide +kernel
theorem dX10_rest_14 : decode cX10_rest 14 = .ok (.iload_n 3, 1) := by decide +kernel
theorem dX10_rest_15 : decode cX10_rest 15 = .ok (.ifCond .lt 13, 3) := by decide +kernel
theorem dX10_rest_18 : decode cX10_rest 18 = .ok (.aload_n 0, 1) := by decide +kernel
theorem dX10_rest_19 : decode cX10_rest 19 = .ok (.iload_n 1, 1) := by decide +kernel
theorem dX10_rest_20 : decode cX10_rest 20 = .ok (.iload_n 2, 1) := by decide +kernel
theorem dX10_rest_21 : decode cX10_rest 21 = .ok (.iload_n 3, 1) := by decide +kernel
theorem dX10_rest_22 : decode cX10_rest 22 = .ok (.invokevirtual 508, 3) := by decide +kernel
theorem dX10_rest_25 : decode cX10_rest 25 = .ok (.goto 4, 3) := by decide +kernel
theorem dX10_rest_28 : decode cX10_rest 28 = .ok (.iconst (-1), 1) := by decide +kernel
theorem dX10_rest_29 : decode cX10_rest 29 = .ok (.ireturn, 1) := by decide +kernel
theorem dX10_common_0 : decode cX10_common 0 = .ok (.lload_n 0, 1) := by decide +kernel
theorem dX10_common_1 : decode cX10_common 1 = .ok (.lstore 4, 2) := by decide +kernel
theorem dX10_common_3 : decode cX10_common 3 = .ok (.lload_n 2, 1) := by decide +kernel
theorem dX10_common_4 : decode cX10_common 4 = .ok (.lstore 6, 2) := by decide +kernel
theorem dX10_common_6 : decode cX10_common 6 = .ok (.lload 6, 2) := by decide +kernel
theorem dX10_common_8 : decode cX10_common 8 = .ok (.lconst 0, 1) := by decide +kernel
theorem dX10_common_9 : decode cX10_common 9 = .ok (.lcmp, 1) := by decide +kernel
theorem dX10_common_10 : decode cX10_common 10 = .ok (.ifCond .eq 21, 3) := by decide +kernel
theorem dX10_common_13 : decode cX10_common 13 = .ok (.lload 4, 2) := by decide +kernel
theorem dX10_common_15 : decode cX10_common 15 = .ok (.lload 6, 2) := by decide +kernel
theorem dX10_common_17 : decode cX10_common 17 = .ok (.lrem, 1) := by decide +kernel
theorem dX10_common_18 : decode cX10_common 18 = .ok (.lstore 8, 2) := by decide +kernel
theorem dX10_common_20 : decode cX10_common 20 = .ok (.lload 6, 2) := by decide +kernel
theorem dX10_common_22 : decode cX10_common 22 = .ok (.lstore 4, 2) := by decide +kernel
theorem dX10_common_24 : decode cX10_common 24 = .ok (.lload 8, 2) := by decide +kernel
theorem dX10_common_26 : decode cX10_common 26 = .ok (.lstore 6, 2) := by decide +kernel
theorem dX10_common_28 : decode cX10_common 28 = .ok (.goto (-22), 3) := by decide +kernel
theorem dX10_common_31 : decode cX10_common 31 = .ok (.lload 4, 2) := by decide +kernel
theorem dX10_common_33 : decode cX10_common 33 = .ok (.lreturn, 1) := by decide +kernel
theorem dX10_lives_0 : decode cX10_lives 0 = .ok (.aload_n 0, 1) := by decide +kernel
theorem dX10_lives_1 : decode cX10_lives 1 = .ok (.iconst 0, 1) := by decide +kernel
theorem dX10_lives_2 : decode cX10_lives 2 = .ok (.putfield 160, 3) := by decide +kernel
theorem dX10_lives_5 : decode cX10_lives 5 = .ok (.aload_n 0, 1) := by decide +kernel
theorem dX10_lives_6 : decode cX10_lives 6 = .ok (.iload_n 1, 1) := by decide +kernel
theorem dX10_lives_7 : decode cX10_lives 7 = .ok (.invokevirtual 466, 3) := by decide +kernel
theorem dX10_lives_10 : decode cX10_lives 10 = .ok (.ifCond .eq 31, 3) := by decide +kernel
theorem dX10_lives_13 : decode cX10_lives 13 = .ok (.aload_n 0, 1) := by decide +kernel
theorem dX10_lives_14 : decode cX10_lives 14 = .ok (.iconst 0, 1) := by decide +kernel
theorem dX10_lives_15 : decode cX10_lives 15 = .ok (.iload_n 1, 1) := by decide +kernel
theorem dX10_lives_16 : decode cX10_lives 16 = .ok (.invokevirtual 391, 3) := by decide +kernel
theorem dX10_lives_19 : decode cX10_lives 19 = .ok (.ifCond .eq 22, 3) := by decide +kernel
theorem dX10_lives_22 : decode cX10_lives 22 = .ok (.iload_n 2, 1) := by decide +kernel
theorem dX10_lives_23 : decode cX10_lives 23 = .ok (.ifCond .lt 18, 3) := by decide +kernel
theorem dX10_lives_26 : decode cX10_lives 26 = .ok (.iload_n 2, 1) := by decide +kernel
theorem dX10_lives_27 : decode cX10_lives 27 = .ok (.bipush 6, 2) := by decide +kernel
theorem dX10_lives_29 : decode cX10_lives 29 = .ok (.if_icmp .gt 12, 3) := by decide +kernel
theorem dX10_lives_32 : decode cX10_lives 32 = .ok (.iload_n 3, 1) := by decide +kernel
theorem dX10_lives_33 : decode cX10_lives 33 = .ok (.ifCond .lt 8, 3) := by decide +kernel
theorem dX10_lives_36 : decode cX10_lives 36 = .ok (.iload_n 3, 1) := by decide +kernel
theorem dX10_lives_37 : decode cX10_lives 37 = .ok (.iconst 1, 1) := by decide +kernel
theorem dX10_lives_38 : decode cX10_lives 38 = .ok (.if_icmp .le 7, 3) := by decide +kernel
theorem dX10_lives_41 : decode cX10_lives 41 = .ok (.ldc2_w 511, 3) := by decide +kernel
theorem dX10_lives_44 : decode cX10_lives 44 = .ok (.lreturn, 1) := by decide +kernel
theorem dX10_lives_45 : decode cX10_lives 45 = .ok (.lconst 1, 1) := by decide +kernel
theorem dX10_lives_46 : decode cX10_lives 46 = .ok (.lstore 4, 2) := by decide +kernel
theorem dX10_lives_48 : decode cX10_lives 48 = .ok (.lconst 1, 1) := by decide +kernel
theorem dX10_lives_49 : decode cX10_lives 49 = .ok (.lstore 6, 2) := by decide +kernel
theorem dX10_lives_51 : decode cX10_lives 51 = .ok (.aload_n 0, 1) := by decide +kernel
theorem dX10_lives_52 : decode cX10_lives 52 = .ok (.iconst 1, 1) := by decide +kernel
theorem dX10_lives_53 : decode cX10_lives 53 = .ok (.iconst 0, 1) := by decide +kernel
theorem dX10_lives_54 : decode cX10_lives 54 = .ok (.invokevirtual 450, 3) := by decide +kernel
theorem dX10_lives_57 : decode cX10_lives 57 = .ok (.iconst 0, 1) := by decide +kernel
theorem dX10_lives_58 : decode cX10_lives 58 = .ok (.istore 8, 2) := by decide +kernel
theorem dX10_lives_60 : decode cX10_lives 60 = .ok (.iload 8, 2) := by decide +kernel
theorem dX10_lives_62 : decode cX10_lives 62 = .ok (.iload_n 2, 1) := by decide +kernel
theorem dX10_lives_63 : decode cX10_lives 63 = .ok (.if_icmp .ge 60, 3) := by decide +kernel
theorem dX10_lives_66 : decode cX10_lives 66 = .ok (.bipush 6, 2) := by decide +kernel
theorem dX10_lives_68 : decode cX10_lives 68 = .ok (.iload_n 1, 1) := by decide +kernel
theorem dX10_lives_69 : decode cX10_lives 69 = .ok (.iadd, 1) := by decide +kernel
theorem dX10_lives_70 : decode cX10_lives 70 = .ok (.istore 9, 2) := by decide +kernel
theorem dX10_lives_72 : decode cX10_lives 72 = .ok (.aload_n 0, 1) := by decide +kernel
theorem dX10_lives_73 : decode cX10_lives 73 = .ok (.getfield 96, 3) := by decide +kernel
theorem dX10_lives_76 : decode cX10_lives 76 = .ok (.iload 9, 2) := by decide +kernel
theorem dX10_lives_78 : decode cX10_lives 78 = .ok (.bipush 99, 2) := by decide +kernel
theorem dX10_lives_80 : decode cX10_lives 80 = .ok (.aload_n 0, 1) := by decide +kernel
theorem dX10_lives_81 : decode cX10_lives 81 = .ok (.getfield 96, 3) := by decide +kernel
theorem dX10_lives_84 : decode cX10_lives 84 = .ok (.iload 9, 2) := by decide +kernel
theorem dX10_lives_86 : decode cX10_lives 86 = .ok (.iaload, 1) := by decide +kernel
theorem dX10_lives_87 : decode cX10_lives 87 = .ok (.iconst 1, 1) := by decide +kernel
theorem dX10_lives_88 : decode cX10_lives 88 = .ok (.iadd, 1) := by decide +kernel
theorem dX10_lives_89 : decode cX10_lives 89 = .ok (.invokestatic 421, 3) := by decide +kernel
theorem dX10_lives_92 : decode cX10_lives 92 = .ok (.iastore, 1) := by decide +kernel
theorem dX10_lives_93 : decode cX10_lives 93 = .ok (.lload 4, 2) := by decide +kernel
theorem dX10_lives_95 : decode cX10_lives 95 = .ok (.ldc2_w 380, 3) := by decide +kernel
theorem dX10_lives_98 : decode cX10_lives 98 = .ok (.aload_n 0, 1) := by decide +kernel
theorem dX10_lives_99 : decode cX10_lives 99 = .ok (.iconst 1, 1) := by decide +kernel
theorem dX10_lives_100 : decode cX10_lives 100 = .ok (.iload_n 1, 1) := by decide +kernel
theorem dX10_lives_101 : decode cX10_lives 101 = .ok (.invokevirtual 414, 3) := by decide +kernel
theorem dX10_lives_104 : decode cX10_lives 104 = .ok (.i2l, 1) := by decide +kernel
theorem dX10_lives_105 : decode cX10_lives 105 = .ok (.lsub, 1) := by decide +kernel
theorem dX10_lives_106 : decode cX10_lives 106 = .ok (.lmul, 1) := by decide +kernel
theorem dX10_lives_107 : decode cX10_lives 107 = .ok (.lstore 4, 2) := by decide +kernel
theorem dX10_lives_109 : decode cX10_lives 109 = .ok (.lload 6, 2) := by decide +kernel
theorem dX10_lives_111 : decode cX10_lives 111 = .ok (.ldc2_w 380, 3) := by decide +kernel
theorem dX10_lives_114 : decode cX10_lives 114 = .ok (.lmul, 1) := by decide +kernel
theorem dX10_lives_115 : decode cX10_lives 115 = .ok (.lstore 6, 2) := by decide +kernel
theorem dX10_lives_117 : decode cX10_lives 117 = .ok (.iinc 8 1, 3) := by decide +kernel
theorem dX10_lives_120 : decode cX10_lives 120 = .ok (.goto (-60), 3) := by decide +kernel
theorem dX10_lives_123 : decode cX10_lives 123 = .ok (.lload 4, 2) := by decide +kernel
theorem dX10_lives_125 : decode cX10_lives 125 = .ok (.lload 6, 2) := by decide +kernel
theorem dX10_lives_127 : decode cX10_lives 127 = .ok (.invokestatic 513, 3) := by decide +kernel
theorem dX10_lives_130 : decode cX10_lives 130 = .ok (.lstore 8, 2) := by decide +kernel
theorem dX10_lives_132 : decode cX10_lives 132 = .ok (.iload_n 3, 1) := by decide +kernel
theorem dX10_lives_133 : decode cX10_lives 133 = .ok (.ifCond .ne 11, 3) := by decide +kernel
theorem dX10_lives_136 : decode cX10_lives 136 = .ok (.lload 4, 2) := by decide +kernel
theorem dX10_lives_138 : decode cX10_lives 138 = .ok (.lload 8, 2) := by decide +kernel
theorem dX10_lives_140 : decode cX10_lives 140 = .ok (.ldiv, 1) := by decide +kernel
theorem dX10_lives_141 : decode cX10_lives 141 = .ok (.goto 8, 3) := by decide +kernel
theorem dX10_lives_144 : decode cX10_lives 144 = .ok (.lload 6, 2) := by decide +kernel
theorem dX10_lives_146 : decode cX10_lives 146 = .ok (.lload 8, 2) := by decide +kernel
theorem dX10_lives_148 : decode cX10_lives 148 = .ok (.ldiv, 1) := by decide +kernel
theorem dX10_lives_149 : decode cX10_lives 149 = .ok (.lreturn, 1) := by decide +kernel
theorem dX10_lastsBefore_0 : decode cX10_lastsBefore 0 = .ok (.aload_n 0, 1) := by decide +kernel
theorem dX10_lastsBefore_1 : decode cX10_lastsBefore 1 = .ok (.iconst 1, 1) := by decide +kernel
theorem dX10_lastsBefore_2 : decode cX10_lastsBefore 2 = .ok (.iconst 0, 1) := by decide +kernel
theorem dX10_lastsBefore_3 : decode cX10_lastsBefore 3 = .ok (.invokevirtual 450, 3) := by decide +kernel
theorem dX10_lastsBefore_6 : decode cX10_lastsBefore 6 = .ok (.iconst 1, 1) := by decide +kernel
theorem dX10_lastsBefore_7 : decode cX10_lastsBefore 7 = .ok (.iload_n 1, 1) := by decide +kernel
theorem dX10_lastsBefore_8 : decode cX10_lastsBefore 8 = .ok (.ishl, 1) := by decide +kernel
theorem dX10_lastsBefore_9 : decode cX10_lastsBefore 9 = .ok (.istore_n 2, 1) := by decide +kernel
theorem dX10_lastsBefore_10 : decode cX10_lastsBefore 10 = .ok (.iconst 0, 1) := by decide +kernel
theorem dX10_lastsBefore_11 : decode cX10_lastsBefore 11 = .ok (.istore_n 3, 1) := by decide +kernel
theorem dX10_lastsBefore_12 : decode cX10_lastsBefore 12 = .ok (.iload_n 3, 1) := by decide +kernel
theorem dX10_lastsBefore_13 : decode cX10_lastsBefore 13 = .ok (.bipush 99, 2) := by decide +kernel
theorem dX10_lastsBefore_15 : decode cX10_lastsBefore 15 = .ok (.if_icmp .ge 137, 3) := by decide +kernel
theorem dX10_lastsBefore_18 : decode cX10_lastsBefore 18 = .ok (.iconst 0, 1) := by decide +kernel
theorem dX10_lastsBefore_19 : decode cX10_lastsBefore 19 = .ok (.istore 4, 2) := by decide +kernel
theorem dX10_lastsBefore_21 : decode cX10_lastsBefore 21 = .ok (.iload 4, 2) := by decide +kernel
theorem dX10_lastsBefore_23 : decode cX10_lastsBefore 23 = .ok (.aload_n 0, 1) := by decide +kernel
theorem dX10_lastsBefore_24 : decode cX10_lastsBefore 24 = .ok (.getfield 13, 3) := by decide +kernel
theorem dX10_lastsBefore_27 : decode cX10_lastsBefore 27 = .ok (.iconst 3, 1) := by decide +kernel
theorem dX10_lastsBefore_28 : decode cX10_lastsBefore 28 = .ok (.iaload, 1) := by decide +kernel
theorem dX10_lastsBefore_29 : decode cX10_lastsBefore 29 = .ok (.if_icmp .ge 94, 3) := by decide +kernel
theorem dX10_lastsBefore_32 : decode cX10_lastsBefore 32 = .ok (.aload_n 0, 1) := by decide +kernel
theorem dX10_lastsBefore_33 : decode cX10_lastsBefore 33 = .ok (.getfield 55, 3) := by decide +kernel
theorem dX10_lastsBefore_36 : decode cX10_lastsBefore 36 = .ok (.iload 4, 2) := by decide +kernel
theorem dX10_lastsBefore_38 : decode cX10_lastsBefore 38 = .ok (.iaload, 1) := by decide +kernel
theorem dX10_lastsBefore_39 : decode cX10_lastsBefore 39 = .ok (.aload_n 0, 1) := by decide +kernel
theorem dX10_lastsBefore_40 : decode cX10_lastsBefore 40 = .ok (.getfield 81, 3) := by decide +kernel
theorem dX10_lastsBefore_43 : decode cX10_lastsBefore 43 = .ok (.iconst 1, 1) := by decide +kernel
theorem dX10_lastsBefore_44 : decode cX10_lastsBefore 44 = .ok (.iaload, 1) := by decide +kernel
theorem dX10_lastsBefore_45 : decode cX10_lastsBefore 45 = .ok (.if_icmp .ne 37, 3) := by decide +kernel
theorem dX10_lastsBefore_48 : decode cX10_lastsBefore 48 = .ok (.aload_n 0, 1) := by decide +kernel
theorem dX10_lastsBefore_49 : decode cX10_lastsBefore 49 = .ok (.iconst 1, 1) := by decide +kernel
theorem dX10_lastsBefore_50 : decode cX10_lastsBefore 50 = .ok (.aload_n 0, 1) := by decide +kernel
theorem dX10_lastsBefore_51 : decode cX10_lastsBefore 51 = .ok (.getfield 49, 3) := by decide +kernel
theorem dX10_lastsBefore_54 : decode cX10_lastsBefore 54 = .ok (.iload 4, 2) := by decide +kernel
theorem dX10_lastsBefore_56 : decode cX10_lastsBefore 56 = .ok (.iaload, 1) := by decide +kernel
theorem dX10_lastsBefore_57 : decode cX10_lastsBefore 57 = .ok (.invokevirtual 391, 3) := by decide +kernel
theorem dX10_lastsBefore_60 : decode cX10_lastsBefore 60 = .ok (.ifCond .eq 22, 3) := by decide +kernel
theorem dX10_lastsBefore_63 : decode cX10_lastsBefore 63 = .ok (.aload_n 0, 1) := by decide +kernel
theorem dX10_lastsBefore_64 : decode cX10_lastsBefore 64 = .ok (.iconst 1, 1) := by decide +kernel
theorem dX10_lastsBefore_65 : decode cX10_lastsBefore 65 = .ok (.aload_n 0, 1) := by decide +kernel
theorem dX10_lastsBefore_66 : decode cX10_lastsBefore 66 = .ok (.getfield 52, 3) := by decide +kernel
theorem dX10_lastsBefore_69 : decode cX10_lastsBefore 69 = .ok (.iload 4, 2) := by decide +kernel
theorem dX10_lastsBefore_71 : decode cX10_lastsBefore 71 = .ok (.iaload, 1) := by decide +kernel
theorem dX10_lastsBefore_72 : decode cX10_lastsBefore 72 = .ok (.invokevirtual 391, 3) := by decide +kernel
theorem dX10_lastsBefore_75 : decode cX10_lastsBefore 75 = .ok (.ifCond .eq 7, 3) := by decide +kernel
theorem dX10_lastsBefore_78 : decode cX10_lastsBefore 78 = .ok (.iconst 1, 1) := by decide +kernel
theorem dX10_lastsBefore_79 : decode cX10_lastsBefore 79 = .ok (.goto 4, 3) := by decide +kernel
theorem dX10_lastsBefore_82 : decode cX10_lastsBefore 82 = .ok (.iconst 0, 1) := by decide +kernel
theorem dX10_lastsBefore_83 : decode cX10_lastsBefore 83 = .ok (.istore 5, 2) := by decide +kernel
theorem dX10_lastsBefore_85 : decode cX10_lastsBefore 85 = .ok (.iload 5, 2) := by decide +kernel
theorem dX10_lastsBefore_87 : decode cX10_lastsBefore 87 = .ok (.ifCond .eq 30, 3) := by decide +kernel
theorem dX10_lastsBefore_90 : decode cX10_lastsBefore 90 = .ok (.iload_n 2, 1) := by decide +kernel
theorem dX10_lastsBefore_91 : decode cX10_lastsBefore 91 = .ok (.aload_n 0, 1) := by decide +kernel
theorem dX10_lastsBefore_92 : decode cX10_lastsBefore 92 = .ok (.getfield 49, 3) := by decide +kernel
theorem dX10_lastsBefore_95 : decode cX10_lastsBefore 95 = .ok (.iload 4, 2) := by decide +kernel
theorem dX10_lastsBefore_97 : decode cX10_lastsBefore 97 = .ok (.iaload, 1) := by decide +kernel
theorem dX10_lastsBefore_98 : decode cX10_lastsBefore 98 = .ok (.ishr, 1) := by decide +kernel
theorem dX10_lastsBefore_99 : decode cX10_lastsBefore 99 = .ok (.iconst 1, 1) := by decide +kernel
theorem dX10_lastsBefore_100 : decode cX10_lastsBefore 100 = .ok (.iand, 1) := by decide +kernel
theorem dX10_lastsBefore_101 : decode cX10_lastsBefore 101 = .ok (.iconst 1, 1) := by decide +kernel
theorem dX10_lastsBefore_102 : decode cX10_lastsBefore 102 = .ok (.if_icmp .ne 15, 3) := by decide +kernel
theorem dX10_lastsBefore_105 : decode cX10_lastsBefore 105 = .ok (.iload_n 2, 1) := by decide +kernel
theorem dX10_lastsBefore_106 : decode cX10_lastsBefore 106 = .ok (.iconst 1, 1) := by decide +kernel
theorem dX10_lastsBefore_107 : decode cX10_lastsBefore 107 = .ok (.aload_n 0, 1) := by decide +kernel
theorem dX10_lastsBefore_108 : decode cX10_lastsBefore 108 = .ok (.getfield 52, 3) := by decide +kernel
theorem dX10_lastsBefore_111 : decode cX10_lastsBefore 111 = .ok (.iload 4, 2) := by decide +kernel
theorem dX10_lastsBefore_113 : decode cX10_lastsBefore 113 = .ok (.iaload, 1) := by decide +kernel
theorem dX10_lastsBefore_114 : decode cX10_lastsBefore 114 = .ok (.ishl, 1) := by decide +kernel
theorem dX10_lastsBefore_115 : decode cX10_lastsBefore 115 = .ok (.ior, 1) := by decide +kernel
theorem dX10_lastsBefore_116 : decode cX10_lastsBefore 116 = .ok (.istore_n 2, 1) := by decide +kernel
theorem dX10_lastsBefore_117 : decode cX10_lastsBefore 117 = .ok (.iinc 4 1, 3) := by decide +kernel
theorem dX10_lastsBefore_120 : decode cX10_lastsBefore 120 = .ok (.goto (-99), 3) := by decide +kernel
theorem dX10_lastsBefore_123 : decode cX10_lastsBefore 123 = .ok (.aload_n 0, 1) := by decide +kernel
theorem dX10_lastsBefore_124 : decode cX10_lastsBefore 124 = .ok (.iconst 1, 1) := by decide +kernel
theorem dX10_lastsBefore_125 : decode cX10_lastsBefore 125 = .ok (.iconst 0, 1) := by decide +kernel
theorem dX10_lastsBefore_126 : decode cX10_lastsBefore 126 = .ok (.invokevirtual 447, 3) := by decide +kernel
theorem dX10_lastsBefore_129 : decode cX10_lastsBefore 129 = .ok (.iload_n 2, 1) := by decide +kernel
theorem dX10_lastsBefore_130 : decode cX10_lastsBefore 130 = .ok (.aload_n 0, 1) := by decide +kernel
theorem dX10_lastsBefore_131 : decode cX10_lastsBefore 131 = .ok (.getfield 90, 3) := by decide +kernel
theorem dX10_lastsBefore_134 : decode cX10_lastsBefore 134 = .ok (.iconst 1, 1) := by decide +kernel
theorem dX10_lastsBefore_135 : decode cX10_lastsBefore 135 = .ok (.iaload, 1) := by decide +kernel
theorem dX10_lastsBefore_136 : decode cX10_lastsBefore 136 = .ok (.iand, 1) := by decide +kernel
theorem dX10_lastsBefore_137 : decode cX10_lastsBefore 137 = .ok (.istore_n 2, 1) := by decide +kernel
theorem dX10_lastsBefore_138 : decode cX10_lastsBefore 138 = .ok (.iload_n 2, 1) := by decide +kernel
theorem dX10_lastsBefore_139 : decode cX10_lastsBefore 139 = .ok (.ifCond .ne 7, 3) := by decide +kernel
theorem dX10_lastsBefore_142 : decode cX10_lastsBefore 142 = .ok (.iload_n 3, 1) := by decide +kernel
theorem dX10_lastsBefore_143 : decode cX10_lastsBefore 143 = .ok (.iconst 1, 1) := by decide +kernel
theorem dX10_lastsBefore_144 : decode cX10_lastsBefore 144 = .ok (.iadd, 1) := by decide +kernel
theorem dX10_lastsBefore_145 : decode cX10_lastsBefore 145 = .ok (.ireturn, 1) := by decide +kernel
theorem dX10_lastsBefore_146 : decode cX10_lastsBefore 146 = .ok (.iinc 3 1, 3) := by decide +kernel
theorem dX10_lastsBefore_149 : decode cX10_lastsBefore 149 = .ok (.goto (-137), 3) := by decide +kernel
theorem dX10_lastsBefore_152 : decode cX10_lastsBefore 152 = .ok (.bipush 99, 2) := by decide +kernel
theorem dX10_lastsBefore_154 : decode cX10_lastsBefore 154 = .ok (.ireturn, 1) := by decide +kernel
theorem dX10_before_0 : decode cX10_before 0 = .ok (.aload_n 0, 1) := by decide +kernel
theorem dX10_before_1 : decode cX10_before 1 = .ok (.iconst 0, 1) := by decide +kernel
theorem dX10_before_2 : decode cX10_before 2 = .ok (.putfield 160, 3) := by decide +kernel
theorem dX10_before_5 : decode cX10_before 5 = .ok (.iload_n 1, 1) := by decide +kernel
theorem dX10_before_6 : decode cX10_before 6 = .ok (.ifCond .lt 8, 3) := by decide +kernel
theorem dX10_before_9 : decode cX10_before 9 = .ok (.iload_n 1, 1) := by decide +kernel
theorem dX10_before_10 : decode cX10_before 10 = .ok (.iconst 1, 1) := by decide +kernel
theorem dX10_before_11 : decode cX10_before 11 = .ok (.if_icmp .le 5, 3) := by decide +kernel
theorem dX10_before_14 : decode cX10_before 14 = .ok (.iconst (-1), 1) := by decide +kernel
theorem dX10_before_15 : decode cX10_before 15 = .ok (.ireturn, 1) := by decide +kernel
theorem dX10_before_16 : decode cX10_before 16 = .ok (.bipush (-2), 2) := by decide +kernel
theorem dX10_before_18 : decode cX10_before 18 = .ok (.istore_n 2, 1) := by decide +kernel
theorem dX10_before_19 : decode cX10_before 19 = .ok (.bipush (-2), 2) := by decide +kernel
theorem dX10_before_21 : decode cX10_before 21 = .ok (.istore_n 3, 1) := by decide +kernel
theorem dX10_before_22 : decode cX10_before 22 = .ok (.iconst 0, 1) := by decide +kernel
theorem dX10_before_23 : decode cX10_before 23 = .ok (.istore 4, 2) := by decide +kernel
theorem dX10_before_25 : decode cX10_before 25 = .ok (.iload 4, 2) := by decide +kernel
theorem dX10_before_27 : decode cX10_before 27 = .ok (.aload_n 0, 1) := by decide +kernel
theorem dX10_before_28 : decode cX10_before 28 = .ok (.getfield 13, 3) := by decide +kernel
theorem dX10_before_31 : decode cX10_before 31 = .ok (.iconst 1, 1) := by decide +kernel
theorem dX10_before_32 : decode cX10_before 32 = .ok (.iaload, 1) := by decide +kernel
theorem dX10_before_33 : decode cX10_before 33 = .ok (.if_icmp .ge 73, 3) := by decide +kernel
theorem dX10_before_36 : decode cX10_before 36 = .ok (.aload_n 0, 1) := by decide +kernel
theorem dX10_before_37 : decode cX10_before 37 = .ok (.iconst 0, 1) := by decide +kernel
theorem dX10_before_38 : decode cX10_before 38 = .ok (.iload 4, 2) := by decide +kernel
theorem dX10_before_40 : decode cX10_before 40 = .ok (.invokevirtual 391, 3) := by decide +kernel
theorem dX10_before_43 : decode cX10_before 43 = .ok (.ifCond .ne 6, 3) := by decide +kernel
theorem dX10_before_46 : decode cX10_before 46 = .ok (.goto 54, 3) := by decide +kernel
theorem dX10_before_49 : decode cX10_before 49 = .ok (.aload_n 0, 1) := by decide +kernel
theorem dX10_before_50 : decode cX10_before 50 = .ok (.iload 4, 2) := by decide +kernel
theorem dX10_before_52 : decode cX10_before 52 = .ok (.invokevirtual 516, 3) := by decide +kernel
theorem dX10_before_55 : decode cX10_before 55 = .ok (.istore 5, 2) := by decide +kernel
theorem dX10_before_57 : decode cX10_before 57 = .ok (.iload_n 2, 1) := by decide +kernel
theorem dX10_before_58 : decode cX10_before 58 = .ok (.bipush (-2), 2) := by decide +kernel
theorem dX10_before_60 : decode cX10_before 60 = .ok (.if_icmp .eq 34, 3) := by decide +kernel
theorem dX10_before_63 : decode cX10_before 63 = .ok (.iload 5, 2) := by decide +kernel
theorem dX10_before_65 : decode cX10_before 65 = .ok (.iload_n 3, 1) := by decide +kernel
theorem dX10_before_66 : decode cX10_before 66 = .ok (.if_icmp .lt 34, 3) := by decide +kernel
theorem dX10_before_69 : decode cX10_before 69 = .ok (.iload 5, 2) := by decide +kernel
theorem dX10_before_71 : decode cX10_before 71 = .ok (.iload_n 3, 1) := by decide +kernel
theorem dX10_before_72 : decode cX10_before 72 = .ok (.if_icmp .ne 22, 3) := by decide +kernel
theorem dX10_before_75 : decode cX10_before 75 = .ok (.aload_n 0, 1) := by decide +kernel
theorem dX10_before_76 : decode cX10_before 76 = .ok (.getfield 28, 3) := by decide +kernel
theorem dX10_before_79 : decode cX10_before 79 = .ok (.iload 4, 2) := by decide +kernel
theorem dX10_before_81 : decode cX10_before 81 = .ok (.iaload, 1) := by decide +kernel
theorem dX10_before_82 : decode cX10_before 82 = .ok (.aload_n 0, 1) := by decide +kernel
theorem dX10_before_83 : decode cX10_before 83 = .ok (.getfield 28, 3) := by decide +kernel
theorem dX10_before_86 : decode cX10_before 86 = .ok (.iload_n 2, 1) := by decide +kernel
theorem dX10_before_87 : decode cX10_before 87 = .ok (.iaload, 1) := by decide +kernel
theorem dX10_before_88 : decode cX10_before 88 = .ok (.if_icmp .lt 6, 3) := by decide +kernel
theorem dX10_before_91 : decode cX10_before 91 = .ok (.goto 9, 3) := by decide +kernel
theorem dX10_before_94 : decode cX10_before 94 = .ok (.iload 4, 2) := by decide +kernel
theorem dX10_before_96 : decode cX10_before 96 = .ok (.istore_n 2, 1) := by decide +kernel
theorem dX10_before_97 : decode cX10_before 97 = .ok (.iload 5, 2) := by decide +kernel
theorem dX10_before_99 : decode cX10_before 99 = .ok (.istore_n 3, 1) := by decide +kernel
theorem dX10_before_100 : decode cX10_before 100 = .ok (.iinc 4 1, 3) := by decide +kernel
theorem dX10_before_103 : decode cX10_before 103 = .ok (.goto (-78), 3) := by decide +kernel
theorem dX10_before_106 : decode cX10_before 106 = .ok (.iload_n 1, 1) := by decide +kernel
theorem dX10_before_107 : decode cX10_before 107 = .ok (.ifCond .ne 7, 3) := by decide +kernel
theorem dX10_before_110 : decode cX10_before 110 = .ok (.iload_n 2, 1) := by decide +kernel
theorem dX10_before_111 : decode cX10_before 111 = .ok (.goto 4, 3) := by decide +kernel
theorem dX10_before_114 : decode cX10_before 114 = .ok (.iload_n 3, 1) := by decide +kernel
theorem dX10_before_115 : decode cX10_before 115 = .ok (.ireturn, 1) := by decide +kernel
theorem dX10_owesTo_0 : decode cX10_owesTo 0 = .ok (.iconst 0, 1) := by decide +kernel
theorem dX10_owesTo_1 : decode cX10_owesTo 1 = .ok (.istore_n 2, 1) := by decide +kernel
theorem dX10_owesTo_2 : decode cX10_owesTo 2 = .ok (.iconst 0, 1) := by decide +kernel
theorem dX10_owesTo_3 : decode cX10_owesTo 3 = .ok (.istore_n 3, 1) := by decide +kernel
theorem dX10_owesTo_4 : decode cX10_owesTo 4 = .ok (.iload_n 3, 1) := by decide +kernel
theorem dX10_owesTo_5 : decode cX10_owesTo 5 = .ok (.aload_n 0, 1) := by decide +kernel
theorem dX10_owesTo_6 : decode cX10_owesTo 6 = .ok (.getfield 87, 3) := by decide +kernel
theorem dX10_owesTo_9 : decode cX10_owesTo 9 = .ok (.iconst 0, 1) := by decide +kernel
theorem dX10_owesTo_10 : decode cX10_owesTo 10 = .ok (.iaload, 1) := by decide +kernel
theorem dX10_owesTo_11 : decode cX10_owesTo 11 = .ok (.if_icmp .ge 43, 3) := by decide +kernel
theorem dX10_owesTo_14 : decode cX10_owesTo 14 = .ok (.iload_n 2, 1) := by decide +kernel
theorem dX10_owesTo_15 : decode cX10_owesTo 15 = .ok (.aload_n 0, 1) := by decide +kernel
theorem dX10_owesTo_16 : decode cX10_owesTo 16 = .ok (.iconst 0, 1) := by decide +kernel
theorem dX10_owesTo_17 : decode cX10_owesTo 17 = .ok (.iload_n 3, 1) := by decide +kernel
theorem dX10_owesTo_18 : decode cX10_owesTo 18 = .ok (.invokevirtual 402, 3) := by decide +kernel
theorem dX10_owesTo_21 : decode cX10_owesTo 21 = .ok (.ifCond .eq 24, 3) := by decide +kernel
theorem dX10_owesTo_24 : decode cX10_owesTo 24 = .ok (.aload_n 0, 1) := by decide +kernel
theorem dX10_owesTo_25 : decode cX10_owesTo 25 = .ok (.getfield 105, 3) := by decide +kernel
theorem dX10_owesTo_28 : decode cX10_owesTo 28 = .ok (.iload_n 3, 1) := by decide +kernel
theorem dX10_owesTo_29 : decode cX10_owesTo 29 = .ok (.iaload, 1) := by decide +kernel
theorem dX10_owesTo_30 : decode cX10_owesTo 30 = .ok (.iload_n 1, 1) := by decide +kernel
theorem dX10_owesTo_31 : decode cX10_owesTo 31 = .ok (.if_icmp .ne 14, 3) := by decide +kernel
theorem dX10_owesTo_34 : decode cX10_owesTo 34 = .ok (.iconst 1, 1) := by decide +kernel
theorem dX10_owesTo_35 : decode cX10_owesTo 35 = .ok (.aload_n 0, 1) := by decide +kernel
theorem dX10_owesTo_36 : decode cX10_owesTo 36 = .ok (.getfield 102, 3) := by decide +kernel
theorem dX10_owesTo_39 : decode cX10_owesTo 39 = .ok (.iload_n 3, 1) := by decide +kernel
theorem dX10_owesTo_40 : decode cX10_owesTo 40 = .ok (.iaload, 1) := by decide +kernel
theorem dX10_owesTo_41 : decode cX10_owesTo 41 = .ok (.ishl, 1) := by decide +kernel
theorem dX10_owesTo_42 : decode cX10_owesTo 42 = .ok (.goto 4, 3) := by decide +kernel
theorem dX10_owesTo_45 : decode cX10_owesTo 45 = .ok (.iconst 0, 1) := by decide +kernel
theorem dX10_owesTo_46 : decode cX10_owesTo 46 = .ok (.ior, 1) := by decide +kernel
theorem dX10_owesTo_47 : decode cX10_owesTo 47 = .ok (.istore_n 2, 1) := by decide +kernel
theorem dX10_owesTo_48 : decode cX10_owesTo 48 = .ok (.iinc 3 1, 3) := by decide +kernel
theorem dX10_owesTo_51 : decode cX10_owesTo 51 = .ok (.goto (-47), 3) := by decide +kernel
theorem dX10_owesTo_54 : decode cX10_owesTo 54 = .ok (.iload_n 2, 1) := by decide +kernel
theorem dX10_owesTo_55 : decode cX10_owesTo 55 = .ok (.ireturn, 1) := by decide +kernel
theorem dX10_ring_0 : decode cX10_ring 0 = .ok (.aload_n 0, 1) := by decide +kernel
theorem dX10_ring_1 : decode cX10_ring 1 = .ok (.iconst 0, 1) := by decide +kernel
theorem dX10_ring_2 : decode cX10_ring 2 = .ok (.putfield 160, 3) := by decide +kernel
theorem dX10_ring_5 : decode cX10_ring 5 = .ok (.iconst 0, 1) := by decide +kernel
theorem dX10_ring_6 : decode cX10_ring 6 = .ok (.istore_n 1, 1) := by decide +kernel
theorem dX10_ring_7 : decode cX10_ring 7 = .ok (.iconst 0, 1) := by decide +kernel
theorem dX10_ring_8 : decode cX10_ring 8 = .ok (.istore_n 2, 1) := by decide +kernel
theorem dX10_ring_9 : decode cX10_ring 9 = .ok (.iload_n 2, 1) := by decide +kernel
theorem dX10_ring_10 : decode cX10_ring 10 = .ok (.aload_n 0, 1) := by decide +kernel
theorem dX10_ring_11 : decode cX10_ring 11 = .ok (.getfield 13, 3) := by decide +kernel
theorem dX10_ring_14 : decode cX10_ring 14 = .ok (.iconst 0, 1) := by decide +kernel
theorem dX10_ring_15 : decode cX10_ring 15 = .ok (.iaload, 1) := by decide +kernel
theorem dX10_ring_16 : decode cX10_ring 16 = .ok (.if_icmp .ge 84, 3) := by decide +kernel
theorem dX10_ring_19 : decode cX10_ring 19 = .ok (.aload_n 0, 1) := by decide +kernel
theorem dX10_ring_20 : decode cX10_ring 20 = .ok (.iload_n 2, 1) := by decide +kernel
theorem dX10_ring_21 : decode cX10_ring 21 = .ok (.invokevirtual 519, 3) := by decide +kernel
theorem dX10_ring_24 : decode cX10_ring 24 = .ok (.istore_n 3, 1) := by decide +kernel
theorem dX10_ring_25 : decode cX10_ring 25 = .ok (.iconst 0, 1) := by decide +kernel
theorem dX10_ring_26 : decode cX10_ring 26 = .ok (.istore 4, 2) := by decide +kernel
theorem dX10_ring_28 : decode cX10_ring 28 = .ok (.iload 4, 2) := by decide +kernel
theorem dX10_ring_30 : decode cX10_ring 30 = .ok (.bipush 6, 2) := by decide +kernel
theorem dX10_ring_32 : decode cX10_ring 32 = .ok (.if_icmp .ge 52, 3) := by decide +kernel
theorem dX10_ring_35 : decode cX10_ring 35 = .ok (.iconst 0, 1) := by decide +kernel
theorem dX10_ring_36 : decode cX10_ring 36 = .ok (.istore 5, 2) := by decide +kernel
theorem dX10_ring_38 : decode cX10_ring 38 = .ok (.iload 5, 2) := by decide +kernel
theorem dX10_ring_40 : decode cX10_ring 40 = .ok (.aload_n 0, 1) := by decide +kernel
theorem dX10_ring_41 : decode cX10_ring 41 = .ok (.getfield 13, 3) := by decide +kernel
theorem dX10_ring_44 : decode cX10_ring 44 = .ok (.iconst 0, 1) := by decide +kernel
theorem dX10_ring_45 : decode cX10_ring 45 = .ok (.iaload, 1) := by decide +kernel
theorem dX10_ring_46 : decode cX10_ring 46 = .ok (.if_icmp .ge 32, 3) := by decide +kernel
theorem dX10_ring_49 : decode cX10_ring 49 = .ok (.iload_n 3, 1) := by decide +kernel
theorem dX10_ring_50 : decode cX10_ring 50 = .ok (.iload_n 3, 1) := by decide +kernel
theorem dX10_ring_51 : decode cX10_ring 51 = .ok (.iload 5, 2) := by decide +kernel
theorem dX10_ring_53 : decode cX10_ring 53 = .ok (.ishr, 1) := by decide +kernel
theorem dX10_ring_54 : decode cX10_ring 54 = .ok (.iconst 1, 1) := by decide +kernel
theorem dX10_ring_55 : decode cX10_ring 55 = .ok (.iand, 1) := by decide +kernel
theorem dX10_ring_56 : decode cX10_ring 56 = .ok (.iconst 1, 1) := by decide +kernel
theorem dX10_ring_57 : decode cX10_ring 57 = .ok (.if_icmp .ne 12, 3) := by decide +kernel
theorem dX10_ring_60 : decode cX10_ring 60 = .ok (.aload_n 0, 1) := by decide +kernel
theorem dX10_ring_61 : decode cX10_ring 61 = .ok (.iload 5, 2) := by decide +kernel
theorem dX10_ring_63 : decode cX10_ring 63 = .ok (.invokevirtual 519, 3) := by decide +kernel
theorem dX10_ring_66 : decode cX10_ring 66 = .ok (.goto 4, 3) := by decide +kernel
theorem dX10_ring_69 : decode cX10_ring 69 = .ok (.iconst 0, 1) := by decide +kernel
theorem dX10_ring_70 : decode cX10_ring 70 = .ok (.ior, 1) := by decide +kernel
theorem dX10_ring_71 : decode cX10_ring 71 = .ok (.istore_n 3, 1) := by decide +kernel
theorem dX10_ring_72 : decode cX10_ring 72 = .ok (.iinc 5 1, 3) := by decide +kernel
theorem dX10_ring_75 : decode cX10_ring 75 = .ok (.goto (-37), 3) := by decide +kernel
theorem dX10_ring_78 : decode cX10_ring 78 = .ok (.iinc 4 1, 3) := by decide +kernel
theorem dX10_ring_81 : decode cX10_ring 81 = .ok (.goto (-53), 3) := by decide +kernel
theorem dX10_ring_84 : decode cX10_ring 84 = .ok (.iload_n 1, 1) := by decide +kernel
theorem dX10_ring_85 : decode cX10_ring 85 = .ok (.iload_n 3, 1) := by decide +kernel
theorem dX10_ring_86 : decode cX10_ring 86 = .ok (.iload_n 2, 1) := by decide +kernel
theorem dX10_ring_87 : decode cX10_ring 87 = .ok (.ishr, 1) := by decide +kernel
theorem dX10_ring_88 : decode cX10_ring 88 = .ok (.iconst 1, 1) := by decide +kernel
theorem dX10_ring_89 : decode cX10_ring 89 = .ok (.iand, 1) := by decide +kernel
theorem dX10_ring_90 : decode cX10_ring 90 = .ok (.iload_n 2, 1) := by decide +kernel
theorem dX10_ring_91 : decode cX10_ring 91 = .ok (.ishl, 1) := by decide +kernel
theorem dX10_ring_92 : decode cX10_ring 92 = .ok (.ior, 1) := by decide +kernel
theorem dX10_ring_93 : decode cX10_ring 93 = .ok (.istore_n 1, 1) := by decide +kernel
theorem dX10_ring_94 : decode cX10_ring 94 = .ok (.iinc 2 1, 3) := by decide +kernel
theorem dX10_ring_97 : decode cX10_ring 97 = .ok (.goto (-88), 3) := by decide +kernel
theorem dX10_ring_100 : decode cX10_ring 100 = .ok (.iload_n 1, 1) := by decide +kernel
theorem dX10_ring_101 : decode cX10_ring 101 = .ok (.ireturn, 1) := by decide +kernel
theorem dX10_oldest_0 : decode cX10_oldest 0 = .ok (.aload_n 0, 1) := by decide +kernel
theorem dX10_oldest_1 : decode cX10_oldest 1 = .ok (.iconst 0, 1) := by decide +kernel
theorem dX10_oldest_2 : decode cX10_oldest 2 = .ok (.putfield 160, 3) := by decide +kernel
theorem dX10_oldest_5 : decode cX10_oldest 5 = .ok (.aload_n 0, 1) := by decide +kernel
theorem dX10_oldest_6 : decode cX10_oldest 6 = .ok (.iload_n 1, 1) := by decide +kernel
theorem dX10_oldest_7 : decode cX10_oldest 7 = .ok (.invokevirtual 456, 3) := by decide +kernel
theorem dX10_oldest_10 : decode cX10_oldest 10 = .ok (.ifCond .ne 5, 3) := by decide +kernel
theorem dX10_oldest_13 : decode cX10_oldest 13 = .ok (.iconst (-1), 1) := by decide +kernel
theorem dX10_oldest_14 : decode cX10_oldest 14 = .ok (.ireturn, 1) := by decide +kernel
theorem dX10_oldest_15 : decode cX10_oldest 15 = .ok (.aload_n 0, 1) := by decide +kernel
theorem dX10_oldest_16 : decode cX10_oldest 16 = .ok (.iconst 0, 1) := by decide +kernel
theorem dX10_oldest_17 : decode cX10_oldest 17 = .ok (.iload_n 1, 1) := by decide +kernel
theorem dX10_oldest_18 : decode cX10_oldest 18 = .ok (.invokevirtual 368, 3) := by decide +kernel
theorem dX10_oldest_21 : decode cX10_oldest 21 = .ok (.istore_n 2, 1) := by decide +kernel
theorem dX10_oldest_22 : decode cX10_oldest 22 = .ok (.iload_n 2, 1) := by decide +kernel
theorem dX10_oldest_23 : decode cX10_oldest 23 = .ok (.iconst (-1), 1) := by decide +kernel
theorem dX10_oldest_24 : decode cX10_oldest 24 = .ok (.if_icmp .ne 8, 3) := by decide +kernel
theorem dX10_oldest_27 : decode cX10_oldest 27 = .ok (.bipush (-2), 2) := by decide +kernel
theorem dX10_oldest_29 : decode cX10_oldest 29 = .ok (.goto 4, 3) := by decide +kernel
theorem dX10_oldest_32 : decode cX10_oldest 32 = .ok (.iload_n 2, 1) := by decide +kernel
theorem dX10_oldest_33 : decode cX10_oldest 33 = .ok (.ireturn, 1) := by decide +kernel
theorem dX10_see_0 : decode cX10_see 0 = .ok (.aload_n 0, 1) := by decide +kernel
theorem dX10_see_1 : decode cX10_see 1 = .ok (.iconst 0, 1) := by decide +kernel
theorem dX10_see_2 : decode cX10_see 2 = .ok (.putfield 160, 3) := by decide +kernel
theorem dX10_see_5 : decode cX10_see 5 = .ok (.iload_n 1, 1) := by decide +kernel
theorem dX10_see_6 : decode cX10_see 6 = .ok (.iconst 1, 1) := by decide +kernel
theorem dX10_see_7 : decode cX10_see 7 = .ok (.if_icmp .lt 32, 3) := by decide +kernel
theorem dX10_see_10 : decode cX10_see 10 = .ok (.iload_n 1, 1) := by decide +kernel
theorem dX10_see_11 : decode cX10_see 11 = .ok (.bipush 40, 2) := by decide +kernel
theorem dX10_see_13 : decode cX10_see 13 = .ok (.if_icmp .gt 26, 3) := by decide +kernel
theorem dX10_see_16 : decode cX10_see 16 = .ok (.iload_n 2, 1) := by decide +kernel
theorem dX10_see_17 : decode cX10_see 17 = .ok (.ifCond .lt 22, 3) := by decide +kernel
theorem dX10_see_20 : decode cX10_see 20 = .ok (.iload_n 2, 1) := by decide +kernel
theorem dX10_see_21 : decode cX10_see 21 = .ok (.aload_n 0, 1) := by decide +kernel
theorem dX10_see_22 : decode cX10_see 22 = .ok (.getfield 13, 3) := by decide +kernel
theorem dX10_see_25 : decode cX10_see 25 = .ok (.iconst 2, 1) := by decide +kernel
theorem dX10_see_26 : decode cX10_see 26 = .ok (.iaload, 1) := by decide +kernel
theorem dX10_see_27 : decode cX10_see 27 = .ok (.if_icmp .ge 12, 3) := by decide +kernel
theorem dX10_see_30 : decode cX10_see 30 = .ok (.aload_n 0, 1) := by decide +kernel
theorem dX10_see_31 : decode cX10_see 31 = .ok (.getfield 325, 3) := by decide +kernel
theorem dX10_see_34 : decode cX10_see 34 = .ok (.bipush 24, 2) := by decide +kernel
theorem dX10_see_36 : decode cX10_see 36 = .ok (.if_icmp .ne 5, 3) := by decide +kernel
theorem dX10_see_39 : decode cX10_see 39 = .ok (.iconst (-1), 1) := by decide +kernel
theorem dX10_see_40 : decode cX10_see 40 = .ok (.ireturn, 1) := by decide +kernel
theorem dX10_see_41 : decode cX10_see 41 = .ok (.aload_n 0, 1) := by decide +kernel
theorem dX10_see_42 : decode cX10_see 42 = .ok (.getfield 141, 3) := by decide +kernel
theorem dX10_see_45 : decode cX10_see 45 = .ok (.aload_n 0, 1) := by decide +kernel
theorem dX10_see_46 : decode cX10_see 46 = .ok (.getfield 325, 3) := by decide +kernel
theorem dX10_see_49 : decode cX10_see 49 = .ok (.iload_n 1, 1) := by decide +kernel
theorem dX10_see_50 : decode cX10_see 50 = .ok (.iastore, 1) := by decide +kernel
theorem dX10_see_51 : decode cX10_see 51 = .ok (.aload_n 0, 1) := by decide +kernel
theorem dX10_see_52 : decode cX10_see 52 = .ok (.getfield 144, 3) := by decide +kernel
theorem dX10_see_55 : decode cX10_see 55 = .ok (.aload_n 0, 1) := by decide +kernel
theorem dX10_see_56 : decode cX10_see 56 = .ok (.getfield 325, 3) := by decide +kernel
theorem dX10_see_59 : decode cX10_see 59 = .ok (.iload_n 2, 1) := by decide +kernel
theorem dX10_see_60 : decode cX10_see 60 = .ok (.iastore, 1) := by decide +kernel
theorem dX10_see_61 : decode cX10_see 61 = .ok (.aload_n 0, 1) := by decide +kernel
theorem dX10_see_62 : decode cX10_see 62 = .ok (.getfield 147, 3) := by decide +kernel
theorem dX10_see_65 : decode cX10_see 65 = .ok (.aload_n 0, 1) := by decide +kernel
theorem dX10_see_66 : decode cX10_see 66 = .ok (.getfield 325, 3) := by decide +kernel
theorem dX10_see_69 : decode cX10_see 69 = .ok (.iload_n 3, 1) := by decide +kernel
theorem dX10_see_70 : decode cX10_see 70 = .ok (.bastore, 1) := by decide +kernel
theorem dX10_see_71 : decode cX10_see 71 = .ok (.aload_n 0, 1) := by decide +kernel
theorem dX10_see_72 : decode cX10_see 72 = .ok (.getfield 151, 3) := by decide +kernel
theorem dX10_see_75 : decode cX10_see 75 = .ok (.aload_n 0, 1) := by decide +kernel
theorem dX10_see_76 : decode cX10_see 76 = .ok (.getfield 325, 3) := by decide +kernel
theorem dX10_see_79 : decode cX10_see 79 = .ok (.iconst (-1), 1) := by decide +kernel
theorem dX10_see_80 : decode cX10_see 80 = .ok (.iastore, 1) := by decide +kernel
theorem dX10_see_81 : decode cX10_see 81 = .ok (.aload_n 0, 1) := by decide +kernel
theorem dX10_see_82 : decode cX10_see 82 = .ok (.dup, 1) := by decide +kernel
theorem dX10_see_83 : decode cX10_see 83 = .ok (.getfield 325, 3) := by decide +kernel
theorem dX10_see_86 : decode cX10_see 86 = .ok (.iconst 1, 1) := by decide +kernel
theorem dX10_see_87 : decode cX10_see 87 = .ok (.iadd, 1) := by decide +kernel
theorem dX10_see_88 : decode cX10_see 88 = .ok (.putfield 325, 3) := by decide +kernel
theorem dX10_see_91 : decode cX10_see 91 = .ok (.aload_n 0, 1) := by decide +kernel
theorem dX10_see_92 : decode cX10_see 92 = .ok (.getfield 325, 3) := by decide +kernel
theorem dX10_see_95 : decode cX10_see 95 = .ok (.iconst 1, 1) := by decide +kernel
theorem dX10_see_96 : decode cX10_see 96 = .ok (.isub, 1) := by decide +kernel
theorem dX10_see_97 : decode cX10_see 97 = .ok (.ireturn, 1) := by decide +kernel
theorem dX10_out_0 : decode cX10_out 0 = .ok (.aload_n 0, 1) := by decide +kernel
theorem dX10_out_1 : decode cX10_out 1 = .ok (.iconst 0, 1) := by decide +kernel
theorem dX10_out_2 : decode cX10_out 2 = .ok (.putfield 160, 3) := by decide +kernel
theorem dX10_out_5 : decode cX10_out 5 = .ok (.iload_n 1, 1) := by decide +kernel
theorem dX10_out_6 : decode cX10_out 6 = .ok (.ifCond .lt 20, 3) := by decide +kernel
theorem dX10_out_9 : decode cX10_out 9 = .ok (.iload_n 1, 1) := by decide +kernel
theorem dX10_out_10 : decode cX10_out 10 = .ok (.aload_n 0, 1) := by decide +kernel
theorem dX10_out_11 : decode cX10_out 11 = .ok (.getfield 325, 3) := by decide +kernel
theorem dX10_out_14 : decode cX10_out 14 = .ok (.if_icmp .ge 12, 3) := by decide +kernel
theorem dX10_out_17 : decode cX10_out 17 = .ok (.aload_n 0, 1) := by decide +kernel
theorem dX10_out_18 : decode cX10_out 18 = .ok (.getfield 325, 3) := by decide +kernel
theorem dX10_out_21 : decode cX10_out 21 = .ok (.bipush 24, 2) := by decide +kernel
theorem dX10_out_23 : decode cX10_out 23 = .ok (.if_icmp .ne 5, 3) := by decide +kernel
theorem dX10_out_26 : decode cX10_out 26 = .ok (.iconst (-1), 1) := by decide +kernel
theorem dX10_out_27 : decode cX10_out 27 = .ok (.ireturn, 1) := by decide +kernel
theorem dX10_out_28 : decode cX10_out 28 = .ok (.aload_n 0, 1) := by decide +kernel
theorem dX10_out_29 : decode cX10_out 29 = .ok (.getfield 151, 3) := by decide +kernel
theorem dX10_out_32 : decode cX10_out 32 = .ok (.aload_n 0, 1) := by decide +kernel
theorem dX10_out_33 : decode cX10_out 33 = .ok (.getfield 325, 3) := by decide +kernel
theorem dX10_out_36 : decode cX10_out 36 = .ok (.iload_n 1, 1) := by decide +kernel
theorem dX10_out_37 : decode cX10_out 37 = .ok (.iastore, 1) := by decide +kernel
theorem dX10_out_38 : decode cX10_out 38 = .ok (.aload_n 0, 1) := by decide +kernel
theorem dX10_out_39 : decode cX10_out 39 = .ok (.dup, 1) := by decide +kernel
theorem dX10_out_40 : decode cX10_out 40 = .ok (.getfield 325, 3) := by decide +kernel
theorem dX10_out_43 : decode cX10_out 43 = .ok (.iconst 1, 1) := by decide +kernel
theorem dX10_out_44 : decode cX10_out 44 = .ok (.iadd, 1) := by decide +kernel
theorem dX10_out_45 : decode cX10_out 45 = .ok (.putfield 325, 3) := by decide +kernel
theorem dX10_out_48 : decode cX10_out 48 = .ok (.aload_n 0, 1) := by decide +kernel
theorem dX10_out_49 : decode cX10_out 49 = .ok (.getfield 325, 3) := by decide +kernel
theorem dX10_out_52 : decode cX10_out 52 = .ok (.iconst 1, 1) := by decide +kernel
theorem dX10_out_53 : decode cX10_out 53 = .ok (.isub, 1) := by decide +kernel
theorem dX10_out_54 : decode cX10_out 54 = .ok (.ireturn, 1) := by decide +kernel
theorem dX10_known_0 : decode cX10_known 0 = .ok (.aload_n 0, 1) := by decide +kernel
theorem dX10_known_1 : decode cX10_known 1 = .ok (.iconst 0, 1) := by decide +kernel
theorem dX10_known_2 : decode cX10_known 2 = .ok (.putfield 160, 3) := by decide +kernel
theorem dX10_known_5 : decode cX10_known 5 = .ok (.iload_n 1, 1) := by decide +kernel
theorem dX10_known_6 : decode cX10_known 6 = .ok (.iconst (-1), 1) := by decide +kernel
theorem dX10_known_7 : decode cX10_known 7 = .ok (.if_icmp .lt 11, 3) := by decide +kernel
theorem dX10_known_10 : decode cX10_known 10 = .ok (.iload_n 1, 1) := by decide +kernel
theorem dX10_known_11 : decode cX10_known 11 = .ok (.aload_n 0, 1) := by decide +kernel
theorem dX10_known_12 : decode cX10_known 12 = .ok (.getfield 325, 3) := by decide +kernel
theorem dX10_known_15 : decode cX10_known 15 = .ok (.if_icmp .le 5, 3) := by decide +kernel
theorem dX10_known_18 : decode cX10_known 18 = .ok (.iconst 0, 1) := by decide +kernel
theorem dX10_known_19 : decode cX10_known 19 = .ok (.ireturn, 1) := by decide +kernel
theorem dX10_known_20 : decode cX10_known 20 = .ok (.aload_n 0, 1) := by decide +kernel
theorem dX10_known_21 : decode cX10_known 21 = .ok (.iload_n 1, 1) := by decide +kernel
theorem dX10_known_22 : decode cX10_known 22 = .ok (.putfield 138, 3) := by decide +kernel
theorem dX10_known_25 : decode cX10_known 25 = .ok (.iconst 1, 1) := by decide +kernel
theorem dX10_known_26 : decode cX10_known 26 = .ok (.ireturn, 1) := by decide +kernel
theorem dX10_knownMany_0 : decode cX10_knownMany 0 = .ok (.aload_n 0, 1) := by decide +kernel
theorem dX10_knownMany_1 : decode cX10_knownMany 1 = .ok (.getfield 138, 3) := by decide +kernel
theorem dX10_knownMany_4 : decode cX10_knownMany 4 = .ok (.iconst (-1), 1) := by decide +kernel
theorem dX10_knownMany_5 : decode cX10_knownMany 5 = .ok (.if_icmp .ne 10, 3) := by decide +kernel
theorem dX10_knownMany_8 : decode cX10_knownMany 8 = .ok (.aload_n 0, 1) := by decide +kernel
theorem dX10_knownMany_9 : decode cX10_knownMany 9 = .ok (.getfield 325, 3) := by decide +kernel
theorem dX10_knownMany_12 : decode cX10_knownMany 12 = .ok (.goto 7, 3) := by decide +kernel
theorem dX10_knownMany_15 : decode cX10_knownMany 15 = .ok (.aload_n 0, 1) := by decide +kernel
theorem dX10_knownMany_16 : decode cX10_knownMany 16 = .ok (.getfield 138, 3) := by decide +kernel
theorem dX10_knownMany_19 : decode cX10_knownMany 19 = .ok (.ireturn, 1) := by decide +kernel
theorem dX10_isSo_0 : decode cX10_isSo 0 = .ok (.iconst 0, 1) := by decide +kernel
theorem dX10_isSo_1 : decode cX10_isSo 1 = .ok (.istore_n 2, 1) := by decide +kernel
theorem dX10_isSo_2 : decode cX10_isSo 2 = .ok (.iload_n 2, 1) := by decide +kernel
theorem dX10_isSo_3 : decode cX10_isSo 3 = .ok (.aload_n 0, 1) := by decide +kernel
theorem dX10_isSo_4 : decode cX10_isSo 4 = .ok (.invokevirtual 522, 3) := by decide +kernel
theorem dX10_isSo_7 : decode cX10_isSo 7 = .ok (.if_icmp .ge 75, 3) := by decide +kernel
theorem dX10_isSo_10 : decode cX10_isSo 10 = .ok (.aload_n 0, 1) := by decide +kernel
theorem dX10_isSo_11 : decode cX10_isSo 11 = .ok (.getfield 154, 3) := by decide +kernel
theorem dX10_isSo_14 : decode cX10_isSo 14 = .ok (.iload_n 2, 1) := by decide +kernel
theorem dX10_isSo_15 : decode cX10_isSo 15 = .ok (.baload, 1) := by decide +kernel
theorem dX10_isSo_16 : decode cX10_isSo 16 = .ok (.ifCond .ne 60, 3) := by decide +kernel
theorem dX10_isSo_19 : decode cX10_isSo 19 = .ok (.aload_n 0, 1) := by decide +kernel
theorem dX10_isSo_20 : decode cX10_isSo 20 = .ok (.getfield 151, 3) := by decide +kernel
theorem dX10_isSo_23 : decode cX10_isSo 23 = .ok (.iload_n 2, 1) := by decide +kernel
theorem dX10_isSo_24 : decode cX10_isSo 24 = .ok (.iaload, 1) := by decide +kernel
theorem dX10_isSo_25 : decode cX10_isSo 25 = .ok (.iconst (-1), 1) := by decide +kernel
theorem dX10_isSo_26 : decode cX10_isSo 26 = .ok (.if_icmp .ne 50, 3) := by decide +kernel
theorem dX10_isSo_29 : decode cX10_isSo 29 = .ok (.aload_n 0, 1) := by decide +kernel
theorem dX10_isSo_30 : decode cX10_isSo 30 = .ok (.getfield 141, 3) := by decide +kernel
theorem dX10_isSo_33 : decode cX10_isSo 33 = .ok (.iload_n 2, 1) := by decide +kernel
theorem dX10_isSo_34 : decode cX10_isSo 34 = .ok (.iaload, 1) := by decide +kernel
theorem dX10_isSo_35 : decode cX10_isSo 35 = .ok (.iload_n 1, 1) := by decide +kernel
theorem dX10_isSo_36 : decode cX10_isSo 36 = .ok (.if_icmp .eq 6, 3) := by decide +kernel
theorem dX10_isSo_39 : decode cX10_isSo 39 = .ok (.goto 37, 3) := by decide +kernel
theorem dX10_isSo_42 : decode cX10_isSo 42 = .ok (.aload_n 0, 1) := by decide +kernel
theorem dX10_isSo_43 : decode cX10_isSo 43 = .ok (.getfield 117, 3) := by decide +kernel
theorem dX10_isSo_46 : decode cX10_isSo 46 = .ok (.bipush 8, 2) := by decide +kernel
theorem dX10_isSo_48 : decode cX10_isSo 48 = .ok (.aload_n 0, 1) := by decide +kernel
theorem dX10_isSo_49 : decode cX10_isSo 49 = .ok (.getfield 144, 3) := by decide +kernel
theorem dX10_isSo_52 : decode cX10_isSo 52 = .ok (.iload_n 2, 1) := by decide +kernel
theorem dX10_isSo_53 : decode cX10_isSo 53 = .ok (.iaload, 1) := by decide +kernel
theorem dX10_isSo_54 : decode cX10_isSo 54 = .ok (.iadd, 1) := by decide +kernel
theorem dX10_isSo_55 : decode cX10_isSo 55 = .ok (.iaload, 1) := by decide +kernel
theorem dX10_isSo_56 : decode cX10_isSo 56 = .ok (.iconst 2, 1) := by decide +kernel
theorem dX10_isSo_57 : decode cX10_isSo 57 = .ok (.if_icmp .ne 7, 3) := by decide +kernel
theorem dX10_isSo_60 : decode cX10_isSo 60 = .ok (.iconst 1, 1) := by decide +kernel
theorem dX10_isSo_61 : decode cX10_isSo 61 = .ok (.goto 4, 3) := by decide +kernel
theorem dX10_isSo_64 : decode cX10_isSo 64 = .ok (.iconst 0, 1) := by decide +kernel
theorem dX10_isSo_65 : decode cX10_isSo 65 = .ok (.aload_n 0, 1) := by decide +kernel
theorem dX10_isSo_66 : decode cX10_isSo 66 = .ok (.getfield 147, 3) := by decide +kernel
theorem dX10_isSo_69 : decode cX10_isSo 69 = .ok (.iload_n 2, 1) := by decide +kernel
theorem dX10_isSo_70 : decode cX10_isSo 70 = .ok (.baload, 1) := by decide +kernel
theorem dX10_isSo_71 : decode cX10_isSo 71 = .ok (.if_icmp .eq 5, 3) := by decide +kernel
theorem dX10_isSo_74 : decode cX10_isSo 74 = .ok (.iconst 0, 1) := by decide +kernel
theorem dX10_isSo_75 : decode cX10_isSo 75 = .ok (.ireturn, 1) := by decide +kernel
theorem dX10_isSo_76 : decode cX10_isSo 76 = .ok (.iinc 2 1, 3) := by decide +kernel
theorem dX10_isSo_79 : decode cX10_isSo 79 = .ok (.goto (-77), 3) := by decide +kernel
theorem dX10_isSo_82 : decode cX10_isSo 82 = .ok (.iconst 1, 1) := by decide +kernel
theorem dX10_isSo_83 : decode cX10_isSo 83 = .ok (.ireturn, 1) := by decide +kernel
theorem dX10_fitsPurse_0 : decode cX10_fitsPurse 0 = .ok (.aload_n 0, 1) := by decide +kernel
theorem dX10_fitsPurse_1 : decode cX10_fitsPurse 1 = .ok (.iconst 1, 1) := by decide +kernel
theorem dX10_fitsPurse_2 : decode cX10_fitsPurse 2 = .ok (.invokevirtual 355, 3) := by decide +kernel
theorem dX10_fitsPurse_5 : decode cX10_fitsPurse 5 = .ok (.aload_n 0, 1) := by decide +kernel
theorem dX10_fitsPurse_6 : decode cX10_fitsPurse 6 = .ok (.getfield 93, 3) := by decide +kernel
theorem dX10_fitsPurse_9 : decode cX10_fitsPurse 9 = .ok (.bipush 6, 2) := by decide +kernel
theorem dX10_fitsPurse_11 : decode cX10_fitsPurse 11 = .ok (.iload_n 1, 1) := by decide +kernel
theorem dX10_fitsPurse_12 : decode cX10_fitsPurse 12 = .ok (.iadd, 1) := by decide +kernel
theorem dX10_fitsPurse_13 : decode cX10_fitsPurse 13 = .ok (.iload_n 2, 1) := by decide +kernel
theorem dX10_fitsPurse_14 : decode cX10_fitsPurse 14 = .ok (.iastore, 1) := by decide +kernel
theorem dX10_fitsPurse_15 : decode cX10_fitsPurse 15 = .ok (.iconst 1, 1) := by decide +kernel
theorem dX10_fitsPurse_16 : decode cX10_fitsPurse 16 = .ok (.istore 4, 2) := by decide +kernel
theorem dX10_fitsPurse_18 : decode cX10_fitsPurse 18 = .ok (.iload 4, 2) := by decide +kernel
theorem dX10_fitsPurse_20 : decode cX10_fitsPurse 20 = .ok (.iload_n 3, 1) := by decide +kernel
theorem dX10_fitsPurse_21 : decode cX10_fitsPurse 21 = .ok (.if_icmp .gt 26, 3) := by decide +kernel
theorem dX10_fitsPurse_24 : decode cX10_fitsPurse 24 = .ok (.aload_n 0, 1) := by decide +kernel
theorem dX10_fitsPurse_25 : decode cX10_fitsPurse 25 = .ok (.iconst 1, 1) := by decide +kernel
theorem dX10_fitsPurse_26 : decode cX10_fitsPurse 26 = .ok (.iconst 0, 1) := by decide +kernel
theorem dX10_fitsPurse_27 : decode cX10_fitsPurse 27 = .ok (.invokevirtual 447, 3) := by decide +kernel
theorem dX10_fitsPurse_30 : decode cX10_fitsPurse 30 = .ok (.aload_n 0, 1) := by decide +kernel
theorem dX10_fitsPurse_31 : decode cX10_fitsPurse 31 = .ok (.iload 4, 2) := by decide +kernel
theorem dX10_fitsPurse_33 : decode cX10_fitsPurse 33 = .ok (.invokevirtual 525, 3) := by decide +kernel
theorem dX10_fitsPurse_36 : decode cX10_fitsPurse 36 = .ok (.ifCond .ne 5, 3) := by decide +kernel
theorem dX10_fitsPurse_39 : decode cX10_fitsPurse 39 = .ok (.iconst 0, 1) := by decide +kernel
theorem dX10_fitsPurse_40 : decode cX10_fitsPurse 40 = .ok (.ireturn, 1) := by decide +kernel
theorem dX10_fitsPurse_41 : decode cX10_fitsPurse 41 = .ok (.iinc 4 1, 3) := by decide +kernel
theorem dX10_fitsPurse_44 : decode cX10_fitsPurse 44 = .ok (.goto (-26), 3) := by decide +kernel
theorem dX10_fitsPurse_47 : decode cX10_fitsPurse 47 = .ok (.iconst 1, 1) := by decide +kernel
theorem dX10_fitsPurse_48 : decode cX10_fitsPurse 48 = .ok (.ireturn, 1) := by decide +kernel
theorem dX10_had_0 : decode cX10_had 0 = .ok (.aload_n 0, 1) := by decide +kernel
theorem dX10_had_1 : decode cX10_had 1 = .ok (.iconst 0, 1) := by decide +kernel
theorem dX10_had_2 : decode cX10_had 2 = .ok (.putfield 160, 3) := by decide +kernel
theorem dX10_had_5 : decode cX10_had 5 = .ok (.aload_n 0, 1) := by decide +kernel
theorem dX10_had_6 : decode cX10_had 6 = .ok (.iload_n 1, 1) := by decide +kernel
theorem dX10_had_7 : decode cX10_had 7 = .ok (.invokevirtual 459, 3) := by decide +kernel
theorem dX10_had_10 : decode cX10_had 10 = .ok (.ifCond .ne 5, 3) := by decide +kernel
theorem dX10_had_13 : decode cX10_had 13 = .ok (.iconst (-1), 1) := by decide +kernel
theorem dX10_had_14 : decode cX10_had 14 = .ok (.ireturn, 1) := by decide +kernel
theorem dX10_had_15 : decode cX10_had 15 = .ok (.iconst 0, 1) := by decide +kernel
theorem dX10_had_16 : decode cX10_had 16 = .ok (.istore_n 2, 1) := by decide +kernel
theorem dX10_had_17 : decode cX10_had 17 = .ok (.iconst 0, 1) := by decide +kernel
theorem dX10_had_18 : decode cX10_had 18 = .ok (.istore_n 3, 1) := by decide +kernel
theorem dX10_had_19 : decode cX10_had 19 = .ok (.iload_n 3, 1) := by decide +kernel
theorem dX10_had_20 : decode cX10_had 20 = .ok (.aload_n 0, 1) := by decide +kernel
theorem dX10_had_21 : decode cX10_had 21 = .ok (.invokevirtual 522, 3) := by decide +kernel
theorem dX10_had_24 : decode cX10_had 24 = .ok (.if_icmp .ge 16, 3) := by decide +kernel
theorem dX10_had_27 : decode cX10_had 27 = .ok (.aload_n 0, 1) := by decide +kernel
theorem dX10_had_28 : decode cX10_had 28 = .ok (.getfield 154, 3) := by decide +kernel
theorem dX10_had_31 : decode cX10_had 31 = .ok (.iload_n 3, 1) := by decide +kernel
theorem dX10_had_32 : decode cX10_had 32 = .ok (.iconst 0, 1) := by decide +kernel
theorem dX10_had_33 : decode cX10_had 33 = .ok (.bastore, 1) := by decide +kernel
theorem dX10_had_34 : decode cX10_had 34 = .ok (.iinc 3 1, 3) := by decide +kernel
theorem dX10_had_37 : decode cX10_had 37 = .ok (.goto (-18), 3) := by decide +kernel
theorem dX10_had_40 : decode cX10_had 40 = .ok (.aload_n 0, 1) := by decide +kernel
theorem dX10_had_41 : decode cX10_had 41 = .ok (.invokevirtual 522, 3) := by decide +kernel
theorem dX10_had_44 : decode cX10_had 44 = .ok (.iconst 1, 1) := by decide +kernel
theorem dX10_had_45 : decode cX10_had 45 = .ok (.isub, 1) := by decide +kernel
theorem dX10_had_46 : decode cX10_had 46 = .ok (.istore_n 3, 1) := by decide +kernel
theorem dX10_had_47 : decode cX10_had 47 = .ok (.iload_n 3, 1) := by decide +kernel
theorem dX10_had_48 : decode cX10_had 48 = .ok (.ifCond .lt 40, 3) := by decide +kernel
theorem dX10_had_51 : decode cX10_had 51 = .ok (.aload_n 0, 1) := by decide +kernel
theorem dX10_had_52 : decode cX10_had 52 = .ok (.getfield 154, 3) := by decide +kernel
theorem dX10_had_55 : decode cX10_had 55 = .ok (.iload_n 3, 1) := by decide +kernel
theorem dX10_had_56 : decode cX10_had 56 = .ok (.baload, 1) := by decide +kernel
theorem dX10_had_57 : decode cX10_had 57 = .ok (.ifCond .ne 25, 3) := by decide +kernel
theorem dX10_had_60 : decode cX10_had 60 = .ok (.aload_n 0, 1) := by decide +kernel
theorem dX10_had_61 : decode cX10_had 61 = .ok (.getfield 151, 3) := by decide +kernel
theorem dX10_had_64 : decode cX10_had 64 = .ok (.iload_n 3, 1) := by decide +kernel
theorem dX10_had_65 : decode cX10_had 65 = .ok (.iaload, 1) := by decide +kernel
theorem dX10_had_66 : decode cX10_had 66 = .ok (.iconst (-1), 1) := by decide +kernel
theorem dX10_had_67 : decode cX10_had 67 = .ok (.if_icmp .eq 15, 3) := by decide +kernel
theorem dX10_had_70 : decode cX10_had 70 = .ok (.aload_n 0, 1) := by decide +kernel
theorem dX10_had_71 : decode cX10_had 71 = .ok (.getfield 154, 3) := by decide +kernel
theorem dX10_had_74 : decode cX10_had 74 = .ok (.aload_n 0, 1) := by decide +kernel
theorem dX10_had_75 : decode cX10_had 75 = .ok (.getfield 151, 3) := by decide +kernel
theorem dX10_had_78 : decode cX10_had 78 = .ok (.iload_n 3, 1) := by decide +kernel
theorem dX10_had_79 : decode cX10_had 79 = .ok (.iaload, 1) := by decide +kernel
theorem dX10_had_80 : decode cX10_had 80 = .ok (.iconst 1, 1) := by decide +kernel
theorem dX10_had_81 : decode cX10_had 81 = .ok (.bastore, 1) := by decide +kernel
theorem dX10_had_82 : decode cX10_had 82 = .ok (.iinc 3 (-1), 3) := by decide +kernel
theorem dX10_had_85 : decode cX10_had 85 = .ok (.goto (-38), 3) := by decide +kernel
theorem dX10_had_88 : decode cX10_had 88 = .ok (.iconst 0, 1) := by decide +kernel
theorem dX10_had_89 : decode cX10_had 89 = .ok (.istore_n 3, 1) := by decide +kernel
theorem dX10_had_90 : decode cX10_had 90 = .ok (.iload_n 3, 1) := by decide +kernel
theorem dX10_had_91 : decode cX10_had 91 = .ok (.aload_n 0, 1) := by decide +kernel
theorem dX10_had_92 : decode cX10_had 92 = .ok (.invokevirtual 522, 3) := by decide +kernel
theorem dX10_had_95 : decode cX10_had 95 = .ok (.if_icmp .ge 39, 3) := by decide +kernel
theorem dX10_had_98 : decode cX10_had 98 = .ok (.aload_n 0, 1) := by decide +kernel
theorem dX10_had_99 : decode cX10_had 99 = .ok (.getfield 154, 3) := by decide +kernel
theorem dX10_had_102 : decode cX10_had 102 = .ok (.iload_n 3, 1) := by decide +kernel
theorem dX10_had_103 : decode cX10_had 103 = .ok (.baload, 1) := by decide +kernel
theorem dX10_had_104 : decode cX10_had 104 = .ok (.ifCond .ne 24, 3) := by decide +kernel
theorem dX10_had_107 : decode cX10_had 107 = .ok (.aload_n 0, 1) := by decide +kernel
theorem dX10_had_108 : decode cX10_had 108 = .ok (.getfield 151, 3) := by decide +kernel
theorem dX10_had_111 : decode cX10_had 111 = .ok (.iload_n 3, 1) := by decide +kernel
theorem dX10_had_112 : decode cX10_had 112 = .ok (.iaload, 1) := by decide +kernel
theorem dX10_had_113 : decode cX10_had 113 = .ok (.iconst (-1), 1) := by decide +kernel
theorem dX10_had_114 : decode cX10_had 114 = .ok (.if_icmp .ne 14, 3) := by decide +kernel
theorem dX10_had_117 : decode cX10_had 117 = .ok (.iload_n 2, 1) := by decide +kernel
theorem dX10_had_118 : decode cX10_had 118 = .ok (.aload_n 0, 1) := by decide +kernel
theorem dX10_had_119 : decode cX10_had 119 = .ok (.getfield 141, 3) := by decide +kernel
theorem dX10_had_122 : decode cX10_had 122 = .ok (.iload_n 3, 1) := by decide +kernel
theorem dX10_had_123 : decode cX10_had 123 = .ok (.iaload, 1) := by decide +kernel
theorem dX10_had_124 : decode cX10_had 124 = .ok (.invokestatic 377, 3) := by decide +kernel
theorem dX10_had_127 : decode cX10_had 127 = .ok (.istore_n 2, 1) := by decide +kernel
theorem dX10_had_128 : decode cX10_had 128 = .ok (.iinc 3 1, 3) := by decide +kernel
theorem dX10_had_131 : decode cX10_had 131 = .ok (.goto (-41), 3) := by decide +kernel
theorem dX10_had_134 : decode cX10_had 134 = .ok (.iconst 0, 1) := by decide +kernel
theorem dX10_had_135 : decode cX10_had 135 = .ok (.istore_n 3, 1) := by decide +kernel
theorem dX10_had_136 : decode cX10_had 136 = .ok (.iconst 0, 1) := by decide +kernel
theorem dX10_had_137 : decode cX10_had 137 = .ok (.istore 4, 2) := by decide +kernel
theorem dX10_had_139 : decode cX10_had 139 = .ok (.iload 4, 2) := by decide +kernel
theorem dX10_had_141 : decode cX10_had 141 = .ok (.bipush 10, 2) := by decide +kernel
theorem dX10_had_143 : decode cX10_had 143 = .ok (.if_icmp .ge 34, 3) := by decide +kernel
theorem dX10_had_146 : decode cX10_had 146 = .ok (.iload_n 3, 1) := by decide +kernel
theorem dX10_had_147 : decode cX10_had 147 = .ok (.aload_n 0, 1) := by decide +kernel
theorem dX10_had_148 : decode cX10_had 148 = .ok (.iload_n 1, 1) := by decide +kernel
theorem dX10_had_149 : decode cX10_had 149 = .ok (.bipush 10, 2) := by decide +kernel
theorem dX10_had_151 : decode cX10_had 151 = .ok (.iload 4, 2) := by decide +kernel
theorem dX10_had_153 : decode cX10_had 153 = .ok (.imul, 1) := by decide +kernel
theorem dX10_had_154 : decode cX10_had 154 = .ok (.iload_n 2, 1) := by decide +kernel
theorem dX10_had_155 : decode cX10_had 155 = .ok (.invokevirtual 528, 3) := by decide +kernel
theorem dX10_had_158 : decode cX10_had 158 = .ok (.ifCond .eq 10, 3) := by decide +kernel
theorem dX10_had_161 : decode cX10_had 161 = .ok (.iconst 1, 1) := by decide +kernel
theorem dX10_had_162 : decode cX10_had 162 = .ok (.iload 4, 2) := by decide +kernel
theorem dX10_had_164 : decode cX10_had 164 = .ok (.ishl, 1) := by decide +kernel
theorem dX10_had_165 : decode cX10_had 165 = .ok (.goto 4, 3) := by decide +kernel
theorem dX10_had_168 : decode cX10_had 168 = .ok (.iconst 0, 1) := by decide +kernel
theorem dX10_had_169 : decode cX10_had 169 = .ok (.ior, 1) := by decide +kernel
theorem dX10_had_170 : decode cX10_had 170 = .ok (.istore_n 3, 1) := by decide +kernel
theorem dX10_had_171 : decode cX10_had 171 = .ok (.iinc 4 1, 3) := by decide +kernel
theorem dX10_had_174 : decode cX10_had 174 = .ok (.goto (-35), 3) := by decide +kernel
theorem dX10_had_177 : decode cX10_had 177 = .ok (.iload_n 3, 1) := by decide +kernel
theorem dX10_had_178 : decode cX10_had 178 = .ok (.ireturn, 1) := by decide +kernel
theorem dX10_chance_0 : decode cX10_chance 0 = .ok (.aload_n 0, 1) := by decide +kernel
theorem dX10_chance_1 : decode cX10_chance 1 = .ok (.iconst 0, 1) := by decide +kernel
theorem dX10_chance_2 : decode cX10_chance 2 = .ok (.putfield 160, 3) := by decide +kernel
theorem dX10_chance_5 : decode cX10_chance 5 = .ok (.iload_n 1, 1) := by decide +kernel
theorem dX10_chance_6 : decode cX10_chance 6 = .ok (.ifCond .lt 22, 3) := by decide +kernel
theorem dX10_chance_9 : decode cX10_chance 9 = .ok (.iload_n 2, 1) := by decide +kernel
theorem dX10_chance_10 : decode cX10_chance 10 = .ok (.iconst 1, 1) := by decide +kernel
theorem dX10_chance_11 : decode cX10_chance 11 = .ok (.if_icmp .lt 17, 3) := by decide +kernel
theorem dX10_chance_14 : decode cX10_chance 14 = .ok (.iload_n 2, 1) := by decide +kernel
theorem dX10_chance_15 : decode cX10_chance 15 = .ok (.bipush 99, 2) := by decide +kernel
theorem dX10_chance_17 : decode cX10_chance 17 = .ok (.if_icmp .gt 11, 3) := by decide +kernel
theorem dX10_chance_20 : decode cX10_chance 20 = .ok (.aload_n 0, 1) := by decide +kernel
theorem dX10_chance_21 : decode cX10_chance 21 = .ok (.iload_n 3, 1) := by decide +kernel
theorem dX10_chance_22 : decode cX10_chance 22 = .ok (.invokevirtual 466, 3) := by decide +kernel
theorem dX10_chance_25 : decode cX10_chance 25 = .ok (.ifCond .ne 5, 3) := by decide +kernel
theorem dX10_chance_28 : decode cX10_chance 28 = .ok (.iconst (-1), 1) := by decide +kernel
theorem dX10_chance_29 : decode cX10_chance 29 = .ok (.ireturn, 1) := by decide +kernel
theorem dX10_chance_30 : decode cX10_chance 30 = .ok (.iload_n 1, 1) := by decide +kernel
theorem dX10_chance_31 : decode cX10_chance 31 = .ok (.istore 4, 2) := by decide +kernel
theorem dX10_chance_33 : decode cX10_chance 33 = .ok (.iconst 0, 1) := by decide +kernel
theorem dX10_chance_34 : decode cX10_chance 34 = .ok (.istore 5, 2) := by decide +kernel
theorem dX10_chance_36 : decode cX10_chance 36 = .ok (.iconst 0, 1) := by decide +kernel
theorem dX10_chance_37 : decode cX10_chance 37 = .ok (.istore 6, 2) := by decide +kernel
theorem dX10_chance_39 : decode cX10_chance 39 = .ok (.iload 6, 2) := by decide +kernel
theorem dX10_chance_41 : decode cX10_chance 41 = .ok (.bipush 10, 2) := by decide +kernel
theorem dX10_chance_43 : decode cX10_chance 43 = .ok (.if_icmp .ge 71, 3) := by decide +kernel
theorem dX10_chance_46 : decode cX10_chance 46 = .ok (.aload_n 0, 1) := by decide +kernel
theorem dX10_chance_47 : decode cX10_chance 47 = .ok (.iconst 1, 1) := by decide +kernel
theorem dX10_chance_48 : decode cX10_chance 48 = .ok (.iconst 0, 1) := by decide +kernel
theorem dX10_chance_49 : decode cX10_chance 49 = .ok (.invokevirtual 450, 3) := by decide +kernel
theorem dX10_chance_52 : decode cX10_chance 52 = .ok (.aload_n 0, 1) := by decide +kernel
theorem dX10_chance_53 : decode cX10_chance 53 = .ok (.getfield 84, 3) := by decide +kernel
theorem dX10_chance_56 : decode cX10_chance 56 = .ok (.iconst 1, 1) := by decide +kernel
theorem dX10_chance_57 : decode cX10_chance 57 = .ok (.iload 4, 2) := by decide +kernel
theorem dX10_chance_59 : decode cX10_chance 59 = .ok (.iastore, 1) := by decide +kernel
theorem dX10_chance_60 : decode cX10_chance 60 = .ok (.iconst 0, 1) := by decide +kernel
theorem dX10_chance_61 : decode cX10_chance 61 = .ok (.istore 7, 2) := by decide +kernel
theorem dX10_chance_63 : decode cX10_chance 63 = .ok (.iload 7, 2) := by decide +kernel
theorem dX10_chance_65 : decode cX10_chance 65 = .ok (.iload_n 2, 1) := by decide +kernel
theorem dX10_chance_66 : decode cX10_chance 66 = .ok (.if_icmp .ge 15, 3) := by decide +kernel
theorem dX10_chance_69 : decode cX10_chance 69 = .ok (.aload_n 0, 1) := by decide +kernel
theorem dX10_chance_70 : decode cX10_chance 70 = .ok (.iconst 1, 1) := by decide +kernel
theorem dX10_chance_71 : decode cX10_chance 71 = .ok (.iconst 1, 1) := by decide +kernel
theorem dX10_chance_72 : decode cX10_chance 72 = .ok (.invokevirtual 447, 3) := by decide +kernel
theorem dX10_chance_75 : decode cX10_chance 75 = .ok (.iinc 7 1, 3) := by decide +kernel
theorem dX10_chance_78 : decode cX10_chance 78 = .ok (.goto (-15), 3) := by decide +kernel
theorem dX10_chance_81 : decode cX10_chance 81 = .ok (.aload_n 0, 1) := by decide +kernel
theorem dX10_chance_82 : decode cX10_chance 82 = .ok (.getfield 84, 3) := by decide +kernel
theorem dX10_chance_85 : decode cX10_chance 85 = .ok (.iconst 1, 1) := by decide +kernel
theorem dX10_chance_86 : decode cX10_chance 86 = .ok (.iaload, 1) := by decide +kernel
theorem dX10_chance_87 : decode cX10_chance 87 = .ok (.istore 4, 2) := by decide +kernel
theorem dX10_chance_89 : decode cX10_chance 89 = .ok (.iload 5, 2) := by decide +kernel
theorem dX10_chance_91 : decode cX10_chance 91 = .ok (.aload_n 0, 1) := by decide +kernel
theorem dX10_chance_92 : decode cX10_chance 92 = .ok (.iconst 1, 1) := by decide +kernel
theorem dX10_chance_93 : decode cX10_chance 93 = .ok (.iload_n 3, 1) := by decide +kernel
theorem dX10_chance_94 : decode cX10_chance 94 = .ok (.invokevirtual 391, 3) := by decide +kernel
theorem dX10_chance_97 : decode cX10_chance 97 = .ok (.ifCond .eq 7, 3) := by decide +kernel
theorem dX10_chance_100 : decode cX10_chance 100 = .ok (.iconst 1, 1) := by decide +kernel
theorem dX10_chance_101 : decode cX10_chance 101 = .ok (.goto 4, 3) := by decide +kernel
theorem dX10_chance_104 : decode cX10_chance 104 = .ok (.iconst 0, 1) := by decide +kernel
theorem dX10_chance_105 : decode cX10_chance 105 = .ok (.iadd, 1) := by decide +kernel
theorem dX10_chance_106 : decode cX10_chance 106 = .ok (.istore 5, 2) := by decide +kernel
theorem dX10_chance_108 : decode cX10_chance 108 = .ok (.iinc 6 1, 3) := by decide +kernel
theorem dX10_chance_111 : decode cX10_chance 111 = .ok (.goto (-72), 3) := by decide +kernel
theorem dX10_chance_114 : decode cX10_chance 114 = .ok (.iload 5, 2) := by decide +kernel
theorem dX10_chance_116 : decode cX10_chance 116 = .ok (.ireturn, 1) := by decide +kernel
theorem dX10_tried_0 : decode cX10_tried 0 = .ok (.aload_n 0, 1) := by decide +kernel
theorem dX10_tried_1 : decode cX10_tried 1 = .ok (.iconst 0, 1) := by decide +kernel
theorem dX10_tried_2 : decode cX10_tried 2 = .ok (.putfield 160, 3) := by decide +kernel
theorem dX10_tried_5 : decode cX10_tried 5 = .ok (.iload_n 1, 1) := by decide +kernel
theorem dX10_tried_6 : decode cX10_tried 6 = .ok (.iconst 2, 1) := by decide +kernel
theorem dX10_tried_7 : decode cX10_tried 7 = .ok (.if_icmp .ne 11, 3) := by decide +kernel
theorem dX10_tried_10 : decode cX10_tried 10 = .ok (.aload_n 0, 1) := by decide +kernel
theorem dX10_tried_11 : decode cX10_tried 11 = .ok (.iload_n 2, 1) := by decide +kernel
theorem dX10_tried_12 : decode cX10_tried 12 = .ok (.invokevirtual 466, 3) := by decide +kernel
theorem dX10_tried_15 : decode cX10_tried 15 = .ok (.goto 21, 3) := by decide +kernel
theorem dX10_tried_18 : decode cX10_tried 18 = .ok (.iload_n 1, 1) := by decide +kernel
theorem dX10_tried_19 : decode cX10_tried 19 = .ok (.ifCond .lt 16, 3) := by decide +kernel
theorem dX10_tried_22 : decode cX10_tried 22 = .ok (.iload_n 1, 1) := by decide +kernel
theorem dX10_tried_23 : decode cX10_tried 23 = .ok (.iconst 5, 1) := by decide +kernel
theorem dX10_tried_24 : decode cX10_tried 24 = .ok (.if_icmp .gt 11, 3) := by decide +kernel
theorem dX10_tried_27 : decode cX10_tried 27 = .ok (.iload_n 2, 1) := by decide +kernel
theorem dX10_tried_28 : decode cX10_tried 28 = .ok (.ifCond .ne 7, 3) := by decide +kernel
theorem dX10_tried_31 : decode cX10_tried 31 = .ok (.iconst 1, 1) := by decide +kernel
theorem dX10_tried_32 : decode cX10_tried 32 = .ok (.goto 4, 3) := by decide +kernel
theorem dX10_tried_35 : decode cX10_tried 35 = .ok (.iconst 0, 1) := by decide +kernel
theorem dX10_tried_36 : decode cX10_tried 36 = .ok (.istore 4, 2) := by decide +kernel
theorem dX10_tried_38 : decode cX10_tried 38 = .ok (.iload 4, 2) := by decide +kernel
theorem dX10_tried_40 : decode cX10_tried 40 = .ok (.ifCond .eq 13, 3) := by decide +kernel
theorem dX10_tried_43 : decode cX10_tried 43 = .ok (.iload_n 3, 1) := by decide +kernel
theorem dX10_tried_44 : decode cX10_tried 44 = .ok (.ifCond .lt 9, 3) := by decide +kernel
theorem dX10_tried_47 : decode cX10_tried 47 = .ok (.iload_n 3, 1) := by decide +kernel
theorem dX10_tried_48 : decode cX10_tried 48 = .ok (.bipush 99, 2) := by decide +kernel
theorem dX10_tried_50 : decode cX10_tried 50 = .ok (.if_icmp .le 5, 3) := by decide +kernel
theorem dX10_tried_53 : decode cX10_tried 53 = .ok (.iconst (-1), 1) := by decide +kernel
theorem dX10_tried_54 : decode cX10_tried 54 = .ok (.ireturn, 1) := by decide +kernel
theorem dX10_tried_55 : decode cX10_tried 55 = .ok (.aload_n 0, 1) := by decide +kernel
theorem dX10_tried_56 : decode cX10_tried 56 = .ok (.iconst 1, 1) := by decide +kernel
theorem dX10_tried_57 : decode cX10_tried 57 = .ok (.iconst 0, 1) := by decide +kernel
theorem dX10_tried_58 : decode cX10_tried 58 = .ok (.invokevirtual 450, 3) := by decide +kernel
theorem dX10_tried_61 : decode cX10_tried 61 = .ok (.iload_n 1, 1) := by decide +kernel
theorem dX10_tried_62 : decode cX10_tried 62 = .ok (.iconst 2, 1) := by decide +kernel
theorem dX10_tried_63 : decode cX10_tried 63 = .ok (.if_icmp .ne 13, 3) := by decide +kernel
theorem dX10_tried_66 : decode cX10_tried 66 = .ok (.aload_n 0, 1) := by decide +kernel
theorem dX10_tried_67 : decode cX10_tried 67 = .ok (.getfield 99, 3) := by decide +kernel
theorem dX10_tried_70 : decode cX10_tried 70 = .ok (.bipush 6, 2) := by decide +kernel
theorem dX10_tried_72 : decode cX10_tried 72 = .ok (.iload_n 2, 1) := by decide +kernel
theorem dX10_tried_73 : decode cX10_tried 73 = .ok (.iadd, 1) := by decide +kernel
theorem dX10_tried_74 : decode cX10_tried 74 = .ok (.iconst 0, 1) := by decide +kernel
theorem dX10_tried_75 : decode cX10_tried 75 = .ok (.iastore, 1) := by decide +kernel
theorem dX10_tried_76 : decode cX10_tried 76 = .ok (.iconst 0, 1) := by decide +kernel
theorem dX10_tried_77 : decode cX10_tried 77 = .ok (.istore 5, 2) := by decide +kernel
theorem dX10_tried_79 : decode cX10_tried 79 = .ok (.iload 5, 2) := by decide +kernel
theorem dX10_tried_81 : decode cX10_tried 81 = .ok (.aload_n 0, 1) := by decide +kernel
theorem dX10_tried_82 : decode cX10_tried 82 = .ok (.getfield 87, 3) := by decide +kernel
theorem dX10_tried_85 : decode cX10_tried 85 = .ok (.iconst 0, 1) := by decide +kernel
theorem dX10_tried_86 : decode cX10_tried 86 = .ok (.iaload, 1) := by decide +kernel
theorem dX10_tried_87 : decode cX10_tried 87 = .ok (.if_icmp .ge 71, 3) := by decide +kernel
theorem dX10_tried_90 : decode cX10_tried 90 = .ok (.iload_n 1, 1) := by decide +kernel
theorem dX10_tried_91 : decode cX10_tried 91 = .ok (.iconst 5, 1) := by decide +kernel
theorem dX10_tried_92 : decode cX10_tried 92 = .ok (.if_icmp .ne 66, 3) := by decide +kernel
theorem dX10_tried_95 : decode cX10_tried 95 = .ok (.iconst 0, 1) := by decide +kernel
theorem dX10_tried_96 : decode cX10_tried 96 = .ok (.istore 6, 2) := by decide +kernel
theorem dX10_tried_98 : decode cX10_tried 98 = .ok (.iload 6, 2) := by decide +kernel
theorem dX10_tried_100 : decode cX10_tried 100 = .ok (.aload_n 0, 1) := by decide +kernel
theorem dX10_tried_101 : decode cX10_tried 101 = .ok (.getfield 13, 3) := by decide +kernel
theorem dX10_tried_104 : decode cX10_tried 104 = .ok (.iconst 1, 1) := by decide +kernel
theorem dX10_tried_105 : decode cX10_tried 105 = .ok (.iaload, 1) := by decide +kernel
theorem dX10_tried_106 : decode cX10_tried 106 = .ok (.if_icmp .ge 46, 3) := by decide +kernel
theorem dX10_tried_109 : decode cX10_tried 109 = .ok (.aload_n 0, 1) := by decide +kernel
theorem dX10_tried_110 : decode cX10_tried 110 = .ok (.iconst 0, 1) := by decide +kernel
theorem dX10_tried_111 : decode cX10_tried 111 = .ok (.iload 5, 2) := by decide +kernel
theorem dX10_tried_113 : decode cX10_tried 113 = .ok (.invokevirtual 402, 3) := by decide +kernel
theorem dX10_tried_116 : decode cX10_tried 116 = .ok (.ifCond .eq 30, 3) := by decide +kernel
theorem dX10_tried_119 : decode cX10_tried 119 = .ok (.aload_n 0, 1) := by decide +kernel
theorem dX10_tried_120 : decode cX10_tried 120 = .ok (.iconst 0, 1) := by decide +kernel
theorem dX10_tried_121 : decode cX10_tried 121 = .ok (.iload 6, 2) := by decide +kernel
theorem dX10_tried_123 : decode cX10_tried 123 = .ok (.invokevirtual 391, 3) := by decide +kernel
theorem dX10_tried_126 : decode cX10_tried 126 = .ok (.ifCond .eq 20, 3) := by decide +kernel
theorem dX10_tried_129 : decode cX10_tried 129 = .ok (.aload_n 0, 1) := by decide +kernel
theorem dX10_tried_130 : decode cX10_tried 130 = .ok (.getfield 99, 3) := by decide +kernel
theorem dX10_tried_133 : decode cX10_tried 133 = .ok (.bipush 6, 2) := by decide +kernel
theorem dX10_tried_135 : decode cX10_tried 135 = .ok (.iload 6, 2) := by decide +kernel
theorem dX10_tried_137 : decode cX10_tried 137 = .ok (.iadd, 1) := by decide +kernel
theorem dX10_tried_138 : decode cX10_tried 138 = .ok (.dup2, 1) := by decide +kernel
theorem dX10_tried_139 : decode cX10_tried 139 = .ok (.iaload, 1) := by decide +kernel
theorem dX10_tried_140 : decode cX10_tried 140 = .ok (.iconst 1, 1) := by decide +kernel
theorem dX10_tried_141 : decode cX10_tried 141 = .ok (.iload 5, 2) := by decide +kernel
theorem dX10_tried_143 : decode cX10_tried 143 = .ok (.ishl, 1) := by decide +kernel
theorem dX10_tried_144 : decode cX10_tried 144 = .ok (.ior, 1) := by decide +kernel
theorem dX10_tried_145 : decode cX10_tried 145 = .ok (.iastore, 1) := by decide +kernel
theorem dX10_tried_146 : decode cX10_tried 146 = .ok (.iinc 6 1, 3) := by decide +kernel
theorem dX10_tried_149 : decode cX10_tried 149 = .ok (.goto (-51), 3) := by decide +kernel
theorem dX10_tried_152 : decode cX10_tried 152 = .ok (.iinc 5 1, 3) := by decide +kernel
theorem dX10_tried_155 : decode cX10_tried 155 = .ok (.goto (-76), 3) := by decide +kernel
theorem dX10_tried_158 : decode cX10_tried 158 = .ok (.aload_n 0, 1) := by decide +kernel
theorem dX10_tried_159 : decode cX10_tried 159 = .ok (.iload_n 1, 1) := by decide +kernel
theorem dX10_tried_160 : decode cX10_tried 160 = .ok (.putfield 388, 3) := by decide +kernel
theorem dX10_tried_163 : decode cX10_tried 163 = .ok (.aload_n 0, 1) := by decide +kernel
theorem dX10_tried_164 : decode cX10_tried 164 = .ok (.iload_n 2, 1) := by decide +kernel
theorem dX10_tried_165 : decode cX10_tried 165 = .ok (.putfield 123, 3) := by decide +kernel
theorem dX10_tried_168 : decode cX10_tried 168 = .ok (.aload_n 0, 1) := by decide +kernel
theorem dX10_tried_169 : decode cX10_tried 169 = .ok (.iload_n 3, 1) := by decide +kernel
theorem dX10_tried_170 : decode cX10_tried 170 = .ok (.invokevirtual 453, 3) := by decide +kernel
theorem dX10_tried_173 : decode cX10_tried 173 = .ok (.aload_n 0, 1) := by decide +kernel
theorem dX10_tried_174 : decode cX10_tried 174 = .ok (.iconst 0, 1) := by decide +kernel
theorem dX10_tried_175 : decode cX10_tried 175 = .ok (.putfield 388, 3) := by decide +kernel
theorem dX10_tried_178 : decode cX10_tried 178 = .ok (.aload_n 0, 1) := by decide +kernel
theorem dX10_tried_179 : decode cX10_tried 179 = .ok (.iconst (-1), 1) := by decide +kernel
theorem dX10_tried_180 : decode cX10_tried 180 = .ok (.putfield 123, 3) := by decide +kernel
theorem dX10_tried_183 : decode cX10_tried 183 = .ok (.aload_n 0, 1) := by decide +kernel
theorem dX10_tried_184 : decode cX10_tried 184 = .ok (.iconst 1, 1) := by decide +kernel
theorem dX10_tried_185 : decode cX10_tried 185 = .ok (.iconst 3, 1) := by decide +kernel
theorem dX10_tried_186 : decode cX10_tried 186 = .ok (.invokevirtual 482, 3) := by decide +kernel
theorem dX10_tried_189 : decode cX10_tried 189 = .ok (.aload_n 0, 1) := by decide +kernel
theorem dX10_tried_190 : decode cX10_tried 190 = .ok (.iconst 0, 1) := by decide +kernel
theorem dX10_tried_191 : decode cX10_tried 191 = .ok (.iconst 3, 1) := by decide +kernel
theorem dX10_tried_192 : decode cX10_tried 192 = .ok (.invokevirtual 482, 3) := by decide +kernel
theorem dX10_tried_195 : decode cX10_tried 195 = .ok (.isub, 1) := by decide +kernel
theorem dX10_tried_196 : decode cX10_tried 196 = .ok (.ireturn, 1) := by decide +kernel
theorem dX10_undo_0 : decode cX10_undo 0 = .ok (.aload_n 0, 1) := by decide +kernel
theorem dX10_undo_1 : decode cX10_undo 1 = .ok (.iconst 0, 1) := by decide +kernel
theorem dX10_undo_2 : decode cX10_undo 2 = .ok (.putfield 160, 3) := by decide +kernel
theorem dX10_undo_5 : decode cX10_undo 5 = .ok (.aload_n 0, 1) := by decide +kernel
theorem dX10_undo_6 : decode cX10_undo 6 = .ok (.getfield 332, 3) := by decide +kernel
theorem dX10_undo_9 : decode cX10_undo 9 = .ok (.ifCond .ne 5, 3) := by decide +kernel
theorem dX10_undo_12 : decode cX10_undo 12 = .ok (.iconst (-1), 1) := by decide +kernel
theorem dX10_undo_13 : decode cX10_undo 13 = .ok (.ireturn, 1) := by decide +kernel
theorem dX10_undo_14 : decode cX10_undo 14 = .ok (.aload_n 0, 1) := by decide +kernel
theorem dX10_undo_15 : decode cX10_undo 15 = .ok (.dup, 1) := by decide +kernel
theorem dX10_undo_16 : decode cX10_undo 16 = .ok (.getfield 332, 3) := by decide +kernel
theorem dX10_undo_19 : decode cX10_undo 19 = .ok (.iconst 1, 1) := by decide +kernel
theorem dX10_undo_20 : decode cX10_undo 20 = .ok (.isub, 1) := by decide +kernel
theorem dX10_undo_21 : decode cX10_undo 21 = .ok (.putfield 332, 3) := by decide +kernel
theorem dX10_undo_24 : decode cX10_undo 24 = .ok (.aload_n 0, 1) := by decide +kernel
theorem dX10_undo_25 : decode cX10_undo 25 = .ok (.iconst 0, 1) := by decide +kernel
theorem dX10_undo_26 : decode cX10_undo 26 = .ok (.iconst 3, 1) := by decide +kernel
theorem dX10_undo_27 : decode cX10_undo 27 = .ok (.aload_n 0, 1) := by decide +kernel
theorem dX10_undo_28 : decode cX10_undo 28 = .ok (.getfield 332, 3) := by decide +kernel
theorem dX10_undo_31 : decode cX10_undo 31 = .ok (.iadd, 1) := by decide +kernel
theorem dX10_undo_32 : decode cX10_undo 32 = .ok (.invokevirtual 450, 3) := by decide +kernel
theorem dX10_undo_35 : decode cX10_undo 35 = .ok (.aload_n 0, 1) := by decide +kernel
theorem dX10_undo_36 : decode cX10_undo 36 = .ok (.getfield 332, 3) := by decide +kernel
theorem dX10_undo_39 : decode cX10_undo 39 = .ok (.ireturn, 1) := by decide +kernel
theorem dX10_image_0 : decode cX10_image 0 = .ok (.aload_n 0, 1) := by decide +kernel
theorem dX10_image_1 : decode cX10_image 1 = .ok (.iconst 0, 1) := by decide +kernel
theorem dX10_image_2 : decode cX10_image 2 = .ok (.putfield 160, 3) := by decide +kernel
theorem dX10_image_5 : decode cX10_image 5 = .ok (.aload_n 0, 1) := by decide +kernel
theorem dX10_image_6 : decode cX10_image 6 = .ok (.iconst 2, 1) := by decide +kernel
theorem dX10_image_7 : decode cX10_image 7 = .ok (.iconst 0, 1) := by decide +kernel
theorem dX10_image_8 : decode cX10_image 8 = .ok (.invokevirtual 450, 3) := by decide +kernel
theorem dX10_image_11 : decode cX10_image 11 = .ok (.aload_n 0, 1) := by decide +kernel
theorem dX10_image_12 : decode cX10_image 12 = .ok (.iconst 1, 1) := by decide +kernel
theorem dX10_image_13 : decode cX10_image 13 = .ok (.putfield 328, 3) := by decide +kernel
theorem dX10_image_16 : decode cX10_image 16 = .ok (.aload_n 0, 1) := by decide +kernel
theorem dX10_image_17 : decode cX10_image 17 = .ok (.getfield 81, 3) := by decide +kernel
theorem dX10_image_20 : decode cX10_image 20 = .ok (.iconst 0, 1) := by decide +kernel
theorem dX10_image_21 : decode cX10_image 21 = .ok (.iaload, 1) := by decide +kernel
theorem dX10_image_22 : decode cX10_image 22 = .ok (.ireturn, 1) := by decide +kernel
theorem dX10_back_0 : decode cX10_back 0 = .ok (.aload_n 0, 1) := by decide +kernel
theorem dX10_back_1 : decode cX10_back 1 = .ok (.iconst 0, 1) := by decide +kernel
theorem dX10_back_2 : decode cX10_back 2 = .ok (.putfield 160, 3) := by decide +kernel
theorem dX10_back_5 : decode cX10_back 5 = .ok (.aload_n 0, 1) := by decide +kernel
theorem dX10_back_6 : decode cX10_back 6 = .ok (.getfield 328, 3) := by decide +kernel
theorem dX10_back_9 : decode cX10_back 9 = .ok (.ifCond .ne 5, 3) := by decide +kernel
theorem dX10_back_12 : decode cX10_back 12 = .ok (.iconst (-1), 1) := by decide +kernel
theorem dX10_back_13 : decode cX10_back 13 = .ok (.ireturn, 1) := by decide +kernel
theorem dX10_back_14 : decode cX10_back 14 = .ok (.aload_n 0, 1) := by decide +kernel
theorem dX10_back_15 : decode cX10_back 15 = .ok (.iconst 0, 1) := by decide +kernel
theorem dX10_back_16 : decode cX10_back 16 = .ok (.iconst 2, 1) := by decide +kernel
theorem dX10_back_17 : decode cX10_back 17 = .ok (.invokevirtual 450, 3) := by decide +kernel
theorem dX10_back_20 : decode cX10_back 20 = .ok (.aload_n 0, 1) := by decide +kernel
theorem dX10_back_21 : decode cX10_back 21 = .ok (.iconst 0, 1) := by decide +kernel
theorem dX10_back_22 : decode cX10_back 22 = .ok (.putfield 332, 3) := by decide +kernel
theorem dX10_back_25 : decode cX10_back 25 = .ok (.aload_n 0, 1) := by decide +kernel
theorem dX10_back_26 : decode cX10_back 26 = .ok (.getfield 81, 3) := by decide +kernel
theorem dX10_back_29 : decode cX10_back 29 = .ok (.iconst 0, 1) := by decide +kernel
theorem dX10_back_30 : decode cX10_back 30 = .ok (.iaload, 1) := by decide +kernel
theorem dX10_back_31 : decode cX10_back 31 = .ok (.ireturn, 1) := by decide +kernel
theorem dX10_count_0 : decode cX10_count 0 = .ok (.aload_n 0, 1) := by decide +kernel
theorem dX10_count_1 : decode cX10_count 1 = .ok (.iconst 0, 1) := by decide +kernel
theorem dX10_count_2 : decode cX10_count 2 = .ok (.putfield 160, 3) := by decide +kernel
theorem dX10_count_5 : decode cX10_count 5 = .ok (.iconst 0, 1) := by decide +kernel
theorem dX10_count_6 : decode cX10_count 6 = .ok (.istore_n 2, 1) := by decide +kernel
theorem dX10_count_7 : decode cX10_count 7 = .ok (.iload_n 1, 1) := by decide +kernel
theorem dX10_count_8 : decode cX10_count 8 = .ok (.tableswitch 223 0 14 #[76, 83, 90, 97, 105, 112, 119, 126, 133, 140, 150, 179, 208, 213, 218], 76) := by decide +kernel
theorem dX10_count_84 : decode cX10_count 84 = .ok (.aload_n 0, 1) := by decide +kernel
theorem dX10_count_85 : decode cX10_count 85 = .ok (.getfield 13, 3) := by decide +kernel
theorem dX10_count_88 : decode cX10_count 88 = .ok (.iconst 0, 1) := by decide +kernel
theorem dX10_count_89 : decode cX10_count 89 = .ok (.iaload, 1) := by decide +kernel
theorem dX10_count_90 : decode cX10_count 90 = .ok (.ireturn, 1) := by decide +kernel
theorem dX10_count_91 : decode cX10_count 91 = .ok (.aload_n 0, 1) := by decide +kernel
theorem dX10_count_92 : decode cX10_count 92 = .ok (.getfield 13, 3) := by decide +kernel
theorem dX10_count_95 : decode cX10_count 95 = .ok (.iconst 1, 1) := by decide +kernel
theorem dX10_count_96 : decode cX10_count 96 = .ok (.iaload, 1) := by decide +kernel
theorem dX10_count_97 : decode cX10_count 97 = .ok (.ireturn, 1) := by decide +kernel
theorem dX10_count_98 : decode cX10_count 98 = .ok (.aload_n 0, 1) := by decide +kernel
theorem dX10_count_99 : decode cX10_count 99 = .ok (.getfield 87, 3) := by decide +kernel
theorem dX10_count_102 : decode cX10_count 102 = .ok (.iconst 0, 1) := by decide +kernel
theorem dX10_count_103 : decode cX10_count 103 = .ok (.iaload, 1) := by decide +kernel
theorem dX10_count_104 : decode cX10_count 104 = .ok (.ireturn, 1) := by decide +kernel
theorem dX10_count_105 : decode cX10_count 105 = .ok (.aload_n 0, 1) := by decide +kernel
theorem dX10_count_106 : decode cX10_count 106 = .ok (.getfield 13, 3) := by decide +kernel
theorem dX10_count_109 : decode cX10_count 109 = .ok (.bipush 6, 2) := by decide +kernel
theorem dX10_count_111 : decode cX10_count 111 = .ok (.iaload, 1) := by decide +kernel
theorem dX10_count_112 : decode cX10_count 112 = .ok (.ireturn, 1) := by decide +kernel
theorem dX10_count_113 : decode cX10_count 113 = .ok (.aload_n 0, 1) := by decide +kernel
theorem dX10_count_114 : decode cX10_count 114 = .ok (.getfield 81, 3) := by decide +kernel
theorem dX10_count_117 : decode cX10_count 117 = .ok (.iconst 0, 1) := by decide +kernel
theorem dX10_count_118 : decode cX10_count 118 = .ok (.iaload, 1) := by decide +kernel
theorem dX10_count_119 : decode cX10_count 119 = .ok (.ireturn, 1) := by decide +kernel
theorem dX10_count_120 : decode cX10_count 120 = .ok (.aload_n 0, 1) := by decide +kernel
theorem dX10_count_121 : decode cX10_count 121 = .ok (.iconst 0, 1) := by decide +kernel
theorem dX10_count_122 : decode cX10_count 122 = .ok (.iconst 1, 1) := by decide +kernel
theorem dX10_count_123 : decode cX10_count 123 = .ok (.invokevirtual 482, 3) := by decide +kernel
theorem dX10_count_126 : decode cX10_count 126 = .ok (.ireturn, 1) := by decide +kernel
theorem dX10_count_127 : decode cX10_count 127 = .ok (.aload_n 0, 1) := by decide +kernel
theorem dX10_count_128 : decode cX10_count 128 = .ok (.iconst 0, 1) := by decide +kernel
theorem dX10_count_129 : decode cX10_count 129 = .ok (.iconst 2, 1) := by decide +kernel
theorem dX10_count_130 : decode cX10_count 130 = .ok (.invokevirtual 482, 3) := by decide +kernel
theorem dX10_count_133 : decode cX10_count 133 = .ok (.ireturn, 1) := by decide +kernel
theorem dX10_count_134 : decode cX10_count 134 = .ok (.aload_n 0, 1) := by decide +kernel
theorem dX10_count_135 : decode cX10_count 135 = .ok (.iconst 0, 1) := by decide +kernel
theorem dX10_count_136 : decode cX10_count 136 = .ok (.iconst 3, 1) := by decide +kernel
theorem dX10_count_137 : decode cX10_count 137 = .ok (.invokevirtual 482, 3) := by decide +kernel
theorem dX10_count_140 : decode cX10_count 140 = .ok (.ireturn, 1) := by decide +kernel
theorem dX10_count_141 : decode cX10_count 141 = .ok (.aload_n 0, 1) := by decide +kernel
theorem dX10_count_142 : decode cX10_count 142 = .ok (.iconst 0, 1) := by decide +kernel
theorem dX10_count_143 : decode cX10_count 143 = .ok (.iconst 4, 1) := by decide +kernel
theorem dX10_count_144 : decode cX10_count 144 = .ok (.invokevirtual 482, 3) := by decide +kernel
theorem dX10_count_147 : decode cX10_count 147 = .ok (.ireturn, 1) := by decide +kernel
theorem dX10_count_148 : decode cX10_count 148 = .ok (.aload_n 0, 1) := by decide +kernel
theorem dX10_count_149 : decode cX10_count 149 = .ok (.getfield 90, 3) := by decide +kernel
theorem dX10_count_152 : decode cX10_count 152 = .ok (.iconst 0, 1) := by decide +kernel
theorem dX10_count_153 : decode cX10_count 153 = .ok (.iaload, 1) := by decide +kernel
theorem dX10_count_154 : decode cX10_count 154 = .ok (.invokestatic 361, 3) := by decide +kernel
theorem dX10_count_157 : decode cX10_count 157 = .ok (.ireturn, 1) := by decide +kernel
theorem dX10_count_158 : decode cX10_count 158 = .ok (.iconst 0, 1) := by decide +kernel
theorem dX10_count_159 : decode cX10_count 159 = .ok (.istore_n 3, 1) := by decide +kernel
theorem dX10_count_160 : decode cX10_count 160 = .ok (.iload_n 3, 1) := by decide +kernel
theorem dX10_count_161 : decode cX10_count 161 = .ok (.aload_n 0, 1) := by decide +kernel
theorem dX10_count_162 : decode cX10_count 162 = .ok (.getfield 87, 3) := by decide +kernel
theorem dX10_count_165 : decode cX10_count 165 = .ok (.iconst 0, 1) := by decide +kernel
theorem dX10_count_166 : decode cX10_count 166 = .ok (.iaload, 1) := by decide +kernel
theorem dX10_count_167 : decode cX10_count 167 = .ok (.if_icmp .ge 18, 3) := by decide +kernel
theorem dX10_count_170 : decode cX10_count 170 = .ok (.iload_n 2, 1) := by decide +kernel
theorem dX10_count_171 : decode cX10_count 171 = .ok (.aload_n 0, 1) := by decide +kernel
theorem dX10_count_172 : decode cX10_count 172 = .ok (.getfield 120, 3) := by decide +kernel
theorem dX10_count_175 : decode cX10_count 175 = .ok (.iload_n 3, 1) := by decide +kernel
theorem dX10_count_176 : decode cX10_count 176 = .ok (.iaload, 1) := by decide +kernel
theorem dX10_count_177 : decode cX10_count 177 = .ok (.iadd, 1) := by decide +kernel
theorem dX10_count_178 : decode cX10_count 178 = .ok (.istore_n 2, 1) := by decide +kernel
theorem dX10_count_179 : decode cX10_count 179 = .ok (.iinc 3 1, 3) := by decide +kernel
theorem dX10_count_182 : decode cX10_count 182 = .ok (.goto (-22), 3) := by decide +kernel
theorem dX10_count_185 : decode cX10_count 185 = .ok (.iload_n 2, 1) := by decide +kernel
theorem dX10_count_186 : decode cX10_count 186 = .ok (.ireturn, 1) := by decide +kernel
theorem dX10_count_187 : decode cX10_count 187 = .ok (.iconst 0, 1) := by decide +kernel
theorem dX10_count_188 : decode cX10_count 188 = .ok (.istore_n 3, 1) := by decide +kernel
theorem dX10_count_189 : decode cX10_count 189 = .ok (.iload_n 3, 1) := by decide +kernel
theorem dX10_count_190 : decode cX10_count 190 = .ok (.aload_n 0, 1) := by decide +kernel
theorem dX10_count_191 : decode cX10_count 191 = .ok (.getfield 13, 3) := by decide +kernel
theorem dX10_count_194 : decode cX10_count 194 = .ok (.iconst 0, 1) := by decide +kernel
theorem dX10_count_195 : decode cX10_count 195 = .ok (.iaload, 1) := by decide +kernel
theorem dX10_count_196 : decode cX10_count 196 = .ok (.if_icmp .ge 18, 3) := by decide +kernel
theorem dX10_count_199 : decode cX10_count 199 = .ok (.iload_n 2, 1) := by decide +kernel
theorem dX10_count_200 : decode cX10_count 200 = .ok (.aload_n 0, 1) := by decide +kernel
theorem dX10_count_201 : decode cX10_count 201 = .ok (.getfield 93, 3) := by decide +kernel
theorem dX10_count_204 : decode cX10_count 204 = .ok (.iload_n 3, 1) := by decide +kernel
theorem dX10_count_205 : decode cX10_count 205 = .ok (.iaload, 1) := by decide +kernel
theorem dX10_count_206 : decode cX10_count 206 = .ok (.iadd, 1) := by decide +kernel
theorem dX10_count_207 : decode cX10_count 207 = .ok (.istore_n 2, 1) := by decide +kernel
theorem dX10_count_208 : decode cX10_count 208 = .ok (.iinc 3 1, 3) := by decide +kernel
theorem dX10_count_211 : decode cX10_count 211 = .ok (.goto (-22), 3) := by decide +kernel
theorem dX10_count_214 : decode cX10_count 214 = .ok (.iload_n 2, 1) := by decide +kernel
theorem dX10_count_215 : decode cX10_count 215 = .ok (.ireturn, 1) := by decide +kernel
theorem dX10_count_216 : decode cX10_count 216 = .ok (.aload_n 0, 1) := by decide +kernel
theorem dX10_count_217 : decode cX10_count 217 = .ok (.getfield 325, 3) := by decide +kernel
theorem dX10_count_220 : decode cX10_count 220 = .ok (.ireturn, 1) := by decide +kernel
theorem dX10_count_221 : decode cX10_count 221 = .ok (.aload_n 0, 1) := by decide +kernel
theorem dX10_count_222 : decode cX10_count 222 = .ok (.invokevirtual 522, 3) := by decide +kernel
theorem dX10_count_225 : decode cX10_count 225 = .ok (.ireturn, 1) := by decide +kernel
theorem dX10_count_226 : decode cX10_count 226 = .ok (.aload_n 0, 1) := by decide +kernel
theorem dX10_count_227 : decode cX10_count 227 = .ok (.getfield 332, 3) := by decide +kernel
theorem dX10_count_230 : decode cX10_count 230 = .ok (.ireturn, 1) := by decide +kernel
theorem dX10_count_231 : decode cX10_count 231 = .ok (.iconst (-1), 1) := by decide +kernel
theorem dX10_count_232 : decode cX10_count 232 = .ok (.ireturn, 1) := by decide +kernel
