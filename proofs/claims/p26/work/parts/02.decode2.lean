theorem dX5_isPart_0 : decode cX5_isPart 0 = .ok (.iload_n 1, 1) := by decide +kernel
theorem dX5_isPart_1 : decode cX5_isPart 1 = .ok (.iconst 0, 1) := by decide +kernel
theorem dX5_isPart_2 : decode cX5_isPart 2 = .ok (.aload_n 0, 1) := by decide +kernel
theorem dX5_isPart_3 : decode cX5_isPart 3 = .ok (.getfield 13, 3) := by decide +kernel
theorem dX5_isPart_6 : decode cX5_isPart 6 = .ok (.iconst 0, 1) := by decide +kernel
theorem dX5_isPart_7 : decode cX5_isPart 7 = .ok (.iaload, 1) := by decide +kernel
theorem dX5_isPart_8 : decode cX5_isPart 8 = .ok (.iconst 1, 1) := by decide +kernel
theorem dX5_isPart_9 : decode cX5_isPart 9 = .ok (.isub, 1) := by decide +kernel
theorem dX5_isPart_10 : decode cX5_isPart 10 = .ok (.invokestatic 44, 3) := by decide +kernel
theorem dX5_isPart_13 : decode cX5_isPart 13 = .ok (.ireturn, 1) := by decide +kernel
theorem dX5_isSet_0 : decode cX5_isSet 0 = .ok (.iload_n 1, 1) := by decide +kernel
theorem dX5_isSet_1 : decode cX5_isSet 1 = .ok (.iconst 0, 1) := by decide +kernel
theorem dX5_isSet_2 : decode cX5_isSet 2 = .ok (.iconst 1, 1) := by decide +kernel
theorem dX5_isSet_3 : decode cX5_isSet 3 = .ok (.aload_n 0, 1) := by decide +kernel
theorem dX5_isSet_4 : decode cX5_isSet 4 = .ok (.getfield 13, 3) := by decide +kernel
theorem dX5_isSet_7 : decode cX5_isSet 7 = .ok (.iconst 0, 1) := by decide +kernel
theorem dX5_isSet_8 : decode cX5_isSet 8 = .ok (.iaload, 1) := by decide +kernel
theorem dX5_isSet_9 : decode cX5_isSet 9 = .ok (.ishl, 1) := by decide +kernel
theorem dX5_isSet_10 : decode cX5_isSet 10 = .ok (.iconst 1, 1) := by decide +kernel
theorem dX5_isSet_11 : decode cX5_isSet 11 = .ok (.isub, 1) := by decide +kernel
theorem dX5_isSet_12 : decode cX5_isSet 12 = .ok (.invokestatic 44, 3) := by decide +kernel
theorem dX5_isSet_15 : decode cX5_isSet 15 = .ok (.ireturn, 1) := by decide +kernel
theorem dX5_write_0 : decode cX5_write 0 = .ok (.iload_n 1, 1) := by decide +kernel
theorem dX5_write_1 : decode cX5_write 1 = .ok (.iconst 0, 1) := by decide +kernel
theorem dX5_write_2 : decode cX5_write 2 = .ok (.sipush 255, 3) := by decide +kernel
theorem dX5_write_5 : decode cX5_write 5 = .ok (.invokestatic 44, 3) := by decide +kernel
theorem dX5_write_8 : decode cX5_write 8 = .ok (.ifCond .ne 6, 3) := by decide +kernel
theorem dX5_write_11 : decode cX5_write 11 = .ok (.bipush (-3), 2) := by decide +kernel
theorem dX5_write_13 : decode cX5_write 13 = .ok (.ireturn, 1) := by decide +kernel
theorem dX5_write_14 : decode cX5_write 14 = .ok (.aload_n 0, 1) := by decide +kernel
theorem dX5_write_15 : decode cX5_write 15 = .ok (.getfield 48, 3) := by decide +kernel
theorem dX5_write_18 : decode cX5_write 18 = .ok (.sipush 160, 3) := by decide +kernel
theorem dX5_write_21 : decode cX5_write 21 = .ok (.if_icmp .ne 6, 3) := by decide +kernel
theorem dX5_write_24 : decode cX5_write 24 = .ok (.bipush (-5), 2) := by decide +kernel
theorem dX5_write_26 : decode cX5_write 26 = .ok (.ireturn, 1) := by decide +kernel
theorem dX5_write_27 : decode cX5_write 27 = .ok (.aload_n 0, 1) := by decide +kernel
theorem dX5_write_28 : decode cX5_write 28 = .ok (.getfield 7, 3) := by decide +kernel
theorem dX5_write_31 : decode cX5_write 31 = .ok (.aload_n 0, 1) := by decide +kernel
theorem dX5_write_32 : decode cX5_write 32 = .ok (.getfield 48, 3) := by decide +kernel
theorem dX5_write_35 : decode cX5_write 35 = .ok (.iload_n 1, 1) := by decide +kernel
theorem dX5_write_36 : decode cX5_write 36 = .ok (.iastore, 1) := by decide +kernel
theorem dX5_write_37 : decode cX5_write 37 = .ok (.aload_n 0, 1) := by decide +kernel
theorem dX5_write_38 : decode cX5_write 38 = .ok (.dup, 1) := by decide +kernel
theorem dX5_write_39 : decode cX5_write 39 = .ok (.getfield 48, 3) := by decide +kernel
theorem dX5_write_42 : decode cX5_write 42 = .ok (.iconst 1, 1) := by decide +kernel
theorem dX5_write_43 : decode cX5_write 43 = .ok (.iadd, 1) := by decide +kernel
theorem dX5_write_44 : decode cX5_write 44 = .ok (.putfield 48, 3) := by decide +kernel
theorem dX5_write_47 : decode cX5_write 47 = .ok (.aload_n 0, 1) := by decide +kernel
theorem dX5_write_48 : decode cX5_write 48 = .ok (.getfield 48, 3) := by decide +kernel
theorem dX5_write_51 : decode cX5_write 51 = .ok (.ireturn, 1) := by decide +kernel
theorem dX5_erase_0 : decode cX5_erase 0 = .ok (.aload_n 0, 1) := by decide +kernel
theorem dX5_erase_1 : decode cX5_erase 1 = .ok (.getfield 48, 3) := by decide +kernel
theorem dX5_erase_4 : decode cX5_erase 4 = .ok (.istore_n 1, 1) := by decide +kernel
theorem dX5_erase_5 : decode cX5_erase 5 = .ok (.aload_n 0, 1) := by decide +kernel
theorem dX5_erase_6 : decode cX5_erase 6 = .ok (.iconst 0, 1) := by decide +kernel
theorem dX5_erase_7 : decode cX5_erase 7 = .ok (.putfield 48, 3) := by decide +kernel
theorem dX5_erase_10 : decode cX5_erase 10 = .ok (.iload_n 1, 1) := by decide +kernel
theorem dX5_erase_11 : decode cX5_erase 11 = .ok (.ireturn, 1) := by decide +kernel
theorem dX5_letterAt_0 : decode cX5_letterAt 0 = .ok (.iload_n 1, 1) := by decide +kernel
theorem dX5_letterAt_1 : decode cX5_letterAt 1 = .ok (.aload_n 0, 1) := by decide +kernel
theorem dX5_letterAt_2 : decode cX5_letterAt 2 = .ok (.getfield 48, 3) := by decide +kernel
theorem dX5_letterAt_5 : decode cX5_letterAt 5 = .ok (.if_icmp .ge 12, 3) := by decide +kernel
theorem dX5_letterAt_8 : decode cX5_letterAt 8 = .ok (.aload_n 0, 1) := by decide +kernel
theorem dX5_letterAt_9 : decode cX5_letterAt 9 = .ok (.getfield 7, 3) := by decide +kernel
theorem dX5_letterAt_12 : decode cX5_letterAt 12 = .ok (.iload_n 1, 1) := by decide +kernel
theorem dX5_letterAt_13 : decode cX5_letterAt 13 = .ok (.iaload, 1) := by decide +kernel
theorem dX5_letterAt_14 : decode cX5_letterAt 14 = .ok (.goto 4, 3) := by decide +kernel
theorem dX5_letterAt_17 : decode cX5_letterAt 17 = .ok (.iconst (-1), 1) := by decide +kernel
theorem dX5_letterAt_18 : decode cX5_letterAt 18 = .ok (.ireturn, 1) := by decide +kernel
theorem dX5_isLetter_0 : decode cX5_isLetter 0 = .ok (.iload_n 0, 1) := by decide +kernel
theorem dX5_isLetter_1 : decode cX5_isLetter 1 = .ok (.bipush 97, 2) := by decide +kernel
theorem dX5_isLetter_3 : decode cX5_isLetter 3 = .ok (.bipush 122, 2) := by decide +kernel
theorem dX5_isLetter_5 : decode cX5_isLetter 5 = .ok (.invokestatic 44, 3) := by decide +kernel
theorem dX5_isLetter_8 : decode cX5_isLetter 8 = .ok (.ireturn, 1) := by decide +kernel
theorem dX5_isDigit_0 : decode cX5_isDigit 0 = .ok (.iload_n 0, 1) := by decide +kernel
theorem dX5_isDigit_1 : decode cX5_isDigit 1 = .ok (.bipush 48, 2) := by decide +kernel
theorem dX5_isDigit_3 : decode cX5_isDigit 3 = .ok (.bipush 57, 2) := by decide +kernel
theorem dX5_isDigit_5 : decode cX5_isDigit 5 = .ok (.invokestatic 44, 3) := by decide +kernel
theorem dX5_isDigit_8 : decode cX5_isDigit 8 = .ok (.ireturn, 1) := by decide +kernel
theorem dX5_token_0 : decode cX5_token 0 = .ok (.aload_n 0, 1) := by decide +kernel
theorem dX5_token_1 : decode cX5_token 1 = .ok (.aload_n 0, 1) := by decide +kernel
theorem dX5_token_2 : decode cX5_token 2 = .ok (.getfield 52, 3) := by decide +kernel
theorem dX5_token_5 : decode cX5_token 5 = .ok (.invokevirtual 55, 3) := by decide +kernel
theorem dX5_token_8 : decode cX5_token 8 = .ok (.bipush 32, 2) := by decide +kernel
theorem dX5_token_10 : decode cX5_token 10 = .ok (.if_icmp .ne 16, 3) := by decide +kernel
theorem dX5_token_13 : decode cX5_token 13 = .ok (.aload_n 0, 1) := by decide +kernel
theorem dX5_token_14 : decode cX5_token 14 = .ok (.dup, 1) := by decide +kernel
theorem dX5_token_15 : decode cX5_token 15 = .ok (.getfield 52, 3) := by decide +kernel
theorem dX5_token_18 : decode cX5_token 18 = .ok (.iconst 1, 1) := by decide +kernel
theorem dX5_token_19 : decode cX5_token 19 = .ok (.iadd, 1) := by decide +kernel
theorem dX5_token_20 : decode cX5_token 20 = .ok (.putfield 52, 3) := by decide +kernel
theorem dX5_token_23 : decode cX5_token 23 = .ok (.goto (-23), 3) := by decide +kernel
theorem dX5_token_26 : decode cX5_token 26 = .ok (.aload_n 0, 1) := by decide +kernel
theorem dX5_token_27 : decode cX5_token 27 = .ok (.aload_n 0, 1) := by decide +kernel
theorem dX5_token_28 : decode cX5_token 28 = .ok (.getfield 52, 3) := by decide +kernel
theorem dX5_token_31 : decode cX5_token 31 = .ok (.putfield 59, 3) := by decide +kernel
theorem dX5_token_34 : decode cX5_token 34 = .ok (.aload_n 0, 1) := by decide +kernel
theorem dX5_token_35 : decode cX5_token 35 = .ok (.aload_n 0, 1) := by decide +kernel
theorem dX5_token_36 : decode cX5_token 36 = .ok (.getfield 52, 3) := by decide +kernel
theorem dX5_token_39 : decode cX5_token 39 = .ok (.invokevirtual 55, 3) := by decide +kernel
theorem dX5_token_42 : decode cX5_token 42 = .ok (.istore_n 1, 1) := by decide +kernel
theorem dX5_token_43 : decode cX5_token 43 = .ok (.aload_n 0, 1) := by decide +kernel
theorem dX5_token_44 : decode cX5_token 44 = .ok (.iload_n 1, 1) := by decide +kernel
theorem dX5_token_45 : decode cX5_token 45 = .ok (.ifCond .ge 7, 3) := by decide +kernel
theorem dX5_token_48 : decode cX5_token 48 = .ok (.iconst 0, 1) := by decide +kernel
theorem dX5_token_49 : decode cX5_token 49 = .ok (.goto 26, 3) := by decide +kernel
theorem dX5_token_52 : decode cX5_token 52 = .ok (.iload_n 1, 1) := by decide +kernel
theorem dX5_token_53 : decode cX5_token 53 = .ok (.invokestatic 62, 3) := by decide +kernel
theorem dX5_token_56 : decode cX5_token 56 = .ok (.ifCond .eq 7, 3) := by decide +kernel
theorem dX5_token_59 : decode cX5_token 59 = .ok (.iconst 1, 1) := by decide +kernel
theorem dX5_token_60 : decode cX5_token 60 = .ok (.goto 15, 3) := by decide +kernel
theorem dX5_token_63 : decode cX5_token 63 = .ok (.iload_n 1, 1) := by decide +kernel
theorem dX5_token_64 : decode cX5_token 64 = .ok (.invokestatic 66, 3) := by decide +kernel
theorem dX5_token_67 : decode cX5_token 67 = .ok (.ifCond .eq 7, 3) := by decide +kernel
theorem dX5_token_70 : decode cX5_token 70 = .ok (.iconst 2, 1) := by decide +kernel
theorem dX5_token_71 : decode cX5_token 71 = .ok (.goto 4, 3) := by decide +kernel
theorem dX5_token_74 : decode cX5_token 74 = .ok (.iconst 3, 1) := by decide +kernel
theorem dX5_token_75 : decode cX5_token 75 = .ok (.putfield 69, 3) := by decide +kernel
theorem dX5_token_78 : decode cX5_token 78 = .ok (.aload_n 0, 1) := by decide +kernel
theorem dX5_token_79 : decode cX5_token 79 = .ok (.iconst 0, 1) := by decide +kernel
theorem dX5_token_80 : decode cX5_token 80 = .ok (.putfield 72, 3) := by decide +kernel
theorem dX5_token_83 : decode cX5_token 83 = .ok (.aload_n 0, 1) := by decide +kernel
theorem dX5_token_84 : decode cX5_token 84 = .ok (.getfield 69, 3) := by decide +kernel
theorem dX5_token_87 : decode cX5_token 87 = .ok (.iconst 1, 1) := by decide +kernel
theorem dX5_token_88 : decode cX5_token 88 = .ok (.if_icmp .ne 30, 3) := by decide +kernel
theorem dX5_token_91 : decode cX5_token 91 = .ok (.aload_n 0, 1) := by decide +kernel
theorem dX5_token_92 : decode cX5_token 92 = .ok (.aload_n 0, 1) := by decide +kernel
theorem dX5_token_93 : decode cX5_token 93 = .ok (.getfield 52, 3) := by decide +kernel
theorem dX5_token_96 : decode cX5_token 96 = .ok (.invokevirtual 55, 3) := by decide +kernel
theorem dX5_token_99 : decode cX5_token 99 = .ok (.invokestatic 62, 3) := by decide +kernel
theorem dX5_token_102 : decode cX5_token 102 = .ok (.ifCond .eq 16, 3) := by decide +kernel
theorem dX5_token_105 : decode cX5_token 105 = .ok (.aload_n 0, 1) := by decide +kernel
theorem dX5_token_106 : decode cX5_token 106 = .ok (.dup, 1) := by decide +kernel
theorem dX5_token_107 : decode cX5_token 107 = .ok (.getfield 52, 3) := by decide +kernel
theorem dX5_token_110 : decode cX5_token 110 = .ok (.iconst 1, 1) := by decide +kernel
theorem dX5_token_111 : decode cX5_token 111 = .ok (.iadd, 1) := by decide +kernel
theorem dX5_token_112 : decode cX5_token 112 = .ok (.putfield 52, 3) := by decide +kernel
theorem dX5_token_115 : decode cX5_token 115 = .ok (.goto (-32), 3) := by decide +kernel
theorem dX5_token_118 : decode cX5_token 118 = .ok (.aload_n 0, 1) := by decide +kernel
theorem dX5_token_119 : decode cX5_token 119 = .ok (.getfield 69, 3) := by decide +kernel
theorem dX5_token_122 : decode cX5_token 122 = .ok (.iconst 2, 1) := by decide +kernel
theorem dX5_token_123 : decode cX5_token 123 = .ok (.if_icmp .ne 72, 3) := by decide +kernel
theorem dX5_token_126 : decode cX5_token 126 = .ok (.aload_n 0, 1) := by decide +kernel
theorem dX5_token_127 : decode cX5_token 127 = .ok (.aload_n 0, 1) := by decide +kernel
theorem dX5_token_128 : decode cX5_token 128 = .ok (.getfield 52, 3) := by decide +kernel
theorem dX5_token_131 : decode cX5_token 131 = .ok (.invokevirtual 55, 3) := by decide +kernel
theorem dX5_token_134 : decode cX5_token 134 = .ok (.invokestatic 66, 3) := by decide +kernel
theorem dX5_token_137 : decode cX5_token 137 = .ok (.ifCond .eq 58, 3) := by decide +kernel
theorem dX5_token_140 : decode cX5_token 140 = .ok (.aload_n 0, 1) := by decide +kernel
theorem dX5_token_141 : decode cX5_token 141 = .ok (.aload_n 0, 1) := by decide +kernel
theorem dX5_token_142 : decode cX5_token 142 = .ok (.getfield 52, 3) := by decide +kernel
theorem dX5_token_145 : decode cX5_token 145 = .ok (.aload_n 0, 1) := by decide +kernel
theorem dX5_token_146 : decode cX5_token 146 = .ok (.getfield 59, 3) := by decide +kernel
theorem dX5_token_149 : decode cX5_token 149 = .ok (.isub, 1) := by decide +kernel
theorem dX5_token_150 : decode cX5_token 150 = .ok (.iconst 2, 1) := by decide +kernel
theorem dX5_token_151 : decode cX5_token 151 = .ok (.if_icmp .ge 26, 3) := by decide +kernel
theorem dX5_token_154 : decode cX5_token 154 = .ok (.bipush 10, 2) := by decide +kernel
theorem dX5_token_156 : decode cX5_token 156 = .ok (.aload_n 0, 1) := by decide +kernel
theorem dX5_token_157 : decode cX5_token 157 = .ok (.getfield 72, 3) := by decide +kernel
theorem dX5_token_160 : decode cX5_token 160 = .ok (.imul, 1) := by decide +kernel
theorem dX5_token_161 : decode cX5_token 161 = .ok (.aload_n 0, 1) := by decide +kernel
theorem dX5_token_162 : decode cX5_token 162 = .ok (.getfield 7, 3) := by decide +kernel
theorem dX5_token_165 : decode cX5_token 165 = .ok (.aload_n 0, 1) := by decide +kernel
theorem dX5_token_166 : decode cX5_token 166 = .ok (.getfield 52, 3) := by decide +kernel
theorem dX5_token_169 : decode cX5_token 169 = .ok (.iaload, 1) := by decide +kernel
theorem dX5_token_170 : decode cX5_token 170 = .ok (.iadd, 1) := by decide +kernel
theorem dX5_token_171 : decode cX5_token 171 = .ok (.bipush 48, 2) := by decide +kernel
theorem dX5_token_173 : decode cX5_token 173 = .ok (.isub, 1) := by decide +kernel
theorem dX5_token_174 : decode cX5_token 174 = .ok (.goto 5, 3) := by decide +kernel
theorem dX5_token_177 : decode cX5_token 177 = .ok (.bipush 100, 2) := by decide +kernel
theorem dX5_token_179 : decode cX5_token 179 = .ok (.putfield 72, 3) := by decide +kernel
theorem dX5_token_182 : decode cX5_token 182 = .ok (.aload_n 0, 1) := by decide +kernel
theorem dX5_token_183 : decode cX5_token 183 = .ok (.dup, 1) := by decide +kernel
theorem dX5_token_184 : decode cX5_token 184 = .ok (.getfield 52, 3) := by decide +kernel
theorem dX5_token_187 : decode cX5_token 187 = .ok (.iconst 1, 1) := by decide +kernel
theorem dX5_token_188 : decode cX5_token 188 = .ok (.iadd, 1) := by decide +kernel
theorem dX5_token_189 : decode cX5_token 189 = .ok (.putfield 52, 3) := by decide +kernel
theorem dX5_token_192 : decode cX5_token 192 = .ok (.goto (-74), 3) := by decide +kernel
theorem dX5_token_195 : decode cX5_token 195 = .ok (.aload_n 0, 1) := by decide +kernel
theorem dX5_token_196 : decode cX5_token 196 = .ok (.dup, 1) := by decide +kernel
theorem dX5_token_197 : decode cX5_token 197 = .ok (.getfield 52, 3) := by decide +kernel
theorem dX5_token_200 : decode cX5_token 200 = .ok (.aload_n 0, 1) := by decide +kernel
theorem dX5_token_201 : decode cX5_token 201 = .ok (.getfield 69, 3) := by decide +kernel
theorem dX5_token_204 : decode cX5_token 204 = .ok (.iconst 3, 1) := by decide +kernel
theorem dX5_token_205 : decode cX5_token 205 = .ok (.if_icmp .ne 7, 3) := by decide +kernel
theorem dX5_token_208 : decode cX5_token 208 = .ok (.iconst 1, 1) := by decide +kernel
theorem dX5_token_209 : decode cX5_token 209 = .ok (.goto 4, 3) := by decide +kernel
theorem dX5_token_212 : decode cX5_token 212 = .ok (.iconst 0, 1) := by decide +kernel
theorem dX5_token_213 : decode cX5_token 213 = .ok (.iadd, 1) := by decide +kernel
theorem dX5_token_214 : decode cX5_token 214 = .ok (.putfield 52, 3) := by decide +kernel
theorem dX5_token_217 : decode cX5_token 217 = .ok (.return_, 1) := by decide +kernel
theorem dX5_isWord_0 : decode cX5_isWord 0 = .ok (.aload_n 0, 1) := by decide +kernel
theorem dX5_isWord_1 : decode cX5_isWord 1 = .ok (.getfield 69, 3) := by decide +kernel
theorem dX5_isWord_4 : decode cX5_isWord 4 = .ok (.iconst 1, 1) := by decide +kernel
theorem dX5_isWord_5 : decode cX5_isWord 5 = .ok (.if_icmp .ne 21, 3) := by decide +kernel
theorem dX5_isWord_8 : decode cX5_isWord 8 = .ok (.aload_n 0, 1) := by decide +kernel
theorem dX5_isWord_9 : decode cX5_isWord 9 = .ok (.getfield 52, 3) := by decide +kernel
theorem dX5_isWord_12 : decode cX5_isWord 12 = .ok (.aload_n 0, 1) := by decide +kernel
theorem dX5_isWord_13 : decode cX5_isWord 13 = .ok (.getfield 59, 3) := by decide +kernel
theorem dX5_isWord_16 : decode cX5_isWord 16 = .ok (.isub, 1) := by decide +kernel
theorem dX5_isWord_17 : decode cX5_isWord 17 = .ok (.bipush 6, 2) := by decide +kernel
theorem dX5_isWord_19 : decode cX5_isWord 19 = .ok (.if_icmp .ge 7, 3) := by decide +kernel
theorem dX5_isWord_22 : decode cX5_isWord 22 = .ok (.iconst 1, 1) := by decide +kernel
theorem dX5_isWord_23 : decode cX5_isWord 23 = .ok (.goto 4, 3) := by decide +kernel
theorem dX5_isWord_26 : decode cX5_isWord 26 = .ok (.iconst 0, 1) := by decide +kernel
theorem dX5_isWord_27 : decode cX5_isWord 27 = .ok (.istore 6, 2) := by decide +kernel
theorem dX5_isWord_29 : decode cX5_isWord 29 = .ok (.iconst 0, 1) := by decide +kernel
theorem dX5_isWord_30 : decode cX5_isWord 30 = .ok (.istore 7, 2) := by decide +kernel
theorem dX5_isWord_32 : decode cX5_isWord 32 = .ok (.iload 7, 2) := by decide +kernel
theorem dX5_isWord_34 : decode cX5_isWord 34 = .ok (.iconst 5, 1) := by decide +kernel
theorem dX5_isWord_35 : decode cX5_isWord 35 = .ok (.if_icmp .ge 109, 3) := by decide +kernel
theorem dX5_isWord_38 : decode cX5_isWord 38 = .ok (.iload 6, 2) := by decide +kernel
theorem dX5_isWord_40 : decode cX5_isWord 40 = .ok (.ifCond .eq 104, 3) := by decide +kernel
theorem dX5_isWord_43 : decode cX5_isWord 43 = .ok (.iload 7, 2) := by decide +kernel
theorem dX5_isWord_45 : decode cX5_isWord 45 = .ok (.ifCond .ne 7, 3) := by decide +kernel
theorem dX5_isWord_48 : decode cX5_isWord 48 = .ok (.iload_n 1, 1) := by decide +kernel
theorem dX5_isWord_49 : decode cX5_isWord 49 = .ok (.goto 36, 3) := by decide +kernel
theorem dX5_isWord_52 : decode cX5_isWord 52 = .ok (.iload 7, 2) := by decide +kernel
theorem dX5_isWord_54 : decode cX5_isWord 54 = .ok (.iconst 1, 1) := by decide +kernel
theorem dX5_isWord_55 : decode cX5_isWord 55 = .ok (.if_icmp .ne 7, 3) := by decide +kernel
theorem dX5_isWord_58 : decode cX5_isWord 58 = .ok (.iload_n 2, 1) := by decide +kernel
theorem dX5_isWord_59 : decode cX5_isWord 59 = .ok (.goto 26, 3) := by decide +kernel
theorem dX5_isWord_62 : decode cX5_isWord 62 = .ok (.iload 7, 2) := by decide +kernel
theorem dX5_isWord_64 : decode cX5_isWord 64 = .ok (.iconst 2, 1) := by decide +kernel
theorem dX5_isWord_65 : decode cX5_isWord 65 = .ok (.if_icmp .ne 7, 3) := by decide +kernel
theorem dX5_isWord_68 : decode cX5_isWord 68 = .ok (.iload_n 3, 1) := by decide +kernel
theorem dX5_isWord_69 : decode cX5_isWord 69 = .ok (.goto 16, 3) := by decide +kernel
theorem dX5_isWord_72 : decode cX5_isWord 72 = .ok (.iload 7, 2) := by decide +kernel
theorem dX5_isWord_74 : decode cX5_isWord 74 = .ok (.iconst 3, 1) := by decide +kernel
theorem dX5_isWord_75 : decode cX5_isWord 75 = .ok (.if_icmp .ne 8, 3) := by decide +kernel
theorem dX5_isWord_78 : decode cX5_isWord 78 = .ok (.iload 4, 2) := by decide +kernel
theorem dX5_isWord_80 : decode cX5_isWord 80 = .ok (.goto 5, 3) := by decide +kernel
theorem dX5_isWord_83 : decode cX5_isWord 83 = .ok (.iload 5, 2) := by decide +kernel
theorem dX5_isWord_85 : decode cX5_isWord 85 = .ok (.istore 8, 2) := by decide +kernel
theorem dX5_isWord_87 : decode cX5_isWord 87 = .ok (.aload_n 0, 1) := by decide +kernel
theorem dX5_isWord_88 : decode cX5_isWord 88 = .ok (.getfield 59, 3) := by decide +kernel
theorem dX5_isWord_91 : decode cX5_isWord 91 = .ok (.iload 7, 2) := by decide +kernel
theorem dX5_isWord_93 : decode cX5_isWord 93 = .ok (.iadd, 1) := by decide +kernel
theorem dX5_isWord_94 : decode cX5_isWord 94 = .ok (.aload_n 0, 1) := by decide +kernel
theorem dX5_isWord_95 : decode cX5_isWord 95 = .ok (.getfield 52, 3) := by decide +kernel
theorem dX5_isWord_98 : decode cX5_isWord 98 = .ok (.if_icmp .ge 28, 3) := by decide +kernel
theorem dX5_isWord_101 : decode cX5_isWord 101 = .ok (.aload_n 0, 1) := by decide +kernel
theorem dX5_isWord_102 : decode cX5_isWord 102 = .ok (.getfield 7, 3) := by decide +kernel
theorem dX5_isWord_105 : decode cX5_isWord 105 = .ok (.aload_n 0, 1) := by decide +kernel
theorem dX5_isWord_106 : decode cX5_isWord 106 = .ok (.getfield 59, 3) := by decide +kernel
theorem dX5_isWord_109 : decode cX5_isWord 109 = .ok (.iload 7, 2) := by decide +kernel
theorem dX5_isWord_111 : decode cX5_isWord 111 = .ok (.iadd, 1) := by decide +kernel
theorem dX5_isWord_112 : decode cX5_isWord 112 = .ok (.iaload, 1) := by decide +kernel
theorem dX5_isWord_113 : decode cX5_isWord 113 = .ok (.iload 8, 2) := by decide +kernel
theorem dX5_isWord_115 : decode cX5_isWord 115 = .ok (.if_icmp .ne 7, 3) := by decide +kernel
theorem dX5_isWord_118 : decode cX5_isWord 118 = .ok (.iconst 1, 1) := by decide +kernel
theorem dX5_isWord_119 : decode cX5_isWord 119 = .ok (.goto 17, 3) := by decide +kernel
theorem dX5_isWord_122 : decode cX5_isWord 122 = .ok (.iconst 0, 1) := by decide +kernel
theorem dX5_isWord_123 : decode cX5_isWord 123 = .ok (.goto 13, 3) := by decide +kernel
theorem dX5_isWord_126 : decode cX5_isWord 126 = .ok (.iload 8, 2) := by decide +kernel
theorem dX5_isWord_128 : decode cX5_isWord 128 = .ok (.ifCond .ne 7, 3) := by decide +kernel
theorem dX5_isWord_131 : decode cX5_isWord 131 = .ok (.iconst 1, 1) := by decide +kernel
theorem dX5_isWord_132 : decode cX5_isWord 132 = .ok (.goto 4, 3) := by decide +kernel
theorem dX5_isWord_135 : decode cX5_isWord 135 = .ok (.iconst 0, 1) := by decide +kernel
theorem dX5_isWord_136 : decode cX5_isWord 136 = .ok (.istore 6, 2) := by decide +kernel
theorem dX5_isWord_138 : decode cX5_isWord 138 = .ok (.iinc 7 1, 3) := by decide +kernel
theorem dX5_isWord_141 : decode cX5_isWord 141 = .ok (.goto (-109), 3) := by decide +kernel
theorem dX5_isWord_144 : decode cX5_isWord 144 = .ok (.iload 6, 2) := by decide +kernel
theorem dX5_isWord_146 : decode cX5_isWord 146 = .ok (.ireturn, 1) := by decide +kernel
theorem dX5_number_0 : decode cX5_number 0 = .ok (.aload_n 0, 1) := by decide +kernel
theorem dX5_number_1 : decode cX5_number 1 = .ok (.invokevirtual 75, 3) := by decide +kernel
theorem dX5_number_4 : decode cX5_number 4 = .ok (.aload_n 0, 1) := by decide +kernel
theorem dX5_number_5 : decode cX5_number 5 = .ok (.getfield 16, 3) := by decide +kernel
theorem dX5_number_8 : decode cX5_number 8 = .ok (.iload_n 1, 1) := by decide +kernel
theorem dX5_number_9 : decode cX5_number 9 = .ok (.aload_n 0, 1) := by decide +kernel
theorem dX5_number_10 : decode cX5_number 10 = .ok (.getfield 72, 3) := by decide +kernel
theorem dX5_number_13 : decode cX5_number 13 = .ok (.iastore, 1) := by decide +kernel
theorem dX5_number_14 : decode cX5_number 14 = .ok (.aload_n 0, 1) := by decide +kernel
theorem dX5_number_15 : decode cX5_number 15 = .ok (.getfield 69, 3) := by decide +kernel
theorem dX5_number_18 : decode cX5_number 18 = .ok (.iconst 2, 1) := by decide +kernel
theorem dX5_number_19 : decode cX5_number 19 = .ok (.if_icmp .ne 19, 3) := by decide +kernel
theorem dX5_number_22 : decode cX5_number 22 = .ok (.aload_n 0, 1) := by decide +kernel
theorem dX5_number_23 : decode cX5_number 23 = .ok (.getfield 72, 3) := by decide +kernel
theorem dX5_number_26 : decode cX5_number 26 = .ok (.iload_n 2, 1) := by decide +kernel
theorem dX5_number_27 : decode cX5_number 27 = .ok (.iload_n 3, 1) := by decide +kernel
theorem dX5_number_28 : decode cX5_number 28 = .ok (.invokestatic 44, 3) := by decide +kernel
theorem dX5_number_31 : decode cX5_number 31 = .ok (.ifCond .eq 7, 3) := by decide +kernel
theorem dX5_number_34 : decode cX5_number 34 = .ok (.iconst 1, 1) := by decide +kernel
theorem dX5_number_35 : decode cX5_number 35 = .ok (.goto 4, 3) := by decide +kernel
theorem dX5_number_38 : decode cX5_number 38 = .ok (.iconst 0, 1) := by decide +kernel
theorem dX5_number_39 : decode cX5_number 39 = .ok (.ireturn, 1) := by decide +kernel
theorem dX5_forgets_0 : decode cX5_forgets 0 = .ok (.iconst 0, 1) := by decide +kernel
theorem dX5_forgets_1 : decode cX5_forgets 1 = .ok (.istore_n 1, 1) := by decide +kernel
theorem dX5_forgets_2 : decode cX5_forgets 2 = .ok (.iload_n 1, 1) := by decide +kernel
theorem dX5_forgets_3 : decode cX5_forgets 3 = .ok (.bipush 35, 2) := by decide +kernel
theorem dX5_forgets_5 : decode cX5_forgets 5 = .ok (.if_icmp .ge 16, 3) := by decide +kernel
theorem dX5_forgets_8 : decode cX5_forgets 8 = .ok (.aload_n 0, 1) := by decide +kernel
theorem dX5_forgets_9 : decode cX5_forgets 9 = .ok (.getfield 16, 3) := by decide +kernel
theorem dX5_forgets_12 : decode cX5_forgets 12 = .ok (.iload_n 1, 1) := by decide +kernel
theorem dX5_forgets_13 : decode cX5_forgets 13 = .ok (.iconst 0, 1) := by decide +kernel
theorem dX5_forgets_14 : decode cX5_forgets 14 = .ok (.iastore, 1) := by decide +kernel
theorem dX5_forgets_15 : decode cX5_forgets 15 = .ok (.iinc 1 1, 3) := by decide +kernel
theorem dX5_forgets_18 : decode cX5_forgets 18 = .ok (.goto (-16), 3) := by decide +kernel
theorem dX5_forgets_21 : decode cX5_forgets 21 = .ok (.aload_n 0, 1) := by decide +kernel
theorem dX5_forgets_22 : decode cX5_forgets 22 = .ok (.getfield 16, 3) := by decide +kernel
theorem dX5_forgets_25 : decode cX5_forgets 25 = .ok (.iconst 3, 1) := by decide +kernel
theorem dX5_forgets_26 : decode cX5_forgets 26 = .ok (.iconst 1, 1) := by decide +kernel
theorem dX5_forgets_27 : decode cX5_forgets 27 = .ok (.iastore, 1) := by decide +kernel
theorem dX5_forgets_28 : decode cX5_forgets 28 = .ok (.return_, 1) := by decide +kernel
theorem dX5_readsPart_0 : decode cX5_readsPart 0 = .ok (.aload_n 0, 1) := by decide +kernel
theorem dX5_readsPart_1 : decode cX5_readsPart 1 = .ok (.getfield 16, 3) := by decide +kernel
theorem dX5_readsPart_4 : decode cX5_readsPart 4 = .ok (.iconst 0, 1) := by decide +kernel
theorem dX5_readsPart_5 : decode cX5_readsPart 5 = .ok (.iaload, 1) := by decide +kernel
theorem dX5_readsPart_6 : decode cX5_readsPart 6 = .ok (.istore_n 2, 1) := by decide +kernel
theorem dX5_readsPart_7 : decode cX5_readsPart 7 = .ok (.iload_n 2, 1) := by decide +kernel
theorem dX5_readsPart_8 : decode cX5_readsPart 8 = .ok (.bipush 8, 2) := by decide +kernel
theorem dX5_readsPart_10 : decode cX5_readsPart 10 = .ok (.if_icmp .eq 31, 3) := by decide +kernel
theorem dX5_readsPart_13 : decode cX5_readsPart 13 = .ok (.aload_n 0, 1) := by decide +kernel
theorem dX5_readsPart_14 : decode cX5_readsPart 14 = .ok (.bipush 13, 2) := by decide +kernel
theorem dX5_readsPart_16 : decode cX5_readsPart 16 = .ok (.iload_n 2, 1) := by decide +kernel
theorem dX5_readsPart_17 : decode cX5_readsPart 17 = .ok (.iadd, 1) := by decide +kernel
theorem dX5_readsPart_18 : decode cX5_readsPart 18 = .ok (.iconst 0, 1) := by decide +kernel
theorem dX5_readsPart_19 : decode cX5_readsPart 19 = .ok (.bipush 20, 2) := by decide +kernel
theorem dX5_readsPart_21 : decode cX5_readsPart 21 = .ok (.invokevirtual 78, 3) := by decide +kernel
theorem dX5_readsPart_24 : decode cX5_readsPart 24 = .ok (.ifCond .eq 17, 3) := by decide +kernel
theorem dX5_readsPart_27 : decode cX5_readsPart 27 = .ok (.aload_n 0, 1) := by decide +kernel
theorem dX5_readsPart_28 : decode cX5_readsPart 28 = .ok (.bipush 21, 2) := by decide +kernel
theorem dX5_readsPart_30 : decode cX5_readsPart 30 = .ok (.iload_n 2, 1) := by decide +kernel
theorem dX5_readsPart_31 : decode cX5_readsPart 31 = .ok (.iadd, 1) := by decide +kernel
theorem dX5_readsPart_32 : decode cX5_readsPart 32 = .ok (.iconst 1, 1) := by decide +kernel
theorem dX5_readsPart_33 : decode cX5_readsPart 33 = .ok (.bipush 30, 2) := by decide +kernel
theorem dX5_readsPart_35 : decode cX5_readsPart 35 = .ok (.invokevirtual 78, 3) := by decide +kernel
theorem dX5_readsPart_38 : decode cX5_readsPart 38 = .ok (.ifCond .ne 5, 3) := by decide +kernel
theorem dX5_readsPart_41 : decode cX5_readsPart 41 = .ok (.iconst 0, 1) := by decide +kernel
theorem dX5_readsPart_42 : decode cX5_readsPart 42 = .ok (.ireturn, 1) := by decide +kernel
theorem dX5_readsPart_43 : decode cX5_readsPart 43 = .ok (.aload_n 0, 1) := by decide +kernel
theorem dX5_readsPart_44 : decode cX5_readsPart 44 = .ok (.getfield 16, 3) := by decide +kernel
theorem dX5_readsPart_47 : decode cX5_readsPart 47 = .ok (.iconst 5, 1) := by decide +kernel
theorem dX5_readsPart_48 : decode cX5_readsPart 48 = .ok (.iload_n 2, 1) := by decide +kernel
theorem dX5_readsPart_49 : decode cX5_readsPart 49 = .ok (.iadd, 1) := by decide +kernel
theorem dX5_readsPart_50 : decode cX5_readsPart 50 = .ok (.iload_n 1, 1) := by decide +kernel
theorem dX5_readsPart_51 : decode cX5_readsPart 51 = .ok (.iastore, 1) := by decide +kernel
theorem dX5_readsPart_52 : decode cX5_readsPart 52 = .ok (.aload_n 0, 1) := by decide +kernel
theorem dX5_readsPart_53 : decode cX5_readsPart 53 = .ok (.getfield 16, 3) := by decide +kernel
theorem dX5_readsPart_56 : decode cX5_readsPart 56 = .ok (.iconst 0, 1) := by decide +kernel
theorem dX5_readsPart_57 : decode cX5_readsPart 57 = .ok (.dup2, 1) := by decide +kernel
theorem dX5_readsPart_58 : decode cX5_readsPart 58 = .ok (.iaload, 1) := by decide +kernel
theorem dX5_readsPart_59 : decode cX5_readsPart 59 = .ok (.iconst 1, 1) := by decide +kernel
theorem dX5_readsPart_60 : decode cX5_readsPart 60 = .ok (.iadd, 1) := by decide +kernel
theorem dX5_readsPart_61 : decode cX5_readsPart 61 = .ok (.iastore, 1) := by decide +kernel
theorem dX5_readsPart_62 : decode cX5_readsPart 62 = .ok (.iconst 1, 1) := by decide +kernel
theorem dX5_readsPart_63 : decode cX5_readsPart 63 = .ok (.ireturn, 1) := by decide +kernel
theorem dX5_readsSoul_0 : decode cX5_readsSoul 0 = .ok (.aload_n 0, 1) := by decide +kernel
theorem dX5_readsSoul_1 : decode cX5_readsSoul 1 = .ok (.getfield 16, 3) := by decide +kernel
theorem dX5_readsSoul_4 : decode cX5_readsSoul 4 = .ok (.iconst 1, 1) := by decide +kernel
theorem dX5_readsSoul_5 : decode cX5_readsSoul 5 = .ok (.iaload, 1) := by decide +kernel
theorem dX5_readsSoul_6 : decode cX5_readsSoul 6 = .ok (.istore_n 1, 1) := by decide +kernel
theorem dX5_readsSoul_7 : decode cX5_readsSoul 7 = .ok (.iload_n 1, 1) := by decide +kernel
theorem dX5_readsSoul_8 : decode cX5_readsSoul 8 = .ok (.bipush 6, 2) := by decide +kernel
theorem dX5_readsSoul_10 : decode cX5_readsSoul 10 = .ok (.if_icmp .eq 17, 3) := by decide +kernel
theorem dX5_readsSoul_13 : decode cX5_readsSoul 13 = .ok (.aload_n 0, 1) := by decide +kernel
theorem dX5_readsSoul_14 : decode cX5_readsSoul 14 = .ok (.bipush 29, 2) := by decide +kernel
theorem dX5_readsSoul_16 : decode cX5_readsSoul 16 = .ok (.iload_n 1, 1) := by decide +kernel
theorem dX5_readsSoul_17 : decode cX5_readsSoul 17 = .ok (.iadd, 1) := by decide +kernel
theorem dX5_readsSoul_18 : decode cX5_readsSoul 18 = .ok (.iconst 0, 1) := by decide +kernel
theorem dX5_readsSoul_19 : decode cX5_readsSoul 19 = .ok (.bipush 40, 2) := by decide +kernel
theorem dX5_readsSoul_21 : decode cX5_readsSoul 21 = .ok (.invokevirtual 78, 3) := by decide +kernel
theorem dX5_readsSoul_24 : decode cX5_readsSoul 24 = .ok (.ifCond .ne 5, 3) := by decide +kernel
theorem dX5_readsSoul_27 : decode cX5_readsSoul 27 = .ok (.iconst 0, 1) := by decide +kernel
theorem dX5_readsSoul_28 : decode cX5_readsSoul 28 = .ok (.ireturn, 1) := by decide +kernel
theorem dX5_readsSoul_29 : decode cX5_readsSoul 29 = .ok (.aload_n 0, 1) := by decide +kernel
theorem dX5_readsSoul_30 : decode cX5_readsSoul 30 = .ok (.getfield 16, 3) := by decide +kernel
theorem dX5_readsSoul_33 : decode cX5_readsSoul 33 = .ok (.iconst 1, 1) := by decide +kernel
theorem dX5_readsSoul_34 : decode cX5_readsSoul 34 = .ok (.dup2, 1) := by decide +kernel
theorem dX5_readsSoul_35 : decode cX5_readsSoul 35 = .ok (.iaload, 1) := by decide +kernel
theorem dX5_readsSoul_36 : decode cX5_readsSoul 36 = .ok (.iconst 1, 1) := by decide +kernel
theorem dX5_readsSoul_37 : decode cX5_readsSoul 37 = .ok (.iadd, 1) := by decide +kernel
theorem dX5_readsSoul_38 : decode cX5_readsSoul 38 = .ok (.iastore, 1) := by decide +kernel
theorem dX5_readsSoul_39 : decode cX5_readsSoul 39 = .ok (.iconst 1, 1) := by decide +kernel
theorem dX5_readsSoul_40 : decode cX5_readsSoul 40 = .ok (.ireturn, 1) := by decide +kernel
theorem dX5_readsClause_0 : decode cX5_readsClause 0 = .ok (.aload_n 0, 1) := by decide +kernel
theorem dX5_readsClause_1 : decode cX5_readsClause 1 = .ok (.bipush 107, 2) := by decide +kernel
theorem dX5_readsClause_3 : decode cX5_readsClause 3 = .ok (.bipush 105, 2) := by decide +kernel
theorem dX5_readsClause_5 : decode cX5_readsClause 5 = .ok (.bipush 114, 2) := by decide +kernel
theorem dX5_readsClause_7 : decode cX5_readsClause 7 = .ok (.bipush 107, 2) := by decide +kernel
theorem dX5_readsClause_9 : decode cX5_readsClause 9 = .ok (.iconst 0, 1) := by decide +kernel
theorem dX5_readsClause_10 : decode cX5_readsClause 10 = .ok (.invokevirtual 81, 3) := by decide +kernel
theorem dX5_readsClause_13 : decode cX5_readsClause 13 = .ok (.ifCond .eq 9, 3) := by decide +kernel
theorem dX5_readsClause_16 : decode cX5_readsClause 16 = .ok (.aload_n 0, 1) := by decide +kernel
theorem dX5_readsClause_17 : decode cX5_readsClause 17 = .ok (.invokevirtual 38, 3) := by decide +kernel
theorem dX5_readsClause_20 : decode cX5_readsClause 20 = .ok (.iconst 1, 1) := by decide +kernel
theorem dX5_readsClause_21 : decode cX5_readsClause 21 = .ok (.ireturn, 1) := by decide +kernel
theorem dX5_readsClause_22 : decode cX5_readsClause 22 = .ok (.aload_n 0, 1) := by decide +kernel
theorem dX5_readsClause_23 : decode cX5_readsClause 23 = .ok (.bipush 119, 2) := by decide +kernel
theorem dX5_readsClause_25 : decode cX5_readsClause 25 = .ok (.bipush 111, 2) := by decide +kernel
theorem dX5_readsClause_27 : decode cX5_readsClause 27 = .ok (.bipush 114, 2) := by decide +kernel
theorem dX5_readsClause_29 : decode cX5_readsClause 29 = .ok (.bipush 100, 2) := by decide +kernel
theorem dX5_readsClause_31 : decode cX5_readsClause 31 = .ok (.iconst 0, 1) := by decide +kernel
theorem dX5_readsClause_32 : decode cX5_readsClause 32 = .ok (.invokevirtual 81, 3) := by decide +kernel
theorem dX5_readsClause_35 : decode cX5_readsClause 35 = .ok (.ifCond .eq 9, 3) := by decide +kernel
theorem dX5_readsClause_38 : decode cX5_readsClause 38 = .ok (.aload_n 0, 1) := by decide +kernel
theorem dX5_readsClause_39 : decode cX5_readsClause 39 = .ok (.iconst 0, 1) := by decide +kernel
theorem dX5_readsClause_40 : decode cX5_readsClause 40 = .ok (.invokevirtual 85, 3) := by decide +kernel
theorem dX5_readsClause_43 : decode cX5_readsClause 43 = .ok (.ireturn, 1) := by decide +kernel
theorem dX5_readsClause_44 : decode cX5_readsClause 44 = .ok (.aload_n 0, 1) := by decide +kernel
theorem dX5_readsClause_45 : decode cX5_readsClause 45 = .ok (.bipush 103, 2) := by decide +kernel
theorem dX5_readsClause_47 : decode cX5_readsClause 47 = .ok (.bipush 114, 2) := by decide +kernel
theorem dX5_readsClause_49 : decode cX5_readsClause 49 = .ok (.bipush 101, 2) := by decide +kernel
theorem dX5_readsClause_51 : decode cX5_readsClause 51 = .ok (.bipush 101, 2) := by decide +kernel
theorem dX5_readsClause_53 : decode cX5_readsClause 53 = .ok (.bipush 107, 2) := by decide +kernel
theorem dX5_readsClause_55 : decode cX5_readsClause 55 = .ok (.invokevirtual 81, 3) := by decide +kernel
theorem dX5_readsClause_58 : decode cX5_readsClause 58 = .ok (.ifCond .eq 9, 3) := by decide +kernel
theorem dX5_readsClause_61 : decode cX5_readsClause 61 = .ok (.aload_n 0, 1) := by decide +kernel
theorem dX5_readsClause_62 : decode cX5_readsClause 62 = .ok (.iconst 1, 1) := by decide +kernel
theorem dX5_readsClause_63 : decode cX5_readsClause 63 = .ok (.invokevirtual 85, 3) := by decide +kernel
theorem dX5_readsClause_66 : decode cX5_readsClause 66 = .ok (.ireturn, 1) := by decide +kernel
theorem dX5_readsClause_67 : decode cX5_readsClause 67 = .ok (.aload_n 0, 1) := by decide +kernel
theorem dX5_readsClause_68 : decode cX5_readsClause 68 = .ok (.bipush 113, 2) := by decide +kernel
theorem dX5_readsClause_70 : decode cX5_readsClause 70 = .ok (.bipush 117, 2) := by decide +kernel
theorem dX5_readsClause_72 : decode cX5_readsClause 72 = .ok (.bipush 111, 2) := by decide +kernel
theorem dX5_readsClause_74 : decode cX5_readsClause 74 = .ok (.bipush 116, 2) := by decide +kernel
theorem dX5_readsClause_76 : decode cX5_readsClause 76 = .ok (.bipush 101, 2) := by decide +kernel
theorem dX5_readsClause_78 : decode cX5_readsClause 78 = .ok (.invokevirtual 81, 3) := by decide +kernel
theorem dX5_readsClause_81 : decode cX5_readsClause 81 = .ok (.ifCond .eq 9, 3) := by decide +kernel
theorem dX5_readsClause_84 : decode cX5_readsClause 84 = .ok (.aload_n 0, 1) := by decide +kernel
theorem dX5_readsClause_85 : decode cX5_readsClause 85 = .ok (.iconst 2, 1) := by decide +kernel
theorem dX5_readsClause_86 : decode cX5_readsClause 86 = .ok (.invokevirtual 85, 3) := by decide +kernel
theorem dX5_readsClause_89 : decode cX5_readsClause 89 = .ok (.ireturn, 1) := by decide +kernel
theorem dX5_readsClause_90 : decode cX5_readsClause 90 = .ok (.aload_n 0, 1) := by decide +kernel
theorem dX5_readsClause_91 : decode cX5_readsClause 91 = .ok (.bipush 112, 2) := by decide +kernel
theorem dX5_readsClause_93 : decode cX5_readsClause 93 = .ok (.bipush 115, 2) := by decide +kernel
theorem dX5_readsClause_95 : decode cX5_readsClause 95 = .ok (.bipush 97, 2) := by decide +kernel
theorem dX5_readsClause_97 : decode cX5_readsClause 97 = .ok (.bipush 108, 2) := by decide +kernel
theorem dX5_readsClause_99 : decode cX5_readsClause 99 = .ok (.bipush 109, 2) := by decide +kernel
theorem dX5_readsClause_101 : decode cX5_readsClause 101 = .ok (.invokevirtual 81, 3) := by decide +kernel
theorem dX5_readsClause_104 : decode cX5_readsClause 104 = .ok (.ifCond .eq 9, 3) := by decide +kernel
theorem dX5_readsClause_107 : decode cX5_readsClause 107 = .ok (.aload_n 0, 1) := by decide +kernel
theorem dX5_readsClause_108 : decode cX5_readsClause 108 = .ok (.iconst 3, 1) := by decide +kernel
theorem dX5_readsClause_109 : decode cX5_readsClause 109 = .ok (.invokevirtual 85, 3) := by decide +kernel
theorem dX5_readsClause_112 : decode cX5_readsClause 112 = .ok (.ireturn, 1) := by decide +kernel
theorem dX5_readsClause_113 : decode cX5_readsClause 113 = .ok (.aload_n 0, 1) := by decide +kernel
theorem dX5_readsClause_114 : decode cX5_readsClause 114 = .ok (.bipush 115, 2) := by decide +kernel
theorem dX5_readsClause_116 : decode cX5_readsClause 116 = .ok (.bipush 111, 2) := by decide +kernel
theorem dX5_readsClause_118 : decode cX5_readsClause 118 = .ok (.bipush 117, 2) := by decide +kernel
theorem dX5_readsClause_120 : decode cX5_readsClause 120 = .ok (.bipush 108, 2) := by decide +kernel
theorem dX5_readsClause_122 : decode cX5_readsClause 122 = .ok (.iconst 0, 1) := by decide +kernel
theorem dX5_readsClause_123 : decode cX5_readsClause 123 = .ok (.invokevirtual 81, 3) := by decide +kernel
theorem dX5_readsClause_126 : decode cX5_readsClause 126 = .ok (.ifCond .eq 8, 3) := by decide +kernel
theorem dX5_readsClause_129 : decode cX5_readsClause 129 = .ok (.aload_n 0, 1) := by decide +kernel
theorem dX5_readsClause_130 : decode cX5_readsClause 130 = .ok (.invokevirtual 88, 3) := by decide +kernel
theorem dX5_readsClause_133 : decode cX5_readsClause 133 = .ok (.ireturn, 1) := by decide +kernel
theorem dX5_readsClause_134 : decode cX5_readsClause 134 = .ok (.aload_n 0, 1) := by decide +kernel
theorem dX5_readsClause_135 : decode cX5_readsClause 135 = .ok (.bipush 116, 2) := by decide +kernel
theorem dX5_readsClause_137 : decode cX5_readsClause 137 = .ok (.bipush 104, 2) := by decide +kernel
theorem dX5_readsClause_139 : decode cX5_readsClause 139 = .ok (.bipush 117, 2) := by decide +kernel
theorem dX5_readsClause_141 : decode cX5_readsClause 141 = .ok (.bipush 109, 2) := by decide +kernel
theorem dX5_readsClause_143 : decode cX5_readsClause 143 = .ok (.bipush 98, 2) := by decide +kernel
theorem dX5_readsClause_145 : decode cX5_readsClause 145 = .ok (.invokevirtual 81, 3) := by decide +kernel
theorem dX5_readsClause_148 : decode cX5_readsClause 148 = .ok (.ifCond .eq 12, 3) := by decide +kernel
theorem dX5_readsClause_151 : decode cX5_readsClause 151 = .ok (.aload_n 0, 1) := by decide +kernel
theorem dX5_readsClause_152 : decode cX5_readsClause 152 = .ok (.iconst 2, 1) := by decide +kernel
theorem dX5_readsClause_153 : decode cX5_readsClause 153 = .ok (.iconst 0, 1) := by decide +kernel
theorem dX5_readsClause_154 : decode cX5_readsClause 154 = .ok (.bipush 9, 2) := by decide +kernel
theorem dX5_readsClause_156 : decode cX5_readsClause 156 = .ok (.invokevirtual 78, 3) := by decide +kernel
theorem dX5_readsClause_159 : decode cX5_readsClause 159 = .ok (.ireturn, 1) := by decide +kernel
theorem dX5_readsClause_160 : decode cX5_readsClause 160 = .ok (.aload_n 0, 1) := by decide +kernel
theorem dX5_readsClause_161 : decode cX5_readsClause 161 = .ok (.bipush 98, 2) := by decide +kernel
theorem dX5_readsClause_163 : decode cX5_readsClause 163 = .ok (.bipush 101, 2) := by decide +kernel
theorem dX5_readsClause_165 : decode cX5_readsClause 165 = .ok (.bipush 97, 2) := by decide +kernel
theorem dX5_readsClause_167 : decode cX5_readsClause 167 = .ok (.bipush 109, 2) := by decide +kernel
theorem dX5_readsClause_169 : decode cX5_readsClause 169 = .ok (.iconst 0, 1) := by decide +kernel
theorem dX5_readsClause_170 : decode cX5_readsClause 170 = .ok (.invokevirtual 81, 3) := by decide +kernel
theorem dX5_readsClause_173 : decode cX5_readsClause 173 = .ok (.ifCond .eq 11, 3) := by decide +kernel
theorem dX5_readsClause_176 : decode cX5_readsClause 176 = .ok (.aload_n 0, 1) := by decide +kernel
theorem dX5_readsClause_177 : decode cX5_readsClause 177 = .ok (.iconst 3, 1) := by decide +kernel
theorem dX5_readsClause_178 : decode cX5_readsClause 178 = .ok (.iconst 0, 1) := by decide +kernel
theorem dX5_readsClause_179 : decode cX5_readsClause 179 = .ok (.iconst 5, 1) := by decide +kernel
theorem dX5_readsClause_180 : decode cX5_readsClause 180 = .ok (.invokevirtual 78, 3) := by decide +kernel
theorem dX5_readsClause_183 : decode cX5_readsClause 183 = .ok (.ireturn, 1) := by decide +kernel
theorem dX5_readsClause_184 : decode cX5_readsClause 184 = .ok (.aload_n 0, 1) := by decide +kernel
theorem dX5_readsClause_185 : decode cX5_readsClause 185 = .ok (.bipush 119, 2) := by decide +kernel
theorem dX5_readsClause_187 : decode cX5_readsClause 187 = .ok (.bipush 101, 2) := by decide +kernel
theorem dX5_readsClause_189 : decode cX5_readsClause 189 = .ok (.bipush 116, 2) := by decide +kernel
theorem dX5_readsClause_191 : decode cX5_readsClause 191 = .ok (.iconst 0, 1) := by decide +kernel
theorem dX5_readsClause_192 : decode cX5_readsClause 192 = .ok (.iconst 0, 1) := by decide +kernel
theorem dX5_readsClause_193 : decode cX5_readsClause 193 = .ok (.invokevirtual 81, 3) := by decide +kernel
theorem dX5_readsClause_196 : decode cX5_readsClause 196 = .ok (.ifCond .eq 18, 3) := by decide +kernel
theorem dX5_readsClause_199 : decode cX5_readsClause 199 = .ok (.aload_n 0, 1) := by decide +kernel
theorem dX5_readsClause_200 : decode cX5_readsClause 200 = .ok (.iconst 4, 1) := by decide +kernel
theorem dX5_readsClause_201 : decode cX5_readsClause 201 = .ok (.iconst 0, 1) := by decide +kernel
theorem dX5_readsClause_202 : decode cX5_readsClause 202 = .ok (.bipush 9, 2) := by decide +kernel
theorem dX5_readsClause_204 : decode cX5_readsClause 204 = .ok (.invokevirtual 78, 3) := by decide +kernel
theorem dX5_readsClause_207 : decode cX5_readsClause 207 = .ok (.ifCond .eq 7, 3) := by decide +kernel
theorem dX5_readsClause_210 : decode cX5_readsClause 210 = .ok (.iconst 1, 1) := by decide +kernel
theorem dX5_readsClause_211 : decode cX5_readsClause 211 = .ok (.goto 4, 3) := by decide +kernel
theorem dX5_readsClause_214 : decode cX5_readsClause 214 = .ok (.iconst 0, 1) := by decide +kernel
theorem dX5_readsClause_215 : decode cX5_readsClause 215 = .ok (.ireturn, 1) := by decide +kernel
theorem dX5_reads_0 : decode cX5_reads 0 = .ok (.iconst 0, 1) := by decide +kernel
theorem dX5_reads_1 : decode cX5_reads 1 = .ok (.istore_n 1, 1) := by decide +kernel
theorem dX5_reads_2 : decode cX5_reads 2 = .ok (.iload_n 1, 1) := by decide +kernel
theorem dX5_reads_3 : decode cX5_reads 3 = .ok (.bipush 35, 2) := by decide +kernel
theorem dX5_reads_5 : decode cX5_reads 5 = .ok (.if_icmp .ge 21, 3) := by decide +kernel
theorem dX5_reads_8 : decode cX5_reads 8 = .ok (.aload_n 0, 1) := by decide +kernel
theorem dX5_reads_9 : decode cX5_reads 9 = .ok (.getfield 16, 3) := by decide +kernel
theorem dX5_reads_12 : decode cX5_reads 12 = .ok (.iload_n 1, 1) := by decide +kernel
theorem dX5_reads_13 : decode cX5_reads 13 = .ok (.aload_n 0, 1) := by decide +kernel
theorem dX5_reads_14 : decode cX5_reads 14 = .ok (.getfield 13, 3) := by decide +kernel
theorem dX5_reads_17 : decode cX5_reads 17 = .ok (.iload_n 1, 1) := by decide +kernel
theorem dX5_reads_18 : decode cX5_reads 18 = .ok (.iaload, 1) := by decide +kernel
theorem dX5_reads_19 : decode cX5_reads 19 = .ok (.iastore, 1) := by decide +kernel
theorem dX5_reads_20 : decode cX5_reads 20 = .ok (.iinc 1 1, 3) := by decide +kernel
theorem dX5_reads_23 : decode cX5_reads 23 = .ok (.goto (-21), 3) := by decide +kernel
theorem dX5_reads_26 : decode cX5_reads 26 = .ok (.aload_n 0, 1) := by decide +kernel
theorem dX5_reads_27 : decode cX5_reads 27 = .ok (.iconst 0, 1) := by decide +kernel
theorem dX5_reads_28 : decode cX5_reads 28 = .ok (.putfield 52, 3) := by decide +kernel
theorem dX5_reads_31 : decode cX5_reads 31 = .ok (.iconst 0, 1) := by decide +kernel
theorem dX5_reads_32 : decode cX5_reads 32 = .ok (.istore_n 1, 1) := by decide +kernel
theorem dX5_reads_33 : decode cX5_reads 33 = .ok (.iconst 1, 1) := by decide +kernel
theorem dX5_reads_34 : decode cX5_reads 34 = .ok (.istore_n 2, 1) := by decide +kernel
theorem dX5_reads_35 : decode cX5_reads 35 = .ok (.iload_n 2, 1) := by decide +kernel
theorem dX5_reads_36 : decode cX5_reads 36 = .ok (.ifCond .eq 70, 3) := by decide +kernel
theorem dX5_reads_39 : decode cX5_reads 39 = .ok (.aload_n 0, 1) := by decide +kernel
theorem dX5_reads_40 : decode cX5_reads 40 = .ok (.invokevirtual 75, 3) := by decide +kernel
theorem dX5_reads_43 : decode cX5_reads 43 = .ok (.aload_n 0, 1) := by decide +kernel
theorem dX5_reads_44 : decode cX5_reads 44 = .ok (.invokevirtual 92, 3) := by decide +kernel
theorem dX5_reads_47 : decode cX5_reads 47 = .ok (.ifCond .ne 5, 3) := by decide +kernel
theorem dX5_reads_50 : decode cX5_reads 50 = .ok (.iconst (-1), 1) := by decide +kernel
theorem dX5_reads_51 : decode cX5_reads 51 = .ok (.ireturn, 1) := by decide +kernel
theorem dX5_reads_52 : decode cX5_reads 52 = .ok (.iinc 1 1, 3) := by decide +kernel
theorem dX5_reads_55 : decode cX5_reads 55 = .ok (.aload_n 0, 1) := by decide +kernel
theorem dX5_reads_56 : decode cX5_reads 56 = .ok (.invokevirtual 75, 3) := by decide +kernel
theorem dX5_reads_59 : decode cX5_reads 59 = .ok (.aload_n 0, 1) := by decide +kernel
theorem dX5_reads_60 : decode cX5_reads 60 = .ok (.getfield 69, 3) := by decide +kernel
theorem dX5_reads_63 : decode cX5_reads 63 = .ok (.ifCond .eq 7, 3) := by decide +kernel
theorem dX5_reads_66 : decode cX5_reads 66 = .ok (.iconst 1, 1) := by decide +kernel
theorem dX5_reads_67 : decode cX5_reads 67 = .ok (.goto 4, 3) := by decide +kernel
theorem dX5_reads_70 : decode cX5_reads 70 = .ok (.iconst 0, 1) := by decide +kernel
theorem dX5_reads_71 : decode cX5_reads 71 = .ok (.istore_n 2, 1) := by decide +kernel
theorem dX5_reads_72 : decode cX5_reads 72 = .ok (.iload_n 2, 1) := by decide +kernel
theorem dX5_reads_73 : decode cX5_reads 73 = .ok (.ifCond .eq (-38), 3) := by decide +kernel
theorem dX5_reads_76 : decode cX5_reads 76 = .ok (.aload_n 0, 1) := by decide +kernel
theorem dX5_reads_77 : decode cX5_reads 77 = .ok (.getfield 69, 3) := by decide +kernel
theorem dX5_reads_80 : decode cX5_reads 80 = .ok (.iconst 3, 1) := by decide +kernel
theorem dX5_reads_81 : decode cX5_reads 81 = .ok (.if_icmp .ne 23, 3) := by decide +kernel
theorem dX5_reads_84 : decode cX5_reads 84 = .ok (.aload_n 0, 1) := by decide +kernel
theorem dX5_reads_85 : decode cX5_reads 85 = .ok (.getfield 7, 3) := by decide +kernel
theorem dX5_reads_88 : decode cX5_reads 88 = .ok (.aload_n 0, 1) := by decide +kernel
theorem dX5_reads_89 : decode cX5_reads 89 = .ok (.getfield 59, 3) := by decide +kernel
theorem dX5_reads_92 : decode cX5_reads 92 = .ok (.iaload, 1) := by decide +kernel
theorem dX5_reads_93 : decode cX5_reads 93 = .ok (.bipush 59, 2) := by decide +kernel
theorem dX5_reads_95 : decode cX5_reads 95 = .ok (.if_icmp .ne 9, 3) := by decide +kernel
theorem dX5_reads_98 : decode cX5_reads 98 = .ok (.iload_n 1, 1) := by decide +kernel
theorem dX5_reads_99 : decode cX5_reads 99 = .ok (.bipush 14, 2) := by decide +kernel
theorem dX5_reads_101 : decode cX5_reads 101 = .ok (.if_icmp .ne (-66), 3) := by decide +kernel
theorem dX5_reads_104 : decode cX5_reads 104 = .ok (.iconst (-1), 1) := by decide +kernel
theorem dX5_reads_105 : decode cX5_reads 105 = .ok (.ireturn, 1) := by decide +kernel
theorem dX5_reads_106 : decode cX5_reads 106 = .ok (.iload_n 1, 1) := by decide +kernel
theorem dX5_reads_107 : decode cX5_reads 107 = .ok (.ireturn, 1) := by decide +kernel
theorem dX5_lays_0 : decode cX5_lays 0 = .ok (.iconst 0, 1) := by decide +kernel
theorem dX5_lays_1 : decode cX5_lays 1 = .ok (.istore_n 1, 1) := by decide +kernel
theorem dX5_lays_2 : decode cX5_lays 2 = .ok (.iload_n 1, 1) := by decide +kernel
theorem dX5_lays_3 : decode cX5_lays 3 = .ok (.bipush 12, 2) := by decide +kernel
theorem dX5_lays_5 : decode cX5_lays 5 = .ok (.if_icmp .ge 34, 3) := by decide +kernel
theorem dX5_lays_8 : decode cX5_lays 8 = .ok (.aload_n 0, 1) := by decide +kernel
theorem dX5_lays_9 : decode cX5_lays 9 = .ok (.getfield 19, 3) := by decide +kernel
theorem dX5_lays_12 : decode cX5_lays 12 = .ok (.iload_n 1, 1) := by decide +kernel
theorem dX5_lays_13 : decode cX5_lays 13 = .ok (.iload_n 1, 1) := by decide +kernel
theorem dX5_lays_14 : decode cX5_lays 14 = .ok (.bipush 6, 2) := by decide +kernel
theorem dX5_lays_16 : decode cX5_lays 16 = .ok (.if_icmp .ge 15, 3) := by decide +kernel
theorem dX5_lays_19 : decode cX5_lays 19 = .ok (.aload_n 0, 1) := by decide +kernel
theorem dX5_lays_20 : decode cX5_lays 20 = .ok (.getfield 13, 3) := by decide +kernel
theorem dX5_lays_23 : decode cX5_lays 23 = .ok (.bipush 29, 2) := by decide +kernel
theorem dX5_lays_25 : decode cX5_lays 25 = .ok (.iload_n 1, 1) := by decide +kernel
theorem dX5_lays_26 : decode cX5_lays 26 = .ok (.iadd, 1) := by decide +kernel
theorem dX5_lays_27 : decode cX5_lays 27 = .ok (.iaload, 1) := by decide +kernel
theorem dX5_lays_28 : decode cX5_lays 28 = .ok (.goto 4, 3) := by decide +kernel
theorem dX5_lays_31 : decode cX5_lays 31 = .ok (.iconst 0, 1) := by decide +kernel
theorem dX5_lays_32 : decode cX5_lays 32 = .ok (.iastore, 1) := by decide +kernel
theorem dX5_lays_33 : decode cX5_lays 33 = .ok (.iinc 1 1, 3) := by decide +kernel
theorem dX5_lays_36 : decode cX5_lays 36 = .ok (.goto (-34), 3) := by decide +kernel
theorem dX5_lays_39 : decode cX5_lays 39 = .ok (.aload_n 0, 1) := by decide +kernel
theorem dX5_lays_40 : decode cX5_lays 40 = .ok (.getfield 19, 3) := by decide +kernel
theorem dX5_lays_43 : decode cX5_lays 43 = .ok (.bipush 6, 2) := by decide +kernel
theorem dX5_lays_45 : decode cX5_lays 45 = .ok (.aload_n 0, 1) := by decide +kernel
theorem dX5_lays_46 : decode cX5_lays 46 = .ok (.getfield 13, 3) := by decide +kernel
theorem dX5_lays_49 : decode cX5_lays 49 = .ok (.iconst 4, 1) := by decide +kernel
theorem dX5_lays_50 : decode cX5_lays 50 = .ok (.iaload, 1) := by decide +kernel
theorem dX5_lays_51 : decode cX5_lays 51 = .ok (.iastore, 1) := by decide +kernel
theorem dX5_lays_52 : decode cX5_lays 52 = .ok (.aload_n 0, 1) := by decide +kernel
theorem dX5_lays_53 : decode cX5_lays 53 = .ok (.iconst 0, 1) := by decide +kernel
theorem dX5_lays_54 : decode cX5_lays 54 = .ok (.putfield 95, 3) := by decide +kernel
theorem dX5_lays_57 : decode cX5_lays 57 = .ok (.aload_n 0, 1) := by decide +kernel
theorem dX5_lays_58 : decode cX5_lays 58 = .ok (.iconst 0, 1) := by decide +kernel
theorem dX5_lays_59 : decode cX5_lays 59 = .ok (.putfield 98, 3) := by decide +kernel
theorem dX5_lays_62 : decode cX5_lays 62 = .ok (.aload_n 0, 1) := by decide +kernel
theorem dX5_lays_63 : decode cX5_lays 63 = .ok (.iconst 0, 1) := by decide +kernel
theorem dX5_lays_64 : decode cX5_lays 64 = .ok (.putfield 101, 3) := by decide +kernel
theorem dX5_lays_67 : decode cX5_lays 67 = .ok (.aload_n 0, 1) := by decide +kernel
theorem dX5_lays_68 : decode cX5_lays 68 = .ok (.getfield 28, 3) := by decide +kernel
theorem dX5_lays_71 : decode cX5_lays 71 = .ok (.iconst 0, 1) := by decide +kernel
theorem dX5_lays_72 : decode cX5_lays 72 = .ok (.iconst 0, 1) := by decide +kernel
theorem dX5_lays_73 : decode cX5_lays 73 = .ok (.bastore, 1) := by decide +kernel
theorem dX5_lays_74 : decode cX5_lays 74 = .ok (.aload_n 0, 1) := by decide +kernel
theorem dX5_lays_75 : decode cX5_lays 75 = .ok (.getfield 28, 3) := by decide +kernel
theorem dX5_lays_78 : decode cX5_lays 78 = .ok (.iconst 1, 1) := by decide +kernel
theorem dX5_lays_79 : decode cX5_lays 79 = .ok (.iconst 0, 1) := by decide +kernel
theorem dX5_lays_80 : decode cX5_lays 80 = .ok (.bastore, 1) := by decide +kernel
theorem dX5_lays_81 : decode cX5_lays 81 = .ok (.return_, 1) := by decide +kernel
theorem dX5_fault_0 : decode cX5_fault 0 = .ok (.aload_n 0, 1) := by decide +kernel
theorem dX5_fault_1 : decode cX5_fault 1 = .ok (.invokevirtual 104, 3) := by decide +kernel
theorem dX5_fault_4 : decode cX5_fault 4 = .ok (.iconst (-1), 1) := by decide +kernel
theorem dX5_fault_5 : decode cX5_fault 5 = .ok (.if_icmp .ne 10, 3) := by decide +kernel
theorem dX5_fault_8 : decode cX5_fault 8 = .ok (.aload_n 0, 1) := by decide +kernel
theorem dX5_fault_9 : decode cX5_fault 9 = .ok (.getfield 59, 3) := by decide +kernel
theorem dX5_fault_12 : decode cX5_fault 12 = .ok (.goto 4, 3) := by decide +kernel
theorem dX5_fault_15 : decode cX5_fault 15 = .ok (.iconst (-1), 1) := by decide +kernel
theorem dX5_fault_16 : decode cX5_fault 16 = .ok (.ireturn, 1) := by decide +kernel
theorem dX5_kirk_0 : decode cX5_kirk 0 = .ok (.aload_n 0, 1) := by decide +kernel
theorem dX5_kirk_1 : decode cX5_kirk 1 = .ok (.invokevirtual 104, 3) := by decide +kernel
theorem dX5_kirk_4 : decode cX5_kirk 4 = .ok (.istore_n 1, 1) := by decide +kernel
theorem dX5_kirk_5 : decode cX5_kirk 5 = .ok (.iload_n 1, 1) := by decide +kernel
theorem dX5_kirk_6 : decode cX5_kirk 6 = .ok (.iconst (-1), 1) := by decide +kernel
theorem dX5_kirk_7 : decode cX5_kirk 7 = .ok (.if_icmp .ne 6, 3) := by decide +kernel
theorem dX5_kirk_10 : decode cX5_kirk 10 = .ok (.bipush (-4), 2) := by decide +kernel
theorem dX5_kirk_12 : decode cX5_kirk 12 = .ok (.ireturn, 1) := by decide +kernel
theorem dX5_kirk_13 : decode cX5_kirk 13 = .ok (.iconst 0, 1) := by decide +kernel
theorem dX5_kirk_14 : decode cX5_kirk 14 = .ok (.istore_n 2, 1) := by decide +kernel
theorem dX5_kirk_15 : decode cX5_kirk 15 = .ok (.iload_n 2, 1) := by decide +kernel
theorem dX5_kirk_16 : decode cX5_kirk 16 = .ok (.bipush 35, 2) := by decide +kernel
theorem dX5_kirk_18 : decode cX5_kirk 18 = .ok (.if_icmp .ge 21, 3) := by decide +kernel
theorem dX5_kirk_21 : decode cX5_kirk 21 = .ok (.aload_n 0, 1) := by decide +kernel
theorem dX5_kirk_22 : decode cX5_kirk 22 = .ok (.getfield 13, 3) := by decide +kernel
theorem dX5_kirk_25 : decode cX5_kirk 25 = .ok (.iload_n 2, 1) := by decide +kernel
theorem dX5_kirk_26 : decode cX5_kirk 26 = .ok (.aload_n 0, 1) := by decide +kernel
theorem dX5_kirk_27 : decode cX5_kirk 27 = .ok (.getfield 16, 3) := by decide +kernel
theorem dX5_kirk_30 : decode cX5_kirk 30 = .ok (.iload_n 2, 1) := by decide +kernel
theorem dX5_kirk_31 : decode cX5_kirk 31 = .ok (.iaload, 1) := by decide +kernel
theorem dX5_kirk_32 : decode cX5_kirk 32 = .ok (.iastore, 1) := by decide +kernel
theorem dX5_kirk_33 : decode cX5_kirk 33 = .ok (.iinc 2 1, 3) := by decide +kernel
theorem dX5_kirk_36 : decode cX5_kirk 36 = .ok (.goto (-21), 3) := by decide +kernel
theorem dX5_kirk_39 : decode cX5_kirk 39 = .ok (.aload_n 0, 1) := by decide +kernel
theorem dX5_kirk_40 : decode cX5_kirk 40 = .ok (.invokevirtual 41, 3) := by decide +kernel
theorem dX5_kirk_43 : decode cX5_kirk 43 = .ok (.aload_n 0, 1) := by decide +kernel
theorem dX5_kirk_44 : decode cX5_kirk 44 = .ok (.iconst 0, 1) := by decide +kernel
theorem dX5_kirk_45 : decode cX5_kirk 45 = .ok (.putfield 48, 3) := by decide +kernel
theorem dX5_kirk_48 : decode cX5_kirk 48 = .ok (.iload_n 1, 1) := by decide +kernel
theorem dX5_kirk_49 : decode cX5_kirk 49 = .ok (.ireturn, 1) := by decide +kernel
theorem dX5_weighs_0 : decode cX5_weighs 0 = .ok (.iload_n 0, 1) := by decide +kernel
theorem dX5_weighs_1 : decode cX5_weighs 1 = .ok (.iconst 3, 1) := by decide +kernel
theorem dX5_weighs_2 : decode cX5_weighs 2 = .ok (.if_icmp .ne 7, 3) := by decide +kernel
theorem dX5_weighs_5 : decode cX5_weighs 5 = .ok (.iconst 0, 1) := by decide +kernel
theorem dX5_weighs_6 : decode cX5_weighs 6 = .ok (.goto 26, 3) := by decide +kernel
theorem dX5_weighs_9 : decode cX5_weighs 9 = .ok (.iload_n 0, 1) := by decide +kernel
theorem dX5_weighs_10 : decode cX5_weighs 10 = .ok (.iconst 2, 1) := by decide +kernel
theorem dX5_weighs_11 : decode cX5_weighs 11 = .ok (.if_icmp .ne 9, 3) := by decide +kernel
theorem dX5_weighs_14 : decode cX5_weighs 14 = .ok (.iload_n 1, 1) := by decide +kernel
theorem dX5_weighs_15 : decode cX5_weighs 15 = .ok (.iconst 2, 1) := by decide +kernel
theorem dX5_weighs_16 : decode cX5_weighs 16 = .ok (.idiv, 1) := by decide +kernel
theorem dX5_weighs_17 : decode cX5_weighs 17 = .ok (.goto 15, 3) := by decide +kernel
theorem dX5_weighs_20 : decode cX5_weighs 20 = .ok (.iload_n 0, 1) := by decide +kernel
theorem dX5_weighs_21 : decode cX5_weighs 21 = .ok (.iconst 1, 1) := by decide +kernel
theorem dX5_weighs_22 : decode cX5_weighs 22 = .ok (.if_icmp .ne 9, 3) := by decide +kernel
theorem dX5_weighs_25 : decode cX5_weighs 25 = .ok (.iload_n 1, 1) := by decide +kernel
theorem dX5_weighs_26 : decode cX5_weighs 26 = .ok (.iload_n 2, 1) := by decide +kernel
theorem dX5_weighs_27 : decode cX5_weighs 27 = .ok (.iadd, 1) := by decide +kernel
theorem dX5_weighs_28 : decode cX5_weighs 28 = .ok (.goto 4, 3) := by decide +kernel
theorem dX5_weighs_31 : decode cX5_weighs 31 = .ok (.iload_n 1, 1) := by decide +kernel
theorem dX5_weighs_32 : decode cX5_weighs 32 = .ok (.ireturn, 1) := by decide +kernel
theorem dX5_ounces_0 : decode cX5_ounces 0 = .ok (.aload_n 0, 1) := by decide +kernel
theorem dX5_ounces_1 : decode cX5_ounces 1 = .ok (.getfield 13, 3) := by decide +kernel
theorem dX5_ounces_4 : decode cX5_ounces 4 = .ok (.iconst 5, 1) := by decide +kernel
theorem dX5_ounces_5 : decode cX5_ounces 5 = .ok (.iload_n 1, 1) := by decide +kernel
theorem dX5_ounces_6 : decode cX5_ounces 6 = .ok (.iadd, 1) := by decide +kernel
theorem dX5_ounces_7 : decode cX5_ounces 7 = .ok (.iaload, 1) := by decide +kernel
theorem dX5_ounces_8 : decode cX5_ounces 8 = .ok (.aload_n 0, 1) := by decide +kernel
theorem dX5_ounces_9 : decode cX5_ounces 9 = .ok (.getfield 13, 3) := by decide +kernel
theorem dX5_ounces_12 : decode cX5_ounces 12 = .ok (.bipush 13, 2) := by decide +kernel
theorem dX5_ounces_14 : decode cX5_ounces 14 = .ok (.iload_n 1, 1) := by decide +kernel
theorem dX5_ounces_15 : decode cX5_ounces 15 = .ok (.iadd, 1) := by decide +kernel
theorem dX5_ounces_16 : decode cX5_ounces 16 = .ok (.iaload, 1) := by decide +kernel
theorem dX5_ounces_17 : decode cX5_ounces 17 = .ok (.iload_n 2, 1) := by decide +kernel
theorem dX5_ounces_18 : decode cX5_ounces 18 = .ok (.invokestatic 108, 3) := by decide +kernel
theorem dX5_ounces_21 : decode cX5_ounces 21 = .ok (.ireturn, 1) := by decide +kernel
theorem dX5_ouncesOf_0 : decode cX5_ouncesOf 0 = .ok (.iconst 0, 1) := by decide +kernel
theorem dX5_ouncesOf_1 : decode cX5_ouncesOf 1 = .ok (.istore_n 3, 1) := by decide +kernel
theorem dX5_ouncesOf_2 : decode cX5_ouncesOf 2 = .ok (.iconst 0, 1) := by decide +kernel
theorem dX5_ouncesOf_3 : decode cX5_ouncesOf 3 = .ok (.istore 4, 2) := by decide +kernel
theorem dX5_ouncesOf_5 : decode cX5_ouncesOf 5 = .ok (.iload 4, 2) := by decide +kernel
theorem dX5_ouncesOf_7 : decode cX5_ouncesOf 7 = .ok (.aload_n 0, 1) := by decide +kernel
theorem dX5_ouncesOf_8 : decode cX5_ouncesOf 8 = .ok (.getfield 13, 3) := by decide +kernel
theorem dX5_ouncesOf_11 : decode cX5_ouncesOf 11 = .ok (.iconst 0, 1) := by decide +kernel
theorem dX5_ouncesOf_12 : decode cX5_ouncesOf 12 = .ok (.iaload, 1) := by decide +kernel
theorem dX5_ouncesOf_13 : decode cX5_ouncesOf 13 = .ok (.if_icmp .ge 33, 3) := by decide +kernel
theorem dX5_ouncesOf_16 : decode cX5_ouncesOf 16 = .ok (.iload_n 3, 1) := by decide +kernel
theorem dX5_ouncesOf_17 : decode cX5_ouncesOf 17 = .ok (.iload_n 1, 1) := by decide +kernel
theorem dX5_ouncesOf_18 : decode cX5_ouncesOf 18 = .ok (.iload 4, 2) := by decide +kernel
theorem dX5_ouncesOf_20 : decode cX5_ouncesOf 20 = .ok (.ishr, 1) := by decide +kernel
theorem dX5_ouncesOf_21 : decode cX5_ouncesOf 21 = .ok (.iconst 1, 1) := by decide +kernel
theorem dX5_ouncesOf_22 : decode cX5_ouncesOf 22 = .ok (.iand, 1) := by decide +kernel
theorem dX5_ouncesOf_23 : decode cX5_ouncesOf 23 = .ok (.iconst 1, 1) := by decide +kernel
theorem dX5_ouncesOf_24 : decode cX5_ouncesOf 24 = .ok (.if_icmp .ne 13, 3) := by decide +kernel
theorem dX5_ouncesOf_27 : decode cX5_ouncesOf 27 = .ok (.aload_n 0, 1) := by decide +kernel
theorem dX5_ouncesOf_28 : decode cX5_ouncesOf 28 = .ok (.iload 4, 2) := by decide +kernel
theorem dX5_ouncesOf_30 : decode cX5_ouncesOf 30 = .ok (.iload_n 2, 1) := by decide +kernel
theorem dX5_ouncesOf_31 : decode cX5_ouncesOf 31 = .ok (.invokevirtual 112, 3) := by decide +kernel
theorem dX5_ouncesOf_34 : decode cX5_ouncesOf 34 = .ok (.goto 4, 3) := by decide +kernel
theorem dX5_ouncesOf_37 : decode cX5_ouncesOf 37 = .ok (.iconst 0, 1) := by decide +kernel
theorem dX5_ouncesOf_38 : decode cX5_ouncesOf 38 = .ok (.iadd, 1) := by decide +kernel
theorem dX5_ouncesOf_39 : decode cX5_ouncesOf 39 = .ok (.istore_n 3, 1) := by decide +kernel
theorem dX5_ouncesOf_40 : decode cX5_ouncesOf 40 = .ok (.iinc 4 1, 3) := by decide +kernel
theorem dX5_ouncesOf_43 : decode cX5_ouncesOf 43 = .ok (.goto (-38), 3) := by decide +kernel
theorem dX5_ouncesOf_46 : decode cX5_ouncesOf 46 = .ok (.iload_n 3, 1) := by decide +kernel
theorem dX5_ouncesOf_47 : decode cX5_ouncesOf 47 = .ok (.ireturn, 1) := by decide +kernel
theorem dX5_sermon_0 : decode cX5_sermon 0 = .ok (.aload_n 0, 1) := by decide +kernel
theorem dX5_sermon_1 : decode cX5_sermon 1 = .ok (.getfield 13, 3) := by decide +kernel
theorem dX5_sermon_4 : decode cX5_sermon 4 = .ok (.iconst 2, 1) := by decide +kernel
theorem dX5_sermon_5 : decode cX5_sermon 5 = .ok (.iaload, 1) := by decide +kernel
theorem dX5_sermon_6 : decode cX5_sermon 6 = .ok (.aload_n 0, 1) := by decide +kernel
theorem dX5_sermon_7 : decode cX5_sermon 7 = .ok (.aload_n 0, 1) := by decide +kernel
theorem dX5_sermon_8 : decode cX5_sermon 8 = .ok (.getfield 19, 3) := by decide +kernel
theorem dX5_sermon_11 : decode cX5_sermon 11 = .ok (.bipush 7, 2) := by decide +kernel
theorem dX5_sermon_13 : decode cX5_sermon 13 = .ok (.iaload, 1) := by decide +kernel
theorem dX5_sermon_14 : decode cX5_sermon 14 = .ok (.aload_n 0, 1) := by decide +kernel
theorem dX5_sermon_15 : decode cX5_sermon 15 = .ok (.getfield 19, 3) := by decide +kernel
theorem dX5_sermon_18 : decode cX5_sermon 18 = .ok (.bipush 6, 2) := by decide +kernel
theorem dX5_sermon_20 : decode cX5_sermon 20 = .ok (.iaload, 1) := by decide +kernel
theorem dX5_sermon_21 : decode cX5_sermon 21 = .ok (.invokevirtual 116, 3) := by decide +kernel
theorem dX5_sermon_24 : decode cX5_sermon 24 = .ok (.iadd, 1) := by decide +kernel
theorem dX5_sermon_25 : decode cX5_sermon 25 = .ok (.ireturn, 1) := by decide +kernel
theorem dX5_lead_0 : decode cX5_lead 0 = .ok (.iconst 0, 1) := by decide +kernel
theorem dX5_lead_1 : decode cX5_lead 1 = .ok (.istore_n 1, 1) := by decide +kernel
theorem dX5_lead_2 : decode cX5_lead 2 = .ok (.iconst 0, 1) := by decide +kernel
theorem dX5_lead_3 : decode cX5_lead 3 = .ok (.istore_n 2, 1) := by decide +kernel
theorem dX5_lead_4 : decode cX5_lead 4 = .ok (.iload_n 2, 1) := by decide +kernel
theorem dX5_lead_5 : decode cX5_lead 5 = .ok (.aload_n 0, 1) := by decide +kernel
theorem dX5_lead_6 : decode cX5_lead 6 = .ok (.getfield 13, 3) := by decide +kernel
theorem dX5_lead_9 : decode cX5_lead 9 = .ok (.iconst 1, 1) := by decide +kernel
theorem dX5_lead_10 : decode cX5_lead 10 = .ok (.iaload, 1) := by decide +kernel
theorem dX5_lead_11 : decode cX5_lead 11 = .ok (.if_icmp .ge 18, 3) := by decide +kernel
theorem dX5_lead_14 : decode cX5_lead 14 = .ok (.iload_n 1, 1) := by decide +kernel
theorem dX5_lead_15 : decode cX5_lead 15 = .ok (.aload_n 0, 1) := by decide +kernel
theorem dX5_lead_16 : decode cX5_lead 16 = .ok (.getfield 19, 3) := by decide +kernel
theorem dX5_lead_19 : decode cX5_lead 19 = .ok (.iload_n 2, 1) := by decide +kernel
theorem dX5_lead_20 : decode cX5_lead 20 = .ok (.iaload, 1) := by decide +kernel
theorem dX5_lead_21 : decode cX5_lead 21 = .ok (.iadd, 1) := by decide +kernel
theorem dX5_lead_22 : decode cX5_lead 22 = .ok (.istore_n 1, 1) := by decide +kernel
theorem dX5_lead_23 : decode cX5_lead 23 = .ok (.iinc 2 1, 3) := by decide +kernel
theorem dX5_lead_26 : decode cX5_lead 26 = .ok (.goto (-22), 3) := by decide +kernel
theorem dX5_lead_29 : decode cX5_lead 29 = .ok (.iload_n 1, 1) := by decide +kernel
theorem dX5_lead_30 : decode cX5_lead 30 = .ok (.aload_n 0, 1) := by decide +kernel
theorem dX5_lead_31 : decode cX5_lead 31 = .ok (.getfield 19, 3) := by decide +kernel
theorem dX5_lead_34 : decode cX5_lead 34 = .ok (.bipush 8, 2) := by decide +kernel
theorem dX5_lead_36 : decode cX5_lead 36 = .ok (.iaload, 1) := by decide +kernel
theorem dX5_lead_37 : decode cX5_lead 37 = .ok (.if_icmp .le 15, 3) := by decide +kernel
theorem dX5_lead_40 : decode cX5_lead 40 = .ok (.iload_n 1, 1) := by decide +kernel
theorem dX5_lead_41 : decode cX5_lead 41 = .ok (.aload_n 0, 1) := by decide +kernel
theorem dX5_lead_42 : decode cX5_lead 42 = .ok (.getfield 19, 3) := by decide +kernel
theorem dX5_lead_45 : decode cX5_lead 45 = .ok (.bipush 8, 2) := by decide +kernel
theorem dX5_lead_47 : decode cX5_lead 47 = .ok (.iaload, 1) := by decide +kernel
theorem dX5_lead_48 : decode cX5_lead 48 = .ok (.isub, 1) := by decide +kernel
theorem dX5_lead_49 : decode cX5_lead 49 = .ok (.goto 4, 3) := by decide +kernel
theorem dX5_lead_52 : decode cX5_lead 52 = .ok (.iconst 0, 1) := by decide +kernel
theorem dX5_lead_53 : decode cX5_lead 53 = .ok (.ireturn, 1) := by decide +kernel
theorem dX5_hangs_0 : decode cX5_hangs 0 = .ok (.iload_n 1, 1) := by decide +kernel
theorem dX5_hangs_1 : decode cX5_hangs 1 = .ok (.iload_n 2, 1) := by decide +kernel
theorem dX5_hangs_2 : decode cX5_hangs 2 = .ok (.isub, 1) := by decide +kernel
theorem dX5_hangs_3 : decode cX5_hangs 3 = .ok (.aload_n 0, 1) := by decide +kernel
theorem dX5_hangs_4 : decode cX5_hangs 4 = .ok (.getfield 13, 3) := by decide +kernel
theorem dX5_hangs_7 : decode cX5_hangs 7 = .ok (.iconst 3, 1) := by decide +kernel
theorem dX5_hangs_8 : decode cX5_hangs 8 = .ok (.iaload, 1) := by decide +kernel
theorem dX5_hangs_9 : decode cX5_hangs 9 = .ok (.ineg, 1) := by decide +kernel
theorem dX5_hangs_10 : decode cX5_hangs 10 = .ok (.aload_n 0, 1) := by decide +kernel
theorem dX5_hangs_11 : decode cX5_hangs 11 = .ok (.getfield 13, 3) := by decide +kernel
theorem dX5_hangs_14 : decode cX5_hangs 14 = .ok (.iconst 3, 1) := by decide +kernel
theorem dX5_hangs_15 : decode cX5_hangs 15 = .ok (.iaload, 1) := by decide +kernel
theorem dX5_hangs_16 : decode cX5_hangs 16 = .ok (.invokestatic 44, 3) := by decide +kernel
theorem dX5_hangs_19 : decode cX5_hangs 19 = .ok (.ireturn, 1) := by decide +kernel
theorem dX5_isLevel_0 : decode cX5_isLevel 0 = .ok (.aload_n 0, 1) := by decide +kernel
theorem dX5_isLevel_1 : decode cX5_isLevel 1 = .ok (.aload_n 0, 1) := by decide +kernel
theorem dX5_isLevel_2 : decode cX5_isLevel 2 = .ok (.invokevirtual 119, 3) := by decide +kernel
theorem dX5_isLevel_5 : decode cX5_isLevel 5 = .ok (.aload_n 0, 1) := by decide +kernel
theorem dX5_isLevel_6 : decode cX5_isLevel 6 = .ok (.invokevirtual 122, 3) := by decide +kernel
theorem dX5_isLevel_9 : decode cX5_isLevel 9 = .ok (.invokevirtual 125, 3) := by decide +kernel
theorem dX5_isLevel_12 : decode cX5_isLevel 12 = .ok (.ireturn, 1) := by decide +kernel
theorem dX5_part_0 : decode cX5_part 0 = .ok (.aload_n 0, 1) := by decide +kernel
theorem dX5_part_1 : decode cX5_part 1 = .ok (.iload_n 1, 1) := by decide +kernel
theorem dX5_part_2 : decode cX5_part 2 = .ok (.invokevirtual 129, 3) := by decide +kernel
theorem dX5_part_5 : decode cX5_part 5 = .ok (.ifCond .ne 6, 3) := by decide +kernel
theorem dX5_part_8 : decode cX5_part 8 = .ok (.bipush (-2), 2) := by decide +kernel
theorem dX5_part_10 : decode cX5_part 10 = .ok (.ireturn, 1) := by decide +kernel
theorem dX5_part_11 : decode cX5_part 11 = .ok (.iload_n 2, 1) := by decide +kernel
theorem dX5_part_12 : decode cX5_part 12 = .ok (.tableswitch 90 0 4 #[36, 45, 55, 65, 78], 36) := by decide +kernel
theorem dX5_part_48 : decode cX5_part 48 = .ok (.aload_n 0, 1) := by decide +kernel
theorem dX5_part_49 : decode cX5_part 49 = .ok (.getfield 13, 3) := by decide +kernel
theorem dX5_part_52 : decode cX5_part 52 = .ok (.iconst 5, 1) := by decide +kernel
theorem dX5_part_53 : decode cX5_part 53 = .ok (.iload_n 1, 1) := by decide +kernel
theorem dX5_part_54 : decode cX5_part 54 = .ok (.iadd, 1) := by decide +kernel
theorem dX5_part_55 : decode cX5_part 55 = .ok (.iaload, 1) := by decide +kernel
theorem dX5_part_56 : decode cX5_part 56 = .ok (.ireturn, 1) := by decide +kernel
theorem dX5_part_57 : decode cX5_part 57 = .ok (.aload_n 0, 1) := by decide +kernel
theorem dX5_part_58 : decode cX5_part 58 = .ok (.getfield 13, 3) := by decide +kernel
theorem dX5_part_61 : decode cX5_part 61 = .ok (.bipush 13, 2) := by decide +kernel
theorem dX5_part_63 : decode cX5_part 63 = .ok (.iload_n 1, 1) := by decide +kernel
theorem dX5_part_64 : decode cX5_part 64 = .ok (.iadd, 1) := by decide +kernel
theorem dX5_part_65 : decode cX5_part 65 = .ok (.iaload, 1) := by decide +kernel
theorem dX5_part_66 : decode cX5_part 66 = .ok (.ireturn, 1) := by decide +kernel
theorem dX5_part_67 : decode cX5_part 67 = .ok (.aload_n 0, 1) := by decide +kernel
theorem dX5_part_68 : decode cX5_part 68 = .ok (.getfield 13, 3) := by decide +kernel
theorem dX5_part_71 : decode cX5_part 71 = .ok (.bipush 21, 2) := by decide +kernel
theorem dX5_part_73 : decode cX5_part 73 = .ok (.iload_n 1, 1) := by decide +kernel
theorem dX5_part_74 : decode cX5_part 74 = .ok (.iadd, 1) := by decide +kernel
theorem dX5_part_75 : decode cX5_part 75 = .ok (.iaload, 1) := by decide +kernel
theorem dX5_part_76 : decode cX5_part 76 = .ok (.ireturn, 1) := by decide +kernel
theorem dX5_part_77 : decode cX5_part 77 = .ok (.aload_n 0, 1) := by decide +kernel
theorem dX5_part_78 : decode cX5_part 78 = .ok (.iload_n 1, 1) := by decide +kernel
theorem dX5_part_79 : decode cX5_part 79 = .ok (.aload_n 0, 1) := by decide +kernel
theorem dX5_part_80 : decode cX5_part 80 = .ok (.getfield 19, 3) := by decide +kernel
theorem dX5_part_83 : decode cX5_part 83 = .ok (.bipush 6, 2) := by decide +kernel
theorem dX5_part_85 : decode cX5_part 85 = .ok (.iaload, 1) := by decide +kernel
theorem dX5_part_86 : decode cX5_part 86 = .ok (.invokevirtual 112, 3) := by decide +kernel
theorem dX5_part_89 : decode cX5_part 89 = .ok (.ireturn, 1) := by decide +kernel
theorem dX5_part_90 : decode cX5_part 90 = .ok (.aload_n 0, 1) := by decide +kernel
theorem dX5_part_91 : decode cX5_part 91 = .ok (.getfield 19, 3) := by decide +kernel
theorem dX5_part_94 : decode cX5_part 94 = .ok (.bipush 7, 2) := by decide +kernel
theorem dX5_part_96 : decode cX5_part 96 = .ok (.iaload, 1) := by decide +kernel
theorem dX5_part_97 : decode cX5_part 97 = .ok (.iload_n 1, 1) := by decide +kernel
theorem dX5_part_98 : decode cX5_part 98 = .ok (.ishr, 1) := by decide +kernel
theorem dX5_part_99 : decode cX5_part 99 = .ok (.iconst 1, 1) := by decide +kernel
theorem dX5_part_100 : decode cX5_part 100 = .ok (.iand, 1) := by decide +kernel
theorem dX5_part_101 : decode cX5_part 101 = .ok (.ireturn, 1) := by decide +kernel
theorem dX5_part_102 : decode cX5_part 102 = .ok (.bipush (-3), 2) := by decide +kernel
theorem dX5_part_104 : decode cX5_part 104 = .ok (.ireturn, 1) := by decide +kernel
theorem dX5_sins_0 : decode cX5_sins 0 = .ok (.iload_n 1, 1) := by decide +kernel
theorem dX5_sins_1 : decode cX5_sins 1 = .ok (.iconst 0, 1) := by decide +kernel
theorem dX5_sins_2 : decode cX5_sins 2 = .ok (.aload_n 0, 1) := by decide +kernel
theorem dX5_sins_3 : decode cX5_sins 3 = .ok (.getfield 13, 3) := by decide +kernel
theorem dX5_sins_6 : decode cX5_sins 6 = .ok (.iconst 1, 1) := by decide +kernel
theorem dX5_sins_7 : decode cX5_sins 7 = .ok (.iaload, 1) := by decide +kernel
theorem dX5_sins_8 : decode cX5_sins 8 = .ok (.iconst 1, 1) := by decide +kernel
theorem dX5_sins_9 : decode cX5_sins 9 = .ok (.isub, 1) := by decide +kernel
theorem dX5_sins_10 : decode cX5_sins 10 = .ok (.invokestatic 44, 3) := by decide +kernel
theorem dX5_sins_13 : decode cX5_sins 13 = .ok (.ifCond .eq 12, 3) := by decide +kernel
theorem dX5_sins_16 : decode cX5_sins 16 = .ok (.aload_n 0, 1) := by decide +kernel
theorem dX5_sins_17 : decode cX5_sins 17 = .ok (.getfield 19, 3) := by decide +kernel
theorem dX5_sins_20 : decode cX5_sins 20 = .ok (.iload_n 1, 1) := by decide +kernel
theorem dX5_sins_21 : decode cX5_sins 21 = .ok (.iaload, 1) := by decide +kernel
theorem dX5_sins_22 : decode cX5_sins 22 = .ok (.goto 5, 3) := by decide +kernel
theorem dX5_sins_25 : decode cX5_sins 25 = .ok (.bipush (-2), 2) := by decide +kernel
theorem dX5_sins_27 : decode cX5_sins 27 = .ok (.ireturn, 1) := by decide +kernel
theorem dX5_as_0 : decode cX5_as 0 = .ok (.aload_n 0, 1) := by decide +kernel
theorem dX5_as_1 : decode cX5_as 1 = .ok (.iload_n 1, 1) := by decide +kernel
theorem dX5_as_2 : decode cX5_as 2 = .ok (.invokevirtual 129, 3) := by decide +kernel
theorem dX5_as_5 : decode cX5_as 5 = .ok (.ifCond .ne 6, 3) := by decide +kernel
theorem dX5_as_8 : decode cX5_as 8 = .ok (.bipush (-2), 2) := by decide +kernel
theorem dX5_as_10 : decode cX5_as 10 = .ok (.ireturn, 1) := by decide +kernel
theorem dX5_as_11 : decode cX5_as 11 = .ok (.iload_n 2, 1) := by decide +kernel
theorem dX5_as_12 : decode cX5_as 12 = .ok (.iconst 0, 1) := by decide +kernel
theorem dX5_as_13 : decode cX5_as 13 = .ok (.iconst 4, 1) := by decide +kernel
theorem dX5_as_14 : decode cX5_as 14 = .ok (.invokestatic 44, 3) := by decide +kernel
theorem dX5_as_17 : decode cX5_as 17 = .ok (.ifCond .ne 6, 3) := by decide +kernel
theorem dX5_as_20 : decode cX5_as 20 = .ok (.bipush (-3), 2) := by decide +kernel
theorem dX5_as_22 : decode cX5_as 22 = .ok (.ireturn, 1) := by decide +kernel
theorem dX5_as_23 : decode cX5_as 23 = .ok (.aload_n 0, 1) := by decide +kernel
theorem dX5_as_24 : decode cX5_as 24 = .ok (.getfield 13, 3) := by decide +kernel
theorem dX5_as_27 : decode cX5_as 27 = .ok (.iconst 5, 1) := by decide +kernel
theorem dX5_as_28 : decode cX5_as 28 = .ok (.iload_n 1, 1) := by decide +kernel
theorem dX5_as_29 : decode cX5_as 29 = .ok (.iadd, 1) := by decide +kernel
theorem dX5_as_30 : decode cX5_as 30 = .ok (.iaload, 1) := by decide +kernel
theorem dX5_as_31 : decode cX5_as 31 = .ok (.istore_n 3, 1) := by decide +kernel
theorem dX5_as_32 : decode cX5_as 32 = .ok (.iload_n 2, 1) := by decide +kernel
theorem dX5_as_33 : decode cX5_as 33 = .ok (.ifCond .eq 20, 3) := by decide +kernel
theorem dX5_as_36 : decode cX5_as 36 = .ok (.iload_n 2, 1) := by decide +kernel
theorem dX5_as_37 : decode cX5_as 37 = .ok (.iload_n 3, 1) := by decide +kernel
theorem dX5_as_38 : decode cX5_as 38 = .ok (.iconst 1, 1) := by decide +kernel
theorem dX5_as_39 : decode cX5_as 39 = .ok (.iadd, 1) := by decide +kernel
theorem dX5_as_40 : decode cX5_as 40 = .ok (.if_icmp .eq 13, 3) := by decide +kernel
theorem dX5_as_43 : decode cX5_as 43 = .ok (.iload_n 2, 1) := by decide +kernel
theorem dX5_as_44 : decode cX5_as 44 = .ok (.iconst 1, 1) := by decide +kernel
theorem dX5_as_45 : decode cX5_as 45 = .ok (.if_icmp .ne 12, 3) := by decide +kernel
theorem dX5_as_48 : decode cX5_as 48 = .ok (.iload_n 3, 1) := by decide +kernel
theorem dX5_as_49 : decode cX5_as 49 = .ok (.iconst 3, 1) := by decide +kernel
theorem dX5_as_50 : decode cX5_as 50 = .ok (.if_icmp .ge 7, 3) := by decide +kernel
theorem dX5_as_53 : decode cX5_as 53 = .ok (.iconst 1, 1) := by decide +kernel
theorem dX5_as_54 : decode cX5_as 54 = .ok (.goto 4, 3) := by decide +kernel
theorem dX5_as_57 : decode cX5_as 57 = .ok (.iconst 0, 1) := by decide +kernel
theorem dX5_as_58 : decode cX5_as 58 = .ok (.istore 4, 2) := by decide +kernel
theorem dX5_as_60 : decode cX5_as 60 = .ok (.iload 4, 2) := by decide +kernel
theorem dX5_as_62 : decode cX5_as 62 = .ok (.ifCond .eq 13, 3) := by decide +kernel
theorem dX5_as_65 : decode cX5_as 65 = .ok (.aload_n 0, 1) := by decide +kernel
theorem dX5_as_66 : decode cX5_as 66 = .ok (.iload_n 1, 1) := by decide +kernel
theorem dX5_as_67 : decode cX5_as 67 = .ok (.bipush 9, 2) := by decide +kernel
theorem dX5_as_69 : decode cX5_as 69 = .ok (.invokevirtual 112, 3) := by decide +kernel
theorem dX5_as_72 : decode cX5_as 72 = .ok (.goto 5, 3) := by decide +kernel
theorem dX5_as_75 : decode cX5_as 75 = .ok (.bipush (-4), 2) := by decide +kernel
theorem dX5_as_77 : decode cX5_as 77 = .ok (.ireturn, 1) := by decide +kernel
theorem dX5_keeps_0 : decode cX5_keeps 0 = .ok (.aload_n 0, 1) := by decide +kernel
theorem dX5_keeps_1 : decode cX5_keeps 1 = .ok (.getfield 95, 3) := by decide +kernel
theorem dX5_keeps_4 : decode cX5_keeps 4 = .ok (.bipush 8, 2) := by decide +kernel
theorem dX5_keeps_6 : decode cX5_keeps 6 = .ok (.if_icmp .ne 42, 3) := by decide +kernel
theorem dX5_keeps_9 : decode cX5_keeps 9 = .ok (.iconst 0, 1) := by decide +kernel
theorem dX5_keeps_10 : decode cX5_keeps 10 = .ok (.istore_n 1, 1) := by decide +kernel
theorem dX5_keeps_11 : decode cX5_keeps 11 = .ok (.iload_n 1, 1) := by decide +kernel
theorem dX5_keeps_12 : decode cX5_keeps 12 = .ok (.bipush 84, 2) := by decide +kernel
theorem dX5_keeps_14 : decode cX5_keeps 14 = .ok (.if_icmp .ge 24, 3) := by decide +kernel
theorem dX5_keeps_17 : decode cX5_keeps 17 = .ok (.aload_n 0, 1) := by decide +kernel
theorem dX5_keeps_18 : decode cX5_keeps 18 = .ok (.getfield 22, 3) := by decide +kernel
theorem dX5_keeps_21 : decode cX5_keeps 21 = .ok (.iload_n 1, 1) := by decide +kernel
theorem dX5_keeps_22 : decode cX5_keeps 22 = .ok (.aload_n 0, 1) := by decide +kernel
theorem dX5_keeps_23 : decode cX5_keeps 23 = .ok (.getfield 22, 3) := by decide +kernel
theorem dX5_keeps_26 : decode cX5_keeps 26 = .ok (.iload_n 1, 1) := by decide +kernel
theorem dX5_keeps_27 : decode cX5_keeps 27 = .ok (.bipush 12, 2) := by decide +kernel
theorem dX5_keeps_29 : decode cX5_keeps 29 = .ok (.iadd, 1) := by decide +kernel
theorem dX5_keeps_30 : decode cX5_keeps 30 = .ok (.iaload, 1) := by decide +kernel
theorem dX5_keeps_31 : decode cX5_keeps 31 = .ok (.iastore, 1) := by decide +kernel
theorem dX5_keeps_32 : decode cX5_keeps 32 = .ok (.iinc 1 1, 3) := by decide +kernel
theorem dX5_keeps_35 : decode cX5_keeps 35 = .ok (.goto (-24), 3) := by decide +kernel
theorem dX5_keeps_38 : decode cX5_keeps 38 = .ok (.aload_n 0, 1) := by decide +kernel
theorem dX5_keeps_39 : decode cX5_keeps 39 = .ok (.dup, 1) := by decide +kernel
theorem dX5_keeps_40 : decode cX5_keeps 40 = .ok (.getfield 95, 3) := by decide +kernel
theorem dX5_keeps_43 : decode cX5_keeps 43 = .ok (.iconst 1, 1) := by decide +kernel
theorem dX5_keeps_44 : decode cX5_keeps 44 = .ok (.isub, 1) := by decide +kernel
theorem dX5_keeps_45 : decode cX5_keeps 45 = .ok (.putfield 95, 3) := by decide +kernel
theorem dX5_keeps_48 : decode cX5_keeps 48 = .ok (.iconst 0, 1) := by decide +kernel
theorem dX5_keeps_49 : decode cX5_keeps 49 = .ok (.istore_n 1, 1) := by decide +kernel
theorem dX5_keeps_50 : decode cX5_keeps 50 = .ok (.iload_n 1, 1) := by decide +kernel
theorem dX5_keeps_51 : decode cX5_keeps 51 = .ok (.bipush 12, 2) := by decide +kernel
theorem dX5_keeps_53 : decode cX5_keeps 53 = .ok (.if_icmp .ge 29, 3) := by decide +kernel
theorem dX5_keeps_56 : decode cX5_keeps 56 = .ok (.aload_n 0, 1) := by decide +kernel
theorem dX5_keeps_57 : decode cX5_keeps 57 = .ok (.getfield 22, 3) := by decide +kernel
theorem dX5_keeps_60 : decode cX5_keeps 60 = .ok (.bipush 12, 2) := by decide +kernel
theorem dX5_keeps_62 : decode cX5_keeps 62 = .ok (.aload_n 0, 1) := by decide +kernel
theorem dX5_keeps_63 : decode cX5_keeps 63 = .ok (.getfield 95, 3) := by decide +kernel
theorem dX5_keeps_66 : decode cX5_keeps 66 = .ok (.imul, 1) := by decide +kernel
theorem dX5_keeps_67 : decode cX5_keeps 67 = .ok (.iload_n 1, 1) := by decide +kernel
theorem dX5_keeps_68 : decode cX5_keeps 68 = .ok (.iadd, 1) := by decide +kernel
theorem dX5_keeps_69 : decode cX5_keeps 69 = .ok (.aload_n 0, 1) := by decide +kernel
theorem dX5_keeps_70 : decode cX5_keeps 70 = .ok (.getfield 19, 3) := by decide +kernel
theorem dX5_keeps_73 : decode cX5_keeps 73 = .ok (.iload_n 1, 1) := by decide +kernel
theorem dX5_keeps_74 : decode cX5_keeps 74 = .ok (.iaload, 1) := by decide +kernel
theorem dX5_keeps_75 : decode cX5_keeps 75 = .ok (.iastore, 1) := by decide +kernel
theorem dX5_keeps_76 : decode cX5_keeps 76 = .ok (.iinc 1 1, 3) := by decide +kernel
theorem dX5_keeps_79 : decode cX5_keeps 79 = .ok (.goto (-29), 3) := by decide +kernel
theorem dX5_keeps_82 : decode cX5_keeps 82 = .ok (.aload_n 0, 1) := by decide +kernel
theorem dX5_keeps_83 : decode cX5_keeps 83 = .ok (.dup, 1) := by decide +kernel
theorem dX5_keeps_84 : decode cX5_keeps 84 = .ok (.getfield 95, 3) := by decide +kernel
theorem dX5_keeps_87 : decode cX5_keeps 87 = .ok (.iconst 1, 1) := by decide +kernel
theorem dX5_keeps_88 : decode cX5_keeps 88 = .ok (.iadd, 1) := by decide +kernel
theorem dX5_keeps_89 : decode cX5_keeps 89 = .ok (.putfield 95, 3) := by decide +kernel
theorem dX5_keeps_92 : decode cX5_keeps 92 = .ok (.return_, 1) := by decide +kernel
theorem dX5_preach_0 : decode cX5_preach 0 = .ok (.aload_n 0, 1) := by decide +kernel
theorem dX5_preach_1 : decode cX5_preach 1 = .ok (.iload_n 1, 1) := by decide +kernel
theorem dX5_preach_2 : decode cX5_preach 2 = .ok (.invokevirtual 129, 3) := by decide +kernel
theorem dX5_preach_5 : decode cX5_preach 5 = .ok (.ifCond .ne 6, 3) := by decide +kernel
theorem dX5_preach_8 : decode cX5_preach 8 = .ok (.bipush (-2), 2) := by decide +kernel
theorem dX5_preach_10 : decode cX5_preach 10 = .ok (.ireturn, 1) := by decide +kernel
theorem dX5_preach_11 : decode cX5_preach 11 = .ok (.aload_n 0, 1) := by decide +kernel
theorem dX5_preach_12 : decode cX5_preach 12 = .ok (.getfield 19, 3) := by decide +kernel
theorem dX5_preach_15 : decode cX5_preach 15 = .ok (.bipush 7, 2) := by decide +kernel
theorem dX5_preach_17 : decode cX5_preach 17 = .ok (.iaload, 1) := by decide +kernel
theorem dX5_preach_18 : decode cX5_preach 18 = .ok (.iload_n 1, 1) := by decide +kernel
theorem dX5_preach_19 : decode cX5_preach 19 = .ok (.ishr, 1) := by decide +kernel
theorem dX5_preach_20 : decode cX5_preach 20 = .ok (.iconst 1, 1) := by decide +kernel
theorem dX5_preach_21 : decode cX5_preach 21 = .ok (.iand, 1) := by decide +kernel
theorem dX5_preach_22 : decode cX5_preach 22 = .ok (.iconst 1, 1) := by decide +kernel
theorem dX5_preach_23 : decode cX5_preach 23 = .ok (.if_icmp .eq 10, 3) := by decide +kernel
theorem dX5_preach_26 : decode cX5_preach 26 = .ok (.aload_n 0, 1) := by decide +kernel
theorem dX5_preach_27 : decode cX5_preach 27 = .ok (.invokevirtual 132, 3) := by decide +kernel
theorem dX5_preach_30 : decode cX5_preach 30 = .ok (.ifCond .eq 6, 3) := by decide +kernel
theorem dX5_preach_33 : decode cX5_preach 33 = .ok (.bipush (-4), 2) := by decide +kernel
theorem dX5_preach_35 : decode cX5_preach 35 = .ok (.ireturn, 1) := by decide +kernel
theorem dX5_preach_36 : decode cX5_preach 36 = .ok (.aload_n 0, 1) := by decide +kernel
theorem dX5_preach_37 : decode cX5_preach 37 = .ok (.invokevirtual 135, 3) := by decide +kernel
theorem dX5_preach_40 : decode cX5_preach 40 = .ok (.aload_n 0, 1) := by decide +kernel
theorem dX5_preach_41 : decode cX5_preach 41 = .ok (.getfield 19, 3) := by decide +kernel
theorem dX5_preach_44 : decode cX5_preach 44 = .ok (.bipush 7, 2) := by decide +kernel
theorem dX5_preach_46 : decode cX5_preach 46 = .ok (.dup2, 1) := by decide +kernel
theorem dX5_preach_47 : decode cX5_preach 47 = .ok (.iaload, 1) := by decide +kernel
theorem dX5_preach_48 : decode cX5_preach 48 = .ok (.iconst 1, 1) := by decide +kernel
theorem dX5_preach_49 : decode cX5_preach 49 = .ok (.iload_n 1, 1) := by decide +kernel
theorem dX5_preach_50 : decode cX5_preach 50 = .ok (.ishl, 1) := by decide +kernel
theorem dX5_preach_51 : decode cX5_preach 51 = .ok (.ior, 1) := by decide +kernel
theorem dX5_preach_52 : decode cX5_preach 52 = .ok (.iastore, 1) := by decide +kernel
theorem dX5_preach_53 : decode cX5_preach 53 = .ok (.aload_n 0, 1) := by decide +kernel
theorem dX5_preach_54 : decode cX5_preach 54 = .ok (.getfield 19, 3) := by decide +kernel
theorem dX5_preach_57 : decode cX5_preach 57 = .ok (.bipush 10, 2) := by decide +kernel
theorem dX5_preach_59 : decode cX5_preach 59 = .ok (.dup2, 1) := by decide +kernel
theorem dX5_preach_60 : decode cX5_preach 60 = .ok (.iaload, 1) := by decide +kernel
theorem dX5_preach_61 : decode cX5_preach 61 = .ok (.aload_n 0, 1) := by decide +kernel
theorem dX5_preach_62 : decode cX5_preach 62 = .ok (.getfield 13, 3) := by decide +kernel
theorem dX5_preach_65 : decode cX5_preach 65 = .ok (.bipush 21, 2) := by decide +kernel
theorem dX5_preach_67 : decode cX5_preach 67 = .ok (.iload_n 1, 1) := by decide +kernel
theorem dX5_preach_68 : decode cX5_preach 68 = .ok (.iadd, 1) := by decide +kernel
theorem dX5_preach_69 : decode cX5_preach 69 = .ok (.iaload, 1) := by decide +kernel
theorem dX5_preach_70 : decode cX5_preach 70 = .ok (.iadd, 1) := by decide +kernel
theorem dX5_preach_71 : decode cX5_preach 71 = .ok (.iastore, 1) := by decide +kernel
theorem dX5_preach_72 : decode cX5_preach 72 = .ok (.sipush 9999, 3) := by decide +kernel
theorem dX5_preach_75 : decode cX5_preach 75 = .ok (.aload_n 0, 1) := by decide +kernel
theorem dX5_preach_76 : decode cX5_preach 76 = .ok (.invokevirtual 119, 3) := by decide +kernel
theorem dX5_preach_79 : decode cX5_preach 79 = .ok (.iadd, 1) := by decide +kernel
theorem dX5_preach_80 : decode cX5_preach 80 = .ok (.aload_n 0, 1) := by decide +kernel
theorem dX5_preach_81 : decode cX5_preach 81 = .ok (.invokevirtual 122, 3) := by decide +kernel
theorem dX5_preach_84 : decode cX5_preach 84 = .ok (.isub, 1) := by decide +kernel
theorem dX5_preach_85 : decode cX5_preach 85 = .ok (.ireturn, 1) := by decide +kernel
theorem dX5_sin_0 : decode cX5_sin 0 = .ok (.iload_n 1, 1) := by decide +kernel
theorem dX5_sin_1 : decode cX5_sin 1 = .ok (.iconst 0, 1) := by decide +kernel
theorem dX5_sin_2 : decode cX5_sin 2 = .ok (.aload_n 0, 1) := by decide +kernel
theorem dX5_sin_3 : decode cX5_sin 3 = .ok (.getfield 13, 3) := by decide +kernel
theorem dX5_sin_6 : decode cX5_sin 6 = .ok (.iconst 1, 1) := by decide +kernel
theorem dX5_sin_7 : decode cX5_sin 7 = .ok (.iaload, 1) := by decide +kernel
theorem dX5_sin_8 : decode cX5_sin 8 = .ok (.iconst 1, 1) := by decide +kernel
theorem dX5_sin_9 : decode cX5_sin 9 = .ok (.isub, 1) := by decide +kernel
theorem dX5_sin_10 : decode cX5_sin 10 = .ok (.invokestatic 44, 3) := by decide +kernel
theorem dX5_sin_13 : decode cX5_sin 13 = .ok (.ifCond .ne 6, 3) := by decide +kernel
theorem dX5_sin_16 : decode cX5_sin 16 = .ok (.bipush (-2), 2) := by decide +kernel
theorem dX5_sin_18 : decode cX5_sin 18 = .ok (.ireturn, 1) := by decide +kernel
theorem dX5_sin_19 : decode cX5_sin 19 = .ok (.iload_n 2, 1) := by decide +kernel
theorem dX5_sin_20 : decode cX5_sin 20 = .ok (.iconst 1, 1) := by decide +kernel
theorem dX5_sin_21 : decode cX5_sin 21 = .ok (.bipush 20, 2) := by decide +kernel
theorem dX5_sin_23 : decode cX5_sin 23 = .ok (.invokestatic 44, 3) := by decide +kernel
theorem dX5_sin_26 : decode cX5_sin 26 = .ok (.ifCond .ne 6, 3) := by decide +kernel
theorem dX5_sin_29 : decode cX5_sin 29 = .ok (.bipush (-3), 2) := by decide +kernel
theorem dX5_sin_31 : decode cX5_sin 31 = .ok (.ireturn, 1) := by decide +kernel
theorem dX5_sin_32 : decode cX5_sin 32 = .ok (.aload_n 0, 1) := by decide +kernel
theorem dX5_sin_33 : decode cX5_sin 33 = .ok (.invokevirtual 135, 3) := by decide +kernel
theorem dX5_sin_36 : decode cX5_sin 36 = .ok (.aload_n 0, 1) := by decide +kernel
theorem dX5_sin_37 : decode cX5_sin 37 = .ok (.getfield 19, 3) := by decide +kernel
theorem dX5_sin_40 : decode cX5_sin 40 = .ok (.iload_n 1, 1) := by decide +kernel
theorem dX5_sin_41 : decode cX5_sin 41 = .ok (.aload_n 0, 1) := by decide +kernel
theorem dX5_sin_42 : decode cX5_sin 42 = .ok (.getfield 19, 3) := by decide +kernel
theorem dX5_sin_45 : decode cX5_sin 45 = .ok (.iload_n 1, 1) := by decide +kernel
theorem dX5_sin_46 : decode cX5_sin 46 = .ok (.iaload, 1) := by decide +kernel
theorem dX5_sin_47 : decode cX5_sin 47 = .ok (.iload_n 2, 1) := by decide +kernel
theorem dX5_sin_48 : decode cX5_sin 48 = .ok (.iadd, 1) := by decide +kernel
theorem dX5_sin_49 : decode cX5_sin 49 = .ok (.bipush 99, 2) := by decide +kernel
theorem dX5_sin_51 : decode cX5_sin 51 = .ok (.if_icmp .le 8, 3) := by decide +kernel
theorem dX5_sin_54 : decode cX5_sin 54 = .ok (.bipush 99, 2) := by decide +kernel
theorem dX5_sin_56 : decode cX5_sin 56 = .ok (.goto 11, 3) := by decide +kernel
theorem dX5_sin_59 : decode cX5_sin 59 = .ok (.aload_n 0, 1) := by decide +kernel
theorem dX5_sin_60 : decode cX5_sin 60 = .ok (.getfield 19, 3) := by decide +kernel
theorem dX5_sin_63 : decode cX5_sin 63 = .ok (.iload_n 1, 1) := by decide +kernel
theorem dX5_sin_64 : decode cX5_sin 64 = .ok (.iaload, 1) := by decide +kernel
theorem dX5_sin_65 : decode cX5_sin 65 = .ok (.iload_n 2, 1) := by decide +kernel
theorem dX5_sin_66 : decode cX5_sin 66 = .ok (.iadd, 1) := by decide +kernel
theorem dX5_sin_67 : decode cX5_sin 67 = .ok (.iastore, 1) := by decide +kernel
theorem dX5_sin_68 : decode cX5_sin 68 = .ok (.aload_n 0, 1) := by decide +kernel
theorem dX5_sin_69 : decode cX5_sin 69 = .ok (.getfield 19, 3) := by decide +kernel
theorem dX5_sin_72 : decode cX5_sin 72 = .ok (.iload_n 1, 1) := by decide +kernel
theorem dX5_sin_73 : decode cX5_sin 73 = .ok (.iaload, 1) := by decide +kernel
theorem dX5_sin_74 : decode cX5_sin 74 = .ok (.ireturn, 1) := by decide +kernel
theorem dX5_ballast_0 : decode cX5_ballast 0 = .ok (.iload_n 1, 1) := by decide +kernel
theorem dX5_ballast_1 : decode cX5_ballast 1 = .ok (.iconst 1, 1) := by decide +kernel
theorem dX5_ballast_2 : decode cX5_ballast 2 = .ok (.bipush 20, 2) := by decide +kernel
theorem dX5_ballast_4 : decode cX5_ballast 4 = .ok (.invokestatic 44, 3) := by decide +kernel
theorem dX5_ballast_7 : decode cX5_ballast 7 = .ok (.ifCond .ne 6, 3) := by decide +kernel
theorem dX5_ballast_10 : decode cX5_ballast 10 = .ok (.bipush (-3), 2) := by decide +kernel
theorem dX5_ballast_12 : decode cX5_ballast 12 = .ok (.ireturn, 1) := by decide +kernel
theorem dX5_ballast_13 : decode cX5_ballast 13 = .ok (.aload_n 0, 1) := by decide +kernel
theorem dX5_ballast_14 : decode cX5_ballast 14 = .ok (.invokevirtual 135, 3) := by decide +kernel
theorem dX5_ballast_17 : decode cX5_ballast 17 = .ok (.aload_n 0, 1) := by decide +kernel
theorem dX5_ballast_18 : decode cX5_ballast 18 = .ok (.getfield 19, 3) := by decide +kernel
theorem dX5_ballast_21 : decode cX5_ballast 21 = .ok (.bipush 8, 2) := by decide +kernel
theorem dX5_ballast_23 : decode cX5_ballast 23 = .ok (.aload_n 0, 1) := by decide +kernel
theorem dX5_ballast_24 : decode cX5_ballast 24 = .ok (.getfield 19, 3) := by decide +kernel
theorem dX5_ballast_27 : decode cX5_ballast 27 = .ok (.bipush 8, 2) := by decide +kernel
theorem dX5_ballast_29 : decode cX5_ballast 29 = .ok (.iaload, 1) := by decide +kernel
theorem dX5_ballast_30 : decode cX5_ballast 30 = .ok (.iload_n 1, 1) := by decide +kernel
theorem dX5_ballast_31 : decode cX5_ballast 31 = .ok (.iadd, 1) := by decide +kernel
theorem dX5_ballast_32 : decode cX5_ballast 32 = .ok (.bipush 99, 2) := by decide +kernel
theorem dX5_ballast_34 : decode cX5_ballast 34 = .ok (.if_icmp .le 8, 3) := by decide +kernel
theorem dX5_ballast_37 : decode cX5_ballast 37 = .ok (.bipush 99, 2) := by decide +kernel
theorem dX5_ballast_39 : decode cX5_ballast 39 = .ok (.goto 12, 3) := by decide +kernel
theorem dX5_ballast_42 : decode cX5_ballast 42 = .ok (.aload_n 0, 1) := by decide +kernel
theorem dX5_ballast_43 : decode cX5_ballast 43 = .ok (.getfield 19, 3) := by decide +kernel
theorem dX5_ballast_46 : decode cX5_ballast 46 = .ok (.bipush 8, 2) := by decide +kernel
theorem dX5_ballast_48 : decode cX5_ballast 48 = .ok (.iaload, 1) := by decide +kernel
theorem dX5_ballast_49 : decode cX5_ballast 49 = .ok (.iload_n 1, 1) := by decide +kernel
theorem dX5_ballast_50 : decode cX5_ballast 50 = .ok (.iadd, 1) := by decide +kernel
theorem dX5_ballast_51 : decode cX5_ballast 51 = .ok (.iastore, 1) := by decide +kernel
theorem dX5_ballast_52 : decode cX5_ballast 52 = .ok (.aload_n 0, 1) := by decide +kernel
theorem dX5_ballast_53 : decode cX5_ballast 53 = .ok (.getfield 19, 3) := by decide +kernel
theorem dX5_ballast_56 : decode cX5_ballast 56 = .ok (.bipush 8, 2) := by decide +kernel
theorem dX5_ballast_58 : decode cX5_ballast 58 = .ok (.iaload, 1) := by decide +kernel
theorem dX5_ballast_59 : decode cX5_ballast 59 = .ok (.ireturn, 1) := by decide +kernel
theorem dX5_rain_0 : decode cX5_rain 0 = .ok (.iload_n 1, 1) := by decide +kernel
theorem dX5_rain_1 : decode cX5_rain 1 = .ok (.iconst 0, 1) := by decide +kernel
theorem dX5_rain_2 : decode cX5_rain 2 = .ok (.bipush 9, 2) := by decide +kernel
theorem dX5_rain_4 : decode cX5_rain 4 = .ok (.invokestatic 44, 3) := by decide +kernel
theorem dX5_rain_7 : decode cX5_rain 7 = .ok (.ifCond .ne 6, 3) := by decide +kernel
theorem dX5_rain_10 : decode cX5_rain 10 = .ok (.bipush (-3), 2) := by decide +kernel
theorem dX5_rain_12 : decode cX5_rain 12 = .ok (.ireturn, 1) := by decide +kernel
theorem dX5_rain_13 : decode cX5_rain 13 = .ok (.aload_n 0, 1) := by decide +kernel
theorem dX5_rain_14 : decode cX5_rain 14 = .ok (.invokevirtual 135, 3) := by decide +kernel
theorem dX5_rain_17 : decode cX5_rain 17 = .ok (.aload_n 0, 1) := by decide +kernel
theorem dX5_rain_18 : decode cX5_rain 18 = .ok (.getfield 19, 3) := by decide +kernel
theorem dX5_rain_21 : decode cX5_rain 21 = .ok (.bipush 6, 2) := by decide +kernel
theorem dX5_rain_23 : decode cX5_rain 23 = .ok (.iaload, 1) := by decide +kernel
theorem dX5_rain_24 : decode cX5_rain 24 = .ok (.istore_n 2, 1) := by decide +kernel
theorem dX5_rain_25 : decode cX5_rain 25 = .ok (.aload_n 0, 1) := by decide +kernel
theorem dX5_rain_26 : decode cX5_rain 26 = .ok (.getfield 19, 3) := by decide +kernel
theorem dX5_rain_29 : decode cX5_rain 29 = .ok (.bipush 6, 2) := by decide +kernel
theorem dX5_rain_31 : decode cX5_rain 31 = .ok (.iload_n 1, 1) := by decide +kernel
theorem dX5_rain_32 : decode cX5_rain 32 = .ok (.iastore, 1) := by decide +kernel
theorem dX5_rain_33 : decode cX5_rain 33 = .ok (.iload_n 2, 1) := by decide +kernel
theorem dX5_rain_34 : decode cX5_rain 34 = .ok (.ireturn, 1) := by decide +kernel
theorem dX5_sunday_0 : decode cX5_sunday 0 = .ok (.aload_n 0, 1) := by decide +kernel
theorem dX5_sunday_1 : decode cX5_sunday 1 = .ok (.getfield 19, 3) := by decide +kernel
theorem dX5_sunday_4 : decode cX5_sunday 4 = .ok (.bipush 9, 2) := by decide +kernel
theorem dX5_sunday_6 : decode cX5_sunday 6 = .ok (.iaload, 1) := by decide +kernel
theorem dX5_sunday_7 : decode cX5_sunday 7 = .ok (.sipush 999, 3) := by decide +kernel
theorem dX5_sunday_10 : decode cX5_sunday 10 = .ok (.if_icmp .ne 6, 3) := by decide +kernel
theorem dX5_sunday_13 : decode cX5_sunday 13 = .ok (.bipush (-5), 2) := by decide +kernel
theorem dX5_sunday_15 : decode cX5_sunday 15 = .ok (.ireturn, 1) := by decide +kernel
theorem dX5_sunday_16 : decode cX5_sunday 16 = .ok (.aload_n 0, 1) := by decide +kernel
theorem dX5_sunday_17 : decode cX5_sunday 17 = .ok (.invokevirtual 135, 3) := by decide +kernel
theorem dX5_sunday_20 : decode cX5_sunday 20 = .ok (.aload_n 0, 1) := by decide +kernel
theorem dX5_sunday_21 : decode cX5_sunday 21 = .ok (.invokevirtual 132, 3) := by decide +kernel
theorem dX5_sunday_24 : decode cX5_sunday 24 = .ok (.istore_n 1, 1) := by decide +kernel
theorem dX5_sunday_25 : decode cX5_sunday 25 = .ok (.iconst 0, 1) := by decide +kernel
theorem dX5_sunday_26 : decode cX5_sunday 26 = .ok (.istore_n 2, 1) := by decide +kernel
theorem dX5_sunday_27 : decode cX5_sunday 27 = .ok (.iload_n 2, 1) := by decide +kernel
theorem dX5_sunday_28 : decode cX5_sunday 28 = .ok (.bipush 6, 2) := by decide +kernel
theorem dX5_sunday_30 : decode cX5_sunday 30 = .ok (.if_icmp .ge 31, 3) := by decide +kernel
theorem dX5_sunday_33 : decode cX5_sunday 33 = .ok (.aload_n 0, 1) := by decide +kernel
theorem dX5_sunday_34 : decode cX5_sunday 34 = .ok (.getfield 19, 3) := by decide +kernel
theorem dX5_sunday_37 : decode cX5_sunday 37 = .ok (.iload_n 2, 1) := by decide +kernel
theorem dX5_sunday_38 : decode cX5_sunday 38 = .ok (.iload_n 1, 1) := by decide +kernel
theorem dX5_sunday_39 : decode cX5_sunday 39 = .ok (.ifCond .eq 7, 3) := by decide +kernel
theorem dX5_sunday_42 : decode cX5_sunday 42 = .ok (.iconst 0, 1) := by decide +kernel
theorem dX5_sunday_43 : decode cX5_sunday 43 = .ok (.goto 11, 3) := by decide +kernel
theorem dX5_sunday_46 : decode cX5_sunday 46 = .ok (.aload_n 0, 1) := by decide +kernel
theorem dX5_sunday_47 : decode cX5_sunday 47 = .ok (.getfield 19, 3) := by decide +kernel
theorem dX5_sunday_50 : decode cX5_sunday 50 = .ok (.iload_n 2, 1) := by decide +kernel
theorem dX5_sunday_51 : decode cX5_sunday 51 = .ok (.iaload, 1) := by decide +kernel
theorem dX5_sunday_52 : decode cX5_sunday 52 = .ok (.iconst 2, 1) := by decide +kernel
theorem dX5_sunday_53 : decode cX5_sunday 53 = .ok (.idiv, 1) := by decide +kernel
theorem dX5_sunday_54 : decode cX5_sunday 54 = .ok (.iastore, 1) := by decide +kernel
theorem dX5_sunday_55 : decode cX5_sunday 55 = .ok (.iinc 2 1, 3) := by decide +kernel
theorem dX5_sunday_58 : decode cX5_sunday 58 = .ok (.goto (-31), 3) := by decide +kernel
theorem dX5_sunday_61 : decode cX5_sunday 61 = .ok (.aload_n 0, 1) := by decide +kernel
theorem dX5_sunday_62 : decode cX5_sunday 62 = .ok (.getfield 19, 3) := by decide +kernel
theorem dX5_sunday_65 : decode cX5_sunday 65 = .ok (.bipush 8, 2) := by decide +kernel
theorem dX5_sunday_67 : decode cX5_sunday 67 = .ok (.iconst 0, 1) := by decide +kernel
theorem dX5_sunday_68 : decode cX5_sunday 68 = .ok (.iastore, 1) := by decide +kernel
theorem dX5_sunday_69 : decode cX5_sunday 69 = .ok (.aload_n 0, 1) := by decide +kernel
theorem dX5_sunday_70 : decode cX5_sunday 70 = .ok (.getfield 19, 3) := by decide +kernel
theorem dX5_sunday_73 : decode cX5_sunday 73 = .ok (.bipush 7, 2) := by decide +kernel
theorem dX5_sunday_75 : decode cX5_sunday 75 = .ok (.iconst 0, 1) := by decide +kernel
theorem dX5_sunday_76 : decode cX5_sunday 76 = .ok (.iastore, 1) := by decide +kernel
theorem dX5_sunday_77 : decode cX5_sunday 77 = .ok (.aload_n 0, 1) := by decide +kernel
theorem dX5_sunday_78 : decode cX5_sunday 78 = .ok (.getfield 19, 3) := by decide +kernel
theorem dX5_sunday_81 : decode cX5_sunday 81 = .ok (.bipush 9, 2) := by decide +kernel
theorem dX5_sunday_83 : decode cX5_sunday 83 = .ok (.dup2, 1) := by decide +kernel
theorem dX5_sunday_84 : decode cX5_sunday 84 = .ok (.iaload, 1) := by decide +kernel
theorem dX5_sunday_85 : decode cX5_sunday 85 = .ok (.iconst 1, 1) := by decide +kernel
theorem dX5_sunday_86 : decode cX5_sunday 86 = .ok (.iadd, 1) := by decide +kernel
theorem dX5_sunday_87 : decode cX5_sunday 87 = .ok (.iastore, 1) := by decide +kernel
theorem dX5_sunday_88 : decode cX5_sunday 88 = .ok (.aload_n 0, 1) := by decide +kernel
theorem dX5_sunday_89 : decode cX5_sunday 89 = .ok (.getfield 19, 3) := by decide +kernel
theorem dX5_sunday_92 : decode cX5_sunday 92 = .ok (.bipush 11, 2) := by decide +kernel
theorem dX5_sunday_94 : decode cX5_sunday 94 = .ok (.dup2, 1) := by decide +kernel
theorem dX5_sunday_95 : decode cX5_sunday 95 = .ok (.iaload, 1) := by decide +kernel
theorem dX5_sunday_96 : decode cX5_sunday 96 = .ok (.iload_n 1, 1) := by decide +kernel
theorem dX5_sunday_97 : decode cX5_sunday 97 = .ok (.ifCond .eq 7, 3) := by decide +kernel
theorem dX5_sunday_100 : decode cX5_sunday 100 = .ok (.iconst 1, 1) := by decide +kernel
theorem dX5_sunday_101 : decode cX5_sunday 101 = .ok (.goto 4, 3) := by decide +kernel
theorem dX5_sunday_104 : decode cX5_sunday 104 = .ok (.iconst 0, 1) := by decide +kernel
theorem dX5_sunday_105 : decode cX5_sunday 105 = .ok (.iadd, 1) := by decide +kernel
theorem dX5_sunday_106 : decode cX5_sunday 106 = .ok (.iastore, 1) := by decide +kernel
theorem dX5_sunday_107 : decode cX5_sunday 107 = .ok (.iload_n 1, 1) := by decide +kernel
theorem dX5_sunday_108 : decode cX5_sunday 108 = .ok (.ifCond .eq 7, 3) := by decide +kernel
theorem dX5_sunday_111 : decode cX5_sunday 111 = .ok (.iconst 1, 1) := by decide +kernel
theorem dX5_sunday_112 : decode cX5_sunday 112 = .ok (.goto 4, 3) := by decide +kernel
theorem dX5_sunday_115 : decode cX5_sunday 115 = .ok (.iconst 0, 1) := by decide +kernel
theorem dX5_sunday_116 : decode cX5_sunday 116 = .ok (.ireturn, 1) := by decide +kernel
theorem dX5_undo_0 : decode cX5_undo 0 = .ok (.aload_n 0, 1) := by decide +kernel
theorem dX5_undo_1 : decode cX5_undo 1 = .ok (.getfield 95, 3) := by decide +kernel
theorem dX5_undo_4 : decode cX5_undo 4 = .ok (.ifCond .ne 6, 3) := by decide +kernel
theorem dX5_undo_7 : decode cX5_undo 7 = .ok (.bipush (-4), 2) := by decide +kernel
theorem dX5_undo_9 : decode cX5_undo 9 = .ok (.ireturn, 1) := by decide +kernel
theorem dX5_undo_10 : decode cX5_undo 10 = .ok (.aload_n 0, 1) := by decide +kernel
theorem dX5_undo_11 : decode cX5_undo 11 = .ok (.dup, 1) := by decide +kernel
theorem dX5_undo_12 : decode cX5_undo 12 = .ok (.getfield 95, 3) := by decide +kernel
theorem dX5_undo_15 : decode cX5_undo 15 = .ok (.iconst 1, 1) := by decide +kernel
theorem dX5_undo_16 : decode cX5_undo 16 = .ok (.isub, 1) := by decide +kernel
theorem dX5_undo_17 : decode cX5_undo 17 = .ok (.putfield 95, 3) := by decide +kernel
theorem dX5_undo_20 : decode cX5_undo 20 = .ok (.iconst 0, 1) := by decide +kernel
theorem dX5_undo_21 : decode cX5_undo 21 = .ok (.istore_n 1, 1) := by decide +kernel
theorem dX5_undo_22 : decode cX5_undo 22 = .ok (.iload_n 1, 1) := by decide +kernel
theorem dX5_undo_23 : decode cX5_undo 23 = .ok (.bipush 12, 2) := by decide +kernel
theorem dX5_undo_25 : decode cX5_undo 25 = .ok (.if_icmp .ge 29, 3) := by decide +kernel
theorem dX5_undo_28 : decode cX5_undo 28 = .ok (.aload_n 0, 1) := by decide +kernel
theorem dX5_undo_29 : decode cX5_undo 29 = .ok (.getfield 19, 3) := by decide +kernel
theorem dX5_undo_32 : decode cX5_undo 32 = .ok (.iload_n 1, 1) := by decide +kernel
theorem dX5_undo_33 : decode cX5_undo 33 = .ok (.aload_n 0, 1) := by decide +kernel
theorem dX5_undo_34 : decode cX5_undo 34 = .ok (.getfield 22, 3) := by decide +kernel
theorem dX5_undo_37 : decode cX5_undo 37 = .ok (.bipush 12, 2) := by decide +kernel
theorem dX5_undo_39 : decode cX5_undo 39 = .ok (.aload_n 0, 1) := by decide +kernel
theorem dX5_undo_40 : decode cX5_undo 40 = .ok (.getfield 95, 3) := by decide +kernel
theorem dX5_undo_43 : decode cX5_undo 43 = .ok (.imul, 1) := by decide +kernel
theorem dX5_undo_44 : decode cX5_undo 44 = .ok (.iload_n 1, 1) := by decide +kernel
theorem dX5_undo_45 : decode cX5_undo 45 = .ok (.iadd, 1) := by decide +kernel
theorem dX5_undo_46 : decode cX5_undo 46 = .ok (.iaload, 1) := by decide +kernel
theorem dX5_undo_47 : decode cX5_undo 47 = .ok (.iastore, 1) := by decide +kernel
theorem dX5_undo_48 : decode cX5_undo 48 = .ok (.iinc 1 1, 3) := by decide +kernel
theorem dX5_undo_51 : decode cX5_undo 51 = .ok (.goto (-29), 3) := by decide +kernel
theorem dX5_undo_54 : decode cX5_undo 54 = .ok (.aload_n 0, 1) := by decide +kernel
theorem dX5_undo_55 : decode cX5_undo 55 = .ok (.getfield 95, 3) := by decide +kernel
theorem dX5_undo_58 : decode cX5_undo 58 = .ok (.ireturn, 1) := by decide +kernel
theorem dX5_keep_0 : decode cX5_keep 0 = .ok (.iload_n 1, 1) := by decide +kernel
theorem dX5_keep_1 : decode cX5_keep 1 = .ok (.iconst 0, 1) := by decide +kernel
theorem dX5_keep_2 : decode cX5_keep 2 = .ok (.iconst 1, 1) := by decide +kernel
theorem dX5_keep_3 : decode cX5_keep 3 = .ok (.invokestatic 44, 3) := by decide +kernel
theorem dX5_keep_6 : decode cX5_keep 6 = .ok (.ifCond .ne 6, 3) := by decide +kernel
theorem dX5_keep_9 : decode cX5_keep 9 = .ok (.bipush (-2), 2) := by decide +kernel
theorem dX5_keep_11 : decode cX5_keep 11 = .ok (.ireturn, 1) := by decide +kernel
theorem dX5_keep_12 : decode cX5_keep 12 = .ok (.iconst 0, 1) := by decide +kernel
theorem dX5_keep_13 : decode cX5_keep 13 = .ok (.istore_n 2, 1) := by decide +kernel
theorem dX5_keep_14 : decode cX5_keep 14 = .ok (.iload_n 2, 1) := by decide +kernel
theorem dX5_keep_15 : decode cX5_keep 15 = .ok (.bipush 12, 2) := by decide +kernel
theorem dX5_keep_17 : decode cX5_keep 17 = .ok (.if_icmp .ge 26, 3) := by decide +kernel
theorem dX5_keep_20 : decode cX5_keep 20 = .ok (.aload_n 0, 1) := by decide +kernel
theorem dX5_keep_21 : decode cX5_keep 21 = .ok (.getfield 25, 3) := by decide +kernel
theorem dX5_keep_24 : decode cX5_keep 24 = .ok (.bipush 12, 2) := by decide +kernel
theorem dX5_keep_26 : decode cX5_keep 26 = .ok (.iload_n 1, 1) := by decide +kernel
theorem dX5_keep_27 : decode cX5_keep 27 = .ok (.imul, 1) := by decide +kernel
theorem dX5_keep_28 : decode cX5_keep 28 = .ok (.iload_n 2, 1) := by decide +kernel
theorem dX5_keep_29 : decode cX5_keep 29 = .ok (.iadd, 1) := by decide +kernel
theorem dX5_keep_30 : decode cX5_keep 30 = .ok (.aload_n 0, 1) := by decide +kernel
theorem dX5_keep_31 : decode cX5_keep 31 = .ok (.getfield 19, 3) := by decide +kernel
theorem dX5_keep_34 : decode cX5_keep 34 = .ok (.iload_n 2, 1) := by decide +kernel
theorem dX5_keep_35 : decode cX5_keep 35 = .ok (.iaload, 1) := by decide +kernel
theorem dX5_keep_36 : decode cX5_keep 36 = .ok (.iastore, 1) := by decide +kernel
theorem dX5_keep_37 : decode cX5_keep 37 = .ok (.iinc 2 1, 3) := by decide +kernel
theorem dX5_keep_40 : decode cX5_keep 40 = .ok (.goto (-26), 3) := by decide +kernel
theorem dX5_keep_43 : decode cX5_keep 43 = .ok (.aload_n 0, 1) := by decide +kernel
theorem dX5_keep_44 : decode cX5_keep 44 = .ok (.getfield 28, 3) := by decide +kernel
theorem dX5_keep_47 : decode cX5_keep 47 = .ok (.iload_n 1, 1) := by decide +kernel
theorem dX5_keep_48 : decode cX5_keep 48 = .ok (.iconst 1, 1) := by decide +kernel
theorem dX5_keep_49 : decode cX5_keep 49 = .ok (.bastore, 1) := by decide +kernel
theorem dX5_keep_50 : decode cX5_keep 50 = .ok (.aload_n 0, 1) := by decide +kernel
theorem dX5_keep_51 : decode cX5_keep 51 = .ok (.getfield 19, 3) := by decide +kernel
theorem dX5_keep_54 : decode cX5_keep 54 = .ok (.bipush 9, 2) := by decide +kernel
theorem dX5_keep_56 : decode cX5_keep 56 = .ok (.iaload, 1) := by decide +kernel
theorem dX5_keep_57 : decode cX5_keep 57 = .ok (.ireturn, 1) := by decide +kernel
theorem dX5_back_0 : decode cX5_back 0 = .ok (.iload_n 1, 1) := by decide +kernel
theorem dX5_back_1 : decode cX5_back 1 = .ok (.iconst 0, 1) := by decide +kernel
theorem dX5_back_2 : decode cX5_back 2 = .ok (.iconst 1, 1) := by decide +kernel
theorem dX5_back_3 : decode cX5_back 3 = .ok (.invokestatic 44, 3) := by decide +kernel
theorem dX5_back_6 : decode cX5_back 6 = .ok (.ifCond .ne 6, 3) := by decide +kernel
theorem dX5_back_9 : decode cX5_back 9 = .ok (.bipush (-2), 2) := by decide +kernel
theorem dX5_back_11 : decode cX5_back 11 = .ok (.ireturn, 1) := by decide +kernel
theorem dX5_back_12 : decode cX5_back 12 = .ok (.aload_n 0, 1) := by decide +kernel
theorem dX5_back_13 : decode cX5_back 13 = .ok (.getfield 28, 3) := by decide +kernel
theorem dX5_back_16 : decode cX5_back 16 = .ok (.iload_n 1, 1) := by decide +kernel
theorem dX5_back_17 : decode cX5_back 17 = .ok (.baload, 1) := by decide +kernel
theorem dX5_back_18 : decode cX5_back 18 = .ok (.ifCond .ne 6, 3) := by decide +kernel
theorem dX5_back_21 : decode cX5_back 21 = .ok (.bipush (-4), 2) := by decide +kernel
theorem dX5_back_23 : decode cX5_back 23 = .ok (.ireturn, 1) := by decide +kernel
theorem dX5_back_24 : decode cX5_back 24 = .ok (.iconst 0, 1) := by decide +kernel
theorem dX5_back_25 : decode cX5_back 25 = .ok (.istore_n 2, 1) := by decide +kernel
theorem dX5_back_26 : decode cX5_back 26 = .ok (.iload_n 2, 1) := by decide +kernel
theorem dX5_back_27 : decode cX5_back 27 = .ok (.bipush 12, 2) := by decide +kernel
theorem dX5_back_29 : decode cX5_back 29 = .ok (.if_icmp .ge 26, 3) := by decide +kernel
theorem dX5_back_32 : decode cX5_back 32 = .ok (.aload_n 0, 1) := by decide +kernel
theorem dX5_back_33 : decode cX5_back 33 = .ok (.getfield 19, 3) := by decide +kernel
theorem dX5_back_36 : decode cX5_back 36 = .ok (.iload_n 2, 1) := by decide +kernel
theorem dX5_back_37 : decode cX5_back 37 = .ok (.aload_n 0, 1) := by decide +kernel
theorem dX5_back_38 : decode cX5_back 38 = .ok (.getfield 25, 3) := by decide +kernel
theorem dX5_back_41 : decode cX5_back 41 = .ok (.bipush 12, 2) := by decide +kernel
theorem dX5_back_43 : decode cX5_back 43 = .ok (.iload_n 1, 1) := by decide +kernel
theorem dX5_back_44 : decode cX5_back 44 = .ok (.imul, 1) := by decide +kernel
theorem dX5_back_45 : decode cX5_back 45 = .ok (.iload_n 2, 1) := by decide +kernel
theorem dX5_back_46 : decode cX5_back 46 = .ok (.iadd, 1) := by decide +kernel
theorem dX5_back_47 : decode cX5_back 47 = .ok (.iaload, 1) := by decide +kernel
theorem dX5_back_48 : decode cX5_back 48 = .ok (.iastore, 1) := by decide +kernel
theorem dX5_back_49 : decode cX5_back 49 = .ok (.iinc 2 1, 3) := by decide +kernel
theorem dX5_back_52 : decode cX5_back 52 = .ok (.goto (-26), 3) := by decide +kernel
theorem dX5_back_55 : decode cX5_back 55 = .ok (.aload_n 0, 1) := by decide +kernel
theorem dX5_back_56 : decode cX5_back 56 = .ok (.iconst 0, 1) := by decide +kernel
theorem dX5_back_57 : decode cX5_back 57 = .ok (.putfield 95, 3) := by decide +kernel
theorem dX5_back_60 : decode cX5_back 60 = .ok (.aload_n 0, 1) := by decide +kernel
theorem dX5_back_61 : decode cX5_back 61 = .ok (.getfield 19, 3) := by decide +kernel
theorem dX5_back_64 : decode cX5_back 64 = .ok (.bipush 9, 2) := by decide +kernel
theorem dX5_back_66 : decode cX5_back 66 = .ok (.iaload, 1) := by decide +kernel
theorem dX5_back_67 : decode cX5_back 67 = .ok (.ireturn, 1) := by decide +kernel
theorem dX5_stops_0 : decode cX5_stops 0 = .ok (.aload_n 0, 1) := by decide +kernel
theorem dX5_stops_1 : decode cX5_stops 1 = .ok (.invokevirtual 119, 3) := by decide +kernel
theorem dX5_stops_4 : decode cX5_stops 4 = .ok (.istore_n 1, 1) := by decide +kernel
theorem dX5_stops_5 : decode cX5_stops 5 = .ok (.iconst 0, 1) := by decide +kernel
theorem dX5_stops_6 : decode cX5_stops 6 = .ok (.istore_n 2, 1) := by decide +kernel
theorem dX5_stops_7 : decode cX5_stops 7 = .ok (.iconst 0, 1) := by decide +kernel
theorem dX5_stops_8 : decode cX5_stops 8 = .ok (.istore_n 3, 1) := by decide +kernel
theorem dX5_stops_9 : decode cX5_stops 9 = .ok (.iload_n 3, 1) := by decide +kernel
theorem dX5_stops_10 : decode cX5_stops 10 = .ok (.aload_n 0, 1) := by decide +kernel
theorem dX5_stops_11 : decode cX5_stops 11 = .ok (.getfield 13, 3) := by decide +kernel
theorem dX5_stops_14 : decode cX5_stops 14 = .ok (.iconst 0, 1) := by decide +kernel
theorem dX5_stops_15 : decode cX5_stops 15 = .ok (.iaload, 1) := by decide +kernel
theorem dX5_stops_16 : decode cX5_stops 16 = .ok (.if_icmp .ge 55, 3) := by decide +kernel
theorem dX5_stops_19 : decode cX5_stops 19 = .ok (.aload_n 0, 1) := by decide +kernel
theorem dX5_stops_20 : decode cX5_stops 20 = .ok (.iload_n 1, 1) := by decide +kernel
theorem dX5_stops_21 : decode cX5_stops 21 = .ok (.aload_n 0, 1) := by decide +kernel
theorem dX5_stops_22 : decode cX5_stops 22 = .ok (.invokevirtual 122, 3) := by decide +kernel
theorem dX5_stops_25 : decode cX5_stops 25 = .ok (.invokevirtual 125, 3) := by decide +kernel
theorem dX5_stops_28 : decode cX5_stops 28 = .ok (.ifCond .eq 5, 3) := by decide +kernel
theorem dX5_stops_31 : decode cX5_stops 31 = .ok (.iload_n 2, 1) := by decide +kernel
theorem dX5_stops_32 : decode cX5_stops 32 = .ok (.ireturn, 1) := by decide +kernel
theorem dX5_stops_33 : decode cX5_stops 33 = .ok (.aload_n 0, 1) := by decide +kernel
theorem dX5_stops_34 : decode cX5_stops 34 = .ok (.getfield 19, 3) := by decide +kernel
theorem dX5_stops_37 : decode cX5_stops 37 = .ok (.bipush 7, 2) := by decide +kernel
theorem dX5_stops_39 : decode cX5_stops 39 = .ok (.iaload, 1) := by decide +kernel
theorem dX5_stops_40 : decode cX5_stops 40 = .ok (.iload_n 3, 1) := by decide +kernel
theorem dX5_stops_41 : decode cX5_stops 41 = .ok (.ishr, 1) := by decide +kernel
theorem dX5_stops_42 : decode cX5_stops 42 = .ok (.iconst 1, 1) := by decide +kernel
theorem dX5_stops_43 : decode cX5_stops 43 = .ok (.iand, 1) := by decide +kernel
theorem dX5_stops_44 : decode cX5_stops 44 = .ok (.ifCond .ne 21, 3) := by decide +kernel
theorem dX5_stops_47 : decode cX5_stops 47 = .ok (.iload_n 1, 1) := by decide +kernel
theorem dX5_stops_48 : decode cX5_stops 48 = .ok (.aload_n 0, 1) := by decide +kernel
theorem dX5_stops_49 : decode cX5_stops 49 = .ok (.iload_n 3, 1) := by decide +kernel
theorem dX5_stops_50 : decode cX5_stops 50 = .ok (.aload_n 0, 1) := by decide +kernel
theorem dX5_stops_51 : decode cX5_stops 51 = .ok (.getfield 19, 3) := by decide +kernel
theorem dX5_stops_54 : decode cX5_stops 54 = .ok (.bipush 6, 2) := by decide +kernel
theorem dX5_stops_56 : decode cX5_stops 56 = .ok (.iaload, 1) := by decide +kernel
theorem dX5_stops_57 : decode cX5_stops 57 = .ok (.invokevirtual 112, 3) := by decide +kernel
theorem dX5_stops_60 : decode cX5_stops 60 = .ok (.iadd, 1) := by decide +kernel
theorem dX5_stops_61 : decode cX5_stops 61 = .ok (.istore_n 1, 1) := by decide +kernel
theorem dX5_stops_62 : decode cX5_stops 62 = .ok (.iinc 2 1, 3) := by decide +kernel
theorem dX5_stops_65 : decode cX5_stops 65 = .ok (.iinc 3 1, 3) := by decide +kernel
theorem dX5_stops_68 : decode cX5_stops 68 = .ok (.goto (-59), 3) := by decide +kernel
theorem dX5_stops_71 : decode cX5_stops 71 = .ok (.aload_n 0, 1) := by decide +kernel
theorem dX5_stops_72 : decode cX5_stops 72 = .ok (.iload_n 1, 1) := by decide +kernel
theorem dX5_stops_73 : decode cX5_stops 73 = .ok (.aload_n 0, 1) := by decide +kernel
theorem dX5_stops_74 : decode cX5_stops 74 = .ok (.invokevirtual 122, 3) := by decide +kernel
theorem dX5_stops_77 : decode cX5_stops 77 = .ok (.invokevirtual 125, 3) := by decide +kernel
theorem dX5_stops_80 : decode cX5_stops 80 = .ok (.ifCond .eq 7, 3) := by decide +kernel
theorem dX5_stops_83 : decode cX5_stops 83 = .ok (.iload_n 2, 1) := by decide +kernel
theorem dX5_stops_84 : decode cX5_stops 84 = .ok (.goto 4, 3) := by decide +kernel
theorem dX5_stops_87 : decode cX5_stops 87 = .ok (.iconst (-1), 1) := by decide +kernel
theorem dX5_stops_88 : decode cX5_stops 88 = .ok (.ireturn, 1) := by decide +kernel
theorem dX5_minutesOf_0 : decode cX5_minutesOf 0 = .ok (.iconst 0, 1) := by decide +kernel
theorem dX5_minutesOf_1 : decode cX5_minutesOf 1 = .ok (.istore_n 2, 1) := by decide +kernel
theorem dX5_minutesOf_2 : decode cX5_minutesOf 2 = .ok (.iconst 0, 1) := by decide +kernel
theorem dX5_minutesOf_3 : decode cX5_minutesOf 3 = .ok (.istore_n 3, 1) := by decide +kernel
theorem dX5_minutesOf_4 : decode cX5_minutesOf 4 = .ok (.iload_n 3, 1) := by decide +kernel
theorem dX5_minutesOf_5 : decode cX5_minutesOf 5 = .ok (.aload_n 0, 1) := by decide +kernel
theorem dX5_minutesOf_6 : decode cX5_minutesOf 6 = .ok (.getfield 13, 3) := by decide +kernel
theorem dX5_minutesOf_9 : decode cX5_minutesOf 9 = .ok (.iconst 0, 1) := by decide +kernel
theorem dX5_minutesOf_10 : decode cX5_minutesOf 10 = .ok (.iaload, 1) := by decide +kernel
theorem dX5_minutesOf_11 : decode cX5_minutesOf 11 = .ok (.if_icmp .ge 34, 3) := by decide +kernel
theorem dX5_minutesOf_14 : decode cX5_minutesOf 14 = .ok (.iload_n 2, 1) := by decide +kernel
theorem dX5_minutesOf_15 : decode cX5_minutesOf 15 = .ok (.iload_n 1, 1) := by decide +kernel
theorem dX5_minutesOf_16 : decode cX5_minutesOf 16 = .ok (.iload_n 3, 1) := by decide +kernel
theorem dX5_minutesOf_17 : decode cX5_minutesOf 17 = .ok (.ishr, 1) := by decide +kernel
theorem dX5_minutesOf_18 : decode cX5_minutesOf 18 = .ok (.iconst 1, 1) := by decide +kernel
theorem dX5_minutesOf_19 : decode cX5_minutesOf 19 = .ok (.iand, 1) := by decide +kernel
theorem dX5_minutesOf_20 : decode cX5_minutesOf 20 = .ok (.iconst 1, 1) := by decide +kernel
theorem dX5_minutesOf_21 : decode cX5_minutesOf 21 = .ok (.if_icmp .ne 15, 3) := by decide +kernel
theorem dX5_minutesOf_24 : decode cX5_minutesOf 24 = .ok (.aload_n 0, 1) := by decide +kernel
theorem dX5_minutesOf_25 : decode cX5_minutesOf 25 = .ok (.getfield 13, 3) := by decide +kernel
theorem dX5_minutesOf_28 : decode cX5_minutesOf 28 = .ok (.bipush 21, 2) := by decide +kernel
theorem dX5_minutesOf_30 : decode cX5_minutesOf 30 = .ok (.iload_n 3, 1) := by decide +kernel
theorem dX5_minutesOf_31 : decode cX5_minutesOf 31 = .ok (.iadd, 1) := by decide +kernel
theorem dX5_minutesOf_32 : decode cX5_minutesOf 32 = .ok (.iaload, 1) := by decide +kernel
theorem dX5_minutesOf_33 : decode cX5_minutesOf 33 = .ok (.goto 4, 3) := by decide +kernel
theorem dX5_minutesOf_36 : decode cX5_minutesOf 36 = .ok (.iconst 0, 1) := by decide +kernel
theorem dX5_minutesOf_37 : decode cX5_minutesOf 37 = .ok (.iadd, 1) := by decide +kernel
theorem dX5_minutesOf_38 : decode cX5_minutesOf 38 = .ok (.istore_n 2, 1) := by decide +kernel
theorem dX5_minutesOf_39 : decode cX5_minutesOf 39 = .ok (.iinc 3 1, 3) := by decide +kernel
theorem dX5_minutesOf_42 : decode cX5_minutesOf 42 = .ok (.goto (-38), 3) := by decide +kernel
theorem dX5_minutesOf_45 : decode cX5_minutesOf 45 = .ok (.iload_n 2, 1) := by decide +kernel
theorem dX5_minutesOf_46 : decode cX5_minutesOf 46 = .ok (.ireturn, 1) := by decide +kernel
theorem dX5_ones_0 : decode cX5_ones 0 = .ok (.iconst 0, 1) := by decide +kernel
theorem dX5_ones_1 : decode cX5_ones 1 = .ok (.istore_n 1, 1) := by decide +kernel
theorem dX5_ones_2 : decode cX5_ones 2 = .ok (.iconst 0, 1) := by decide +kernel
theorem dX5_ones_3 : decode cX5_ones 3 = .ok (.istore_n 2, 1) := by decide +kernel
theorem dX5_ones_4 : decode cX5_ones 4 = .ok (.iload_n 2, 1) := by decide +kernel
theorem dX5_ones_5 : decode cX5_ones 5 = .ok (.bipush 8, 2) := by decide +kernel
theorem dX5_ones_7 : decode cX5_ones 7 = .ok (.if_icmp .ge 17, 3) := by decide +kernel
theorem dX5_ones_10 : decode cX5_ones 10 = .ok (.iload_n 1, 1) := by decide +kernel
theorem dX5_ones_11 : decode cX5_ones 11 = .ok (.iload_n 0, 1) := by decide +kernel
theorem dX5_ones_12 : decode cX5_ones 12 = .ok (.iload_n 2, 1) := by decide +kernel
theorem dX5_ones_13 : decode cX5_ones 13 = .ok (.ishr, 1) := by decide +kernel
theorem dX5_ones_14 : decode cX5_ones 14 = .ok (.iconst 1, 1) := by decide +kernel
theorem dX5_ones_15 : decode cX5_ones 15 = .ok (.iand, 1) := by decide +kernel
theorem dX5_ones_16 : decode cX5_ones 16 = .ok (.iadd, 1) := by decide +kernel
theorem dX5_ones_17 : decode cX5_ones 17 = .ok (.istore_n 1, 1) := by decide +kernel
theorem dX5_ones_18 : decode cX5_ones 18 = .ok (.iinc 2 1, 3) := by decide +kernel
theorem dX5_ones_21 : decode cX5_ones 21 = .ok (.goto (-17), 3) := by decide +kernel
theorem dX5_ones_24 : decode cX5_ones 24 = .ok (.iload_n 1, 1) := by decide +kernel
theorem dX5_ones_25 : decode cX5_ones 25 = .ok (.ireturn, 1) := by decide +kernel
theorem dX5_would_0 : decode cX5_would 0 = .ok (.iload_n 1, 1) := by decide +kernel
theorem dX5_would_1 : decode cX5_would 1 = .ok (.aload_n 0, 1) := by decide +kernel
theorem dX5_would_2 : decode cX5_would 2 = .ok (.getfield 19, 3) := by decide +kernel
theorem dX5_would_5 : decode cX5_would 5 = .ok (.bipush 7, 2) := by decide +kernel
theorem dX5_would_7 : decode cX5_would 7 = .ok (.iaload, 1) := by decide +kernel
theorem dX5_would_8 : decode cX5_would 8 = .ok (.iand, 1) := by decide +kernel
theorem dX5_would_9 : decode cX5_would 9 = .ok (.ifCond .ne 32, 3) := by decide +kernel
theorem dX5_would_12 : decode cX5_would 12 = .ok (.aload_n 0, 1) := by decide +kernel
theorem dX5_would_13 : decode cX5_would 13 = .ok (.aload_n 0, 1) := by decide +kernel
theorem dX5_would_14 : decode cX5_would 14 = .ok (.invokevirtual 119, 3) := by decide +kernel
theorem dX5_would_17 : decode cX5_would 17 = .ok (.aload_n 0, 1) := by decide +kernel
theorem dX5_would_18 : decode cX5_would 18 = .ok (.iload_n 1, 1) := by decide +kernel
theorem dX5_would_19 : decode cX5_would 19 = .ok (.aload_n 0, 1) := by decide +kernel
theorem dX5_would_20 : decode cX5_would 20 = .ok (.getfield 19, 3) := by decide +kernel
theorem dX5_would_23 : decode cX5_would 23 = .ok (.bipush 6, 2) := by decide +kernel
theorem dX5_would_25 : decode cX5_would 25 = .ok (.iaload, 1) := by decide +kernel
theorem dX5_would_26 : decode cX5_would 26 = .ok (.invokevirtual 116, 3) := by decide +kernel
theorem dX5_would_29 : decode cX5_would 29 = .ok (.iadd, 1) := by decide +kernel
theorem dX5_would_30 : decode cX5_would 30 = .ok (.iload_n 2, 1) := by decide +kernel
theorem dX5_would_31 : decode cX5_would 31 = .ok (.invokevirtual 125, 3) := by decide +kernel
theorem dX5_would_34 : decode cX5_would 34 = .ok (.ifCond .eq 7, 3) := by decide +kernel
theorem dX5_would_37 : decode cX5_would 37 = .ok (.iconst 1, 1) := by decide +kernel
theorem dX5_would_38 : decode cX5_would 38 = .ok (.goto 4, 3) := by decide +kernel
theorem dX5_would_41 : decode cX5_would 41 = .ok (.iconst 0, 1) := by decide +kernel
theorem dX5_would_42 : decode cX5_would 42 = .ok (.ireturn, 1) := by decide +kernel
theorem dX5_soonest_0 : decode cX5_soonest 0 = .ok (.iload_n 1, 1) := by decide +kernel
theorem dX5_soonest_1 : decode cX5_soonest 1 = .ok (.iconst 0, 1) := by decide +kernel
theorem dX5_soonest_2 : decode cX5_soonest 2 = .ok (.iconst 1, 1) := by decide +kernel
theorem dX5_soonest_3 : decode cX5_soonest 3 = .ok (.invokestatic 44, 3) := by decide +kernel
theorem dX5_soonest_6 : decode cX5_soonest 6 = .ok (.ifCond .ne 6, 3) := by decide +kernel
theorem dX5_soonest_9 : decode cX5_soonest 9 = .ok (.bipush (-3), 2) := by decide +kernel
theorem dX5_soonest_11 : decode cX5_soonest 11 = .ok (.ireturn, 1) := by decide +kernel
theorem dX5_soonest_12 : decode cX5_soonest 12 = .ok (.iconst (-1), 1) := by decide +kernel
theorem dX5_soonest_13 : decode cX5_soonest 13 = .ok (.istore_n 2, 1) := by decide +kernel
theorem dX5_soonest_14 : decode cX5_soonest 14 = .ok (.aload_n 0, 1) := by decide +kernel
theorem dX5_soonest_15 : decode cX5_soonest 15 = .ok (.invokevirtual 122, 3) := by decide +kernel
theorem dX5_soonest_18 : decode cX5_soonest 18 = .ok (.istore_n 3, 1) := by decide +kernel
theorem dX5_soonest_19 : decode cX5_soonest 19 = .ok (.iconst 0, 1) := by decide +kernel
theorem dX5_soonest_20 : decode cX5_soonest 20 = .ok (.istore 4, 2) := by decide +kernel
theorem dX5_soonest_22 : decode cX5_soonest 22 = .ok (.iload 4, 2) := by decide +kernel
theorem dX5_soonest_24 : decode cX5_soonest 24 = .ok (.iconst 1, 1) := by decide +kernel
theorem dX5_soonest_25 : decode cX5_soonest 25 = .ok (.aload_n 0, 1) := by decide +kernel
theorem dX5_soonest_26 : decode cX5_soonest 26 = .ok (.getfield 13, 3) := by decide +kernel
theorem dX5_soonest_29 : decode cX5_soonest 29 = .ok (.iconst 0, 1) := by decide +kernel
theorem dX5_soonest_30 : decode cX5_soonest 30 = .ok (.iaload, 1) := by decide +kernel
theorem dX5_soonest_31 : decode cX5_soonest 31 = .ok (.ishl, 1) := by decide +kernel
theorem dX5_soonest_32 : decode cX5_soonest 32 = .ok (.if_icmp .ge 71, 3) := by decide +kernel
theorem dX5_soonest_35 : decode cX5_soonest 35 = .ok (.aload_n 0, 1) := by decide +kernel
theorem dX5_soonest_36 : decode cX5_soonest 36 = .ok (.iload 4, 2) := by decide +kernel
theorem dX5_soonest_38 : decode cX5_soonest 38 = .ok (.iload_n 3, 1) := by decide +kernel
theorem dX5_soonest_39 : decode cX5_soonest 39 = .ok (.invokevirtual 138, 3) := by decide +kernel
theorem dX5_soonest_42 : decode cX5_soonest 42 = .ok (.ifCond .eq 55, 3) := by decide +kernel
theorem dX5_soonest_45 : decode cX5_soonest 45 = .ok (.iload_n 2, 1) := by decide +kernel
theorem dX5_soonest_46 : decode cX5_soonest 46 = .ok (.iconst (-1), 1) := by decide +kernel
theorem dX5_soonest_47 : decode cX5_soonest 47 = .ok (.if_icmp .ne 7, 3) := by decide +kernel
theorem dX5_soonest_50 : decode cX5_soonest 50 = .ok (.iconst (-1), 1) := by decide +kernel
theorem dX5_soonest_51 : decode cX5_soonest 51 = .ok (.goto 15, 3) := by decide +kernel
theorem dX5_soonest_54 : decode cX5_soonest 54 = .ok (.aload_n 0, 1) := by decide +kernel
theorem dX5_soonest_55 : decode cX5_soonest 55 = .ok (.iload 4, 2) := by decide +kernel
theorem dX5_soonest_57 : decode cX5_soonest 57 = .ok (.invokevirtual 141, 3) := by decide +kernel
theorem dX5_soonest_60 : decode cX5_soonest 60 = .ok (.aload_n 0, 1) := by decide +kernel
theorem dX5_soonest_61 : decode cX5_soonest 61 = .ok (.iload_n 2, 1) := by decide +kernel
theorem dX5_soonest_62 : decode cX5_soonest 62 = .ok (.invokevirtual 141, 3) := by decide +kernel
theorem dX5_soonest_65 : decode cX5_soonest 65 = .ok (.isub, 1) := by decide +kernel
theorem dX5_soonest_66 : decode cX5_soonest 66 = .ok (.istore 5, 2) := by decide +kernel
theorem dX5_soonest_68 : decode cX5_soonest 68 = .ok (.iload 5, 2) := by decide +kernel
theorem dX5_soonest_70 : decode cX5_soonest 70 = .ok (.ifCond .lt 20, 3) := by decide +kernel
theorem dX5_soonest_73 : decode cX5_soonest 73 = .ok (.iload 5, 2) := by decide +kernel
theorem dX5_soonest_75 : decode cX5_soonest 75 = .ok (.ifCond .ne 20, 3) := by decide +kernel
theorem dX5_soonest_78 : decode cX5_soonest 78 = .ok (.iload 4, 2) := by decide +kernel
theorem dX5_soonest_80 : decode cX5_soonest 80 = .ok (.invokestatic 144, 3) := by decide +kernel
theorem dX5_soonest_83 : decode cX5_soonest 83 = .ok (.iload_n 2, 1) := by decide +kernel
theorem dX5_soonest_84 : decode cX5_soonest 84 = .ok (.invokestatic 144, 3) := by decide +kernel
theorem dX5_soonest_87 : decode cX5_soonest 87 = .ok (.if_icmp .ge 8, 3) := by decide +kernel
theorem dX5_soonest_90 : decode cX5_soonest 90 = .ok (.iload 4, 2) := by decide +kernel
theorem dX5_soonest_92 : decode cX5_soonest 92 = .ok (.goto 4, 3) := by decide +kernel
theorem dX5_soonest_95 : decode cX5_soonest 95 = .ok (.iload_n 2, 1) := by decide +kernel
theorem dX5_soonest_96 : decode cX5_soonest 96 = .ok (.istore_n 2, 1) := by decide +kernel
theorem dX5_soonest_97 : decode cX5_soonest 97 = .ok (.iinc 4 1, 3) := by decide +kernel
theorem dX5_soonest_100 : decode cX5_soonest 100 = .ok (.goto (-78), 3) := by decide +kernel
theorem dX5_soonest_103 : decode cX5_soonest 103 = .ok (.iload_n 1, 1) := by decide +kernel
theorem dX5_soonest_104 : decode cX5_soonest 104 = .ok (.ifCond .eq 8, 3) := by decide +kernel
theorem dX5_soonest_107 : decode cX5_soonest 107 = .ok (.iload_n 2, 1) := by decide +kernel
theorem dX5_soonest_108 : decode cX5_soonest 108 = .ok (.iconst (-1), 1) := by decide +kernel
theorem dX5_soonest_109 : decode cX5_soonest 109 = .ok (.if_icmp .ne 7, 3) := by decide +kernel
theorem dX5_soonest_112 : decode cX5_soonest 112 = .ok (.iload_n 2, 1) := by decide +kernel
theorem dX5_soonest_113 : decode cX5_soonest 113 = .ok (.goto 8, 3) := by decide +kernel
theorem dX5_soonest_116 : decode cX5_soonest 116 = .ok (.aload_n 0, 1) := by decide +kernel
theorem dX5_soonest_117 : decode cX5_soonest 117 = .ok (.iload_n 2, 1) := by decide +kernel
theorem dX5_soonest_118 : decode cX5_soonest 118 = .ok (.invokevirtual 141, 3) := by decide +kernel
theorem dX5_soonest_121 : decode cX5_soonest 121 = .ok (.ireturn, 1) := by decide +kernel
theorem dX5_never_0 : decode cX5_never 0 = .ok (.iload_n 1, 1) := by decide +kernel
theorem dX5_never_1 : decode cX5_never 1 = .ok (.iconst 0, 1) := by decide +kernel
theorem dX5_never_2 : decode cX5_never 2 = .ok (.bipush 99, 2) := by decide +kernel
theorem dX5_never_4 : decode cX5_never 4 = .ok (.invokestatic 44, 3) := by decide +kernel
theorem dX5_never_7 : decode cX5_never 7 = .ok (.ifCond .ne 6, 3) := by decide +kernel
theorem dX5_never_10 : decode cX5_never 10 = .ok (.bipush (-3), 2) := by decide +kernel
theorem dX5_never_12 : decode cX5_never 12 = .ok (.ireturn, 1) := by decide +kernel
theorem dX5_never_13 : decode cX5_never 13 = .ok (.iconst 0, 1) := by decide +kernel
theorem dX5_never_14 : decode cX5_never 14 = .ok (.istore_n 2, 1) := by decide +kernel
theorem dX5_never_15 : decode cX5_never 15 = .ok (.iconst 0, 1) := by decide +kernel
theorem dX5_never_16 : decode cX5_never 16 = .ok (.istore_n 3, 1) := by decide +kernel
theorem dX5_never_17 : decode cX5_never 17 = .ok (.iload_n 3, 1) := by decide +kernel
theorem dX5_never_18 : decode cX5_never 18 = .ok (.iconst 1, 1) := by decide +kernel
theorem dX5_never_19 : decode cX5_never 19 = .ok (.aload_n 0, 1) := by decide +kernel
theorem dX5_never_20 : decode cX5_never 20 = .ok (.getfield 13, 3) := by decide +kernel
theorem dX5_never_23 : decode cX5_never 23 = .ok (.iconst 0, 1) := by decide +kernel
theorem dX5_never_24 : decode cX5_never 24 = .ok (.iaload, 1) := by decide +kernel
theorem dX5_never_25 : decode cX5_never 25 = .ok (.ishl, 1) := by decide +kernel
theorem dX5_never_26 : decode cX5_never 26 = .ok (.if_icmp .ge 28, 3) := by decide +kernel
theorem dX5_never_29 : decode cX5_never 29 = .ok (.iload_n 2, 1) := by decide +kernel
theorem dX5_never_30 : decode cX5_never 30 = .ok (.ifCond .ne 12, 3) := by decide +kernel
theorem dX5_never_33 : decode cX5_never 33 = .ok (.aload_n 0, 1) := by decide +kernel
theorem dX5_never_34 : decode cX5_never 34 = .ok (.iload_n 3, 1) := by decide +kernel
theorem dX5_never_35 : decode cX5_never 35 = .ok (.iload_n 1, 1) := by decide +kernel
theorem dX5_never_36 : decode cX5_never 36 = .ok (.invokevirtual 138, 3) := by decide +kernel
theorem dX5_never_39 : decode cX5_never 39 = .ok (.ifCond .eq 7, 3) := by decide +kernel
theorem dX5_never_42 : decode cX5_never 42 = .ok (.iconst 1, 1) := by decide +kernel
theorem dX5_never_43 : decode cX5_never 43 = .ok (.goto 4, 3) := by decide +kernel
theorem dX5_never_46 : decode cX5_never 46 = .ok (.iconst 0, 1) := by decide +kernel
theorem dX5_never_47 : decode cX5_never 47 = .ok (.istore_n 2, 1) := by decide +kernel
theorem dX5_never_48 : decode cX5_never 48 = .ok (.iinc 3 1, 3) := by decide +kernel
theorem dX5_never_51 : decode cX5_never 51 = .ok (.goto (-34), 3) := by decide +kernel
theorem dX5_never_54 : decode cX5_never 54 = .ok (.iload_n 2, 1) := by decide +kernel
theorem dX5_never_55 : decode cX5_never 55 = .ok (.ifCond .eq 7, 3) := by decide +kernel
theorem dX5_never_58 : decode cX5_never 58 = .ok (.iconst 0, 1) := by decide +kernel
theorem dX5_never_59 : decode cX5_never 59 = .ok (.goto 4, 3) := by decide +kernel
theorem dX5_never_62 : decode cX5_never 62 = .ok (.iconst 1, 1) := by decide +kernel
theorem dX5_never_63 : decode cX5_never 63 = .ok (.ireturn, 1) := by decide +kernel
theorem dX5_seen_0 : decode cX5_seen 0 = .ok (.aload_n 0, 1) := by decide +kernel
theorem dX5_seen_1 : decode cX5_seen 1 = .ok (.iload_n 1, 1) := by decide +kernel
theorem dX5_seen_2 : decode cX5_seen 2 = .ok (.invokevirtual 147, 3) := by decide +kernel
theorem dX5_seen_5 : decode cX5_seen 5 = .ok (.ifCond .ne 6, 3) := by decide +kernel
theorem dX5_seen_8 : decode cX5_seen 8 = .ok (.bipush (-2), 2) := by decide +kernel
theorem dX5_seen_10 : decode cX5_seen 10 = .ok (.ireturn, 1) := by decide +kernel
theorem dX5_seen_11 : decode cX5_seen 11 = .ok (.iload_n 2, 1) := by decide +kernel
theorem dX5_seen_12 : decode cX5_seen 12 = .ok (.iconst 0, 1) := by decide +kernel
theorem dX5_seen_13 : decode cX5_seen 13 = .ok (.bipush 9, 2) := by decide +kernel
theorem dX5_seen_15 : decode cX5_seen 15 = .ok (.invokestatic 44, 3) := by decide +kernel
theorem dX5_seen_18 : decode cX5_seen 18 = .ok (.ifCond .eq 14, 3) := by decide +kernel
theorem dX5_seen_21 : decode cX5_seen 21 = .ok (.iload_n 3, 1) := by decide +kernel
theorem dX5_seen_22 : decode cX5_seen 22 = .ok (.iconst 0, 1) := by decide +kernel
theorem dX5_seen_23 : decode cX5_seen 23 = .ok (.sipush 255, 3) := by decide +kernel
theorem dX5_seen_26 : decode cX5_seen 26 = .ok (.invokestatic 44, 3) := by decide +kernel
theorem dX5_seen_29 : decode cX5_seen 29 = .ok (.ifCond .ne 6, 3) := by decide +kernel
theorem dX5_seen_32 : decode cX5_seen 32 = .ok (.bipush (-3), 2) := by decide +kernel
theorem dX5_seen_34 : decode cX5_seen 34 = .ok (.ireturn, 1) := by decide +kernel
theorem dX5_seen_35 : decode cX5_seen 35 = .ok (.aload_n 0, 1) := by decide +kernel
theorem dX5_seen_36 : decode cX5_seen 36 = .ok (.getfield 98, 3) := by decide +kernel
theorem dX5_seen_39 : decode cX5_seen 39 = .ok (.bipush 6, 2) := by decide +kernel
theorem dX5_seen_41 : decode cX5_seen 41 = .ok (.if_icmp .ne 6, 3) := by decide +kernel
theorem dX5_seen_44 : decode cX5_seen 44 = .ok (.bipush (-5), 2) := by decide +kernel
theorem dX5_seen_46 : decode cX5_seen 46 = .ok (.ireturn, 1) := by decide +kernel
theorem dX5_seen_47 : decode cX5_seen 47 = .ok (.aload_n 0, 1) := by decide +kernel
theorem dX5_seen_48 : decode cX5_seen 48 = .ok (.getfield 32, 3) := by decide +kernel
theorem dX5_seen_51 : decode cX5_seen 51 = .ok (.iconst 3, 1) := by decide +kernel
theorem dX5_seen_52 : decode cX5_seen 52 = .ok (.aload_n 0, 1) := by decide +kernel
theorem dX5_seen_53 : decode cX5_seen 53 = .ok (.getfield 98, 3) := by decide +kernel
theorem dX5_seen_56 : decode cX5_seen 56 = .ok (.imul, 1) := by decide +kernel
theorem dX5_seen_57 : decode cX5_seen 57 = .ok (.iload_n 1, 1) := by decide +kernel
theorem dX5_seen_58 : decode cX5_seen 58 = .ok (.iastore, 1) := by decide +kernel
theorem dX5_seen_59 : decode cX5_seen 59 = .ok (.aload_n 0, 1) := by decide +kernel
theorem dX5_seen_60 : decode cX5_seen 60 = .ok (.getfield 32, 3) := by decide +kernel
theorem dX5_seen_63 : decode cX5_seen 63 = .ok (.iconst 3, 1) := by decide +kernel
theorem dX5_seen_64 : decode cX5_seen 64 = .ok (.aload_n 0, 1) := by decide +kernel
theorem dX5_seen_65 : decode cX5_seen 65 = .ok (.getfield 98, 3) := by decide +kernel
theorem dX5_seen_68 : decode cX5_seen 68 = .ok (.imul, 1) := by decide +kernel
theorem dX5_seen_69 : decode cX5_seen 69 = .ok (.iconst 1, 1) := by decide +kernel
theorem dX5_seen_70 : decode cX5_seen 70 = .ok (.iadd, 1) := by decide +kernel
theorem dX5_seen_71 : decode cX5_seen 71 = .ok (.iload_n 2, 1) := by decide +kernel
theorem dX5_seen_72 : decode cX5_seen 72 = .ok (.iastore, 1) := by decide +kernel
theorem dX5_seen_73 : decode cX5_seen 73 = .ok (.aload_n 0, 1) := by decide +kernel
theorem dX5_seen_74 : decode cX5_seen 74 = .ok (.getfield 32, 3) := by decide +kernel
theorem dX5_seen_77 : decode cX5_seen 77 = .ok (.iconst 3, 1) := by decide +kernel
theorem dX5_seen_78 : decode cX5_seen 78 = .ok (.aload_n 0, 1) := by decide +kernel
theorem dX5_seen_79 : decode cX5_seen 79 = .ok (.getfield 98, 3) := by decide +kernel
theorem dX5_seen_82 : decode cX5_seen 82 = .ok (.imul, 1) := by decide +kernel
theorem dX5_seen_83 : decode cX5_seen 83 = .ok (.iconst 2, 1) := by decide +kernel
theorem dX5_seen_84 : decode cX5_seen 84 = .ok (.iadd, 1) := by decide +kernel
theorem dX5_seen_85 : decode cX5_seen 85 = .ok (.iload_n 3, 1) := by decide +kernel
theorem dX5_seen_86 : decode cX5_seen 86 = .ok (.iastore, 1) := by decide +kernel
theorem dX5_seen_87 : decode cX5_seen 87 = .ok (.aload_n 0, 1) := by decide +kernel
theorem dX5_seen_88 : decode cX5_seen 88 = .ok (.dup, 1) := by decide +kernel
theorem dX5_seen_89 : decode cX5_seen 89 = .ok (.getfield 98, 3) := by decide +kernel
theorem dX5_seen_92 : decode cX5_seen 92 = .ok (.iconst 1, 1) := by decide +kernel
theorem dX5_seen_93 : decode cX5_seen 93 = .ok (.iadd, 1) := by decide +kernel
theorem dX5_seen_94 : decode cX5_seen 94 = .ok (.putfield 98, 3) := by decide +kernel
theorem dX5_seen_97 : decode cX5_seen 97 = .ok (.aload_n 0, 1) := by decide +kernel
theorem dX5_seen_98 : decode cX5_seen 98 = .ok (.getfield 98, 3) := by decide +kernel
theorem dX5_seen_101 : decode cX5_seen 101 = .ok (.ireturn, 1) := by decide +kernel
theorem dX5_heard_0 : decode cX5_heard 0 = .ok (.aload_n 0, 1) := by decide +kernel
theorem dX5_heard_1 : decode cX5_heard 1 = .ok (.iload_n 1, 1) := by decide +kernel
theorem dX5_heard_2 : decode cX5_heard 2 = .ok (.invokevirtual 147, 3) := by decide +kernel
theorem dX5_heard_5 : decode cX5_heard 5 = .ok (.ifCond .ne 6, 3) := by decide +kernel
theorem dX5_heard_8 : decode cX5_heard 8 = .ok (.bipush (-2), 2) := by decide +kernel
theorem dX5_heard_10 : decode cX5_heard 10 = .ok (.ireturn, 1) := by decide +kernel
theorem dX5_heard_11 : decode cX5_heard 11 = .ok (.iload_n 2, 1) := by decide +kernel
theorem dX5_heard_12 : decode cX5_heard 12 = .ok (.iconst 0, 1) := by decide +kernel
theorem dX5_heard_13 : decode cX5_heard 13 = .ok (.bipush 99, 2) := by decide +kernel
theorem dX5_heard_15 : decode cX5_heard 15 = .ok (.invokestatic 44, 3) := by decide +kernel
theorem dX5_heard_18 : decode cX5_heard 18 = .ok (.ifCond .eq 12, 3) := by decide +kernel
theorem dX5_heard_21 : decode cX5_heard 21 = .ok (.iload_n 3, 1) := by decide +kernel
theorem dX5_heard_22 : decode cX5_heard 22 = .ok (.iconst 0, 1) := by decide +kernel
theorem dX5_heard_23 : decode cX5_heard 23 = .ok (.iconst 1, 1) := by decide +kernel
theorem dX5_heard_24 : decode cX5_heard 24 = .ok (.invokestatic 44, 3) := by decide +kernel
theorem dX5_heard_27 : decode cX5_heard 27 = .ok (.ifCond .ne 6, 3) := by decide +kernel
theorem dX5_heard_30 : decode cX5_heard 30 = .ok (.bipush (-3), 2) := by decide +kernel
theorem dX5_heard_32 : decode cX5_heard 32 = .ok (.ireturn, 1) := by decide +kernel
theorem dX5_heard_33 : decode cX5_heard 33 = .ok (.aload_n 0, 1) := by decide +kernel
theorem dX5_heard_34 : decode cX5_heard 34 = .ok (.getfield 101, 3) := by decide +kernel
theorem dX5_heard_37 : decode cX5_heard 37 = .ok (.bipush 6, 2) := by decide +kernel
theorem dX5_heard_39 : decode cX5_heard 39 = .ok (.if_icmp .ne 6, 3) := by decide +kernel
theorem dX5_heard_42 : decode cX5_heard 42 = .ok (.bipush (-5), 2) := by decide +kernel
theorem dX5_heard_44 : decode cX5_heard 44 = .ok (.ireturn, 1) := by decide +kernel
theorem dX5_heard_45 : decode cX5_heard 45 = .ok (.aload_n 0, 1) := by decide +kernel
theorem dX5_heard_46 : decode cX5_heard 46 = .ok (.getfield 35, 3) := by decide +kernel
theorem dX5_heard_49 : decode cX5_heard 49 = .ok (.iconst 3, 1) := by decide +kernel
theorem dX5_heard_50 : decode cX5_heard 50 = .ok (.aload_n 0, 1) := by decide +kernel
theorem dX5_heard_51 : decode cX5_heard 51 = .ok (.getfield 101, 3) := by decide +kernel
theorem dX5_heard_54 : decode cX5_heard 54 = .ok (.imul, 1) := by decide +kernel
theorem dX5_heard_55 : decode cX5_heard 55 = .ok (.iload_n 1, 1) := by decide +kernel
theorem dX5_heard_56 : decode cX5_heard 56 = .ok (.iastore, 1) := by decide +kernel
theorem dX5_heard_57 : decode cX5_heard 57 = .ok (.aload_n 0, 1) := by decide +kernel
theorem dX5_heard_58 : decode cX5_heard 58 = .ok (.getfield 35, 3) := by decide +kernel
theorem dX5_heard_61 : decode cX5_heard 61 = .ok (.iconst 3, 1) := by decide +kernel
theorem dX5_heard_62 : decode cX5_heard 62 = .ok (.aload_n 0, 1) := by decide +kernel
theorem dX5_heard_63 : decode cX5_heard 63 = .ok (.getfield 101, 3) := by decide +kernel
theorem dX5_heard_66 : decode cX5_heard 66 = .ok (.imul, 1) := by decide +kernel
theorem dX5_heard_67 : decode cX5_heard 67 = .ok (.iconst 1, 1) := by decide +kernel
theorem dX5_heard_68 : decode cX5_heard 68 = .ok (.iadd, 1) := by decide +kernel
theorem dX5_heard_69 : decode cX5_heard 69 = .ok (.iload_n 2, 1) := by decide +kernel
theorem dX5_heard_70 : decode cX5_heard 70 = .ok (.iastore, 1) := by decide +kernel
theorem dX5_heard_71 : decode cX5_heard 71 = .ok (.aload_n 0, 1) := by decide +kernel
theorem dX5_heard_72 : decode cX5_heard 72 = .ok (.getfield 35, 3) := by decide +kernel
theorem dX5_heard_75 : decode cX5_heard 75 = .ok (.iconst 3, 1) := by decide +kernel
theorem dX5_heard_76 : decode cX5_heard 76 = .ok (.aload_n 0, 1) := by decide +kernel
theorem dX5_heard_77 : decode cX5_heard 77 = .ok (.getfield 101, 3) := by decide +kernel
theorem dX5_heard_80 : decode cX5_heard 80 = .ok (.imul, 1) := by decide +kernel
theorem dX5_heard_81 : decode cX5_heard 81 = .ok (.iconst 2, 1) := by decide +kernel
theorem dX5_heard_82 : decode cX5_heard 82 = .ok (.iadd, 1) := by decide +kernel
theorem dX5_heard_83 : decode cX5_heard 83 = .ok (.iload_n 3, 1) := by decide +kernel
theorem dX5_heard_84 : decode cX5_heard 84 = .ok (.iastore, 1) := by decide +kernel
theorem dX5_heard_85 : decode cX5_heard 85 = .ok (.aload_n 0, 1) := by decide +kernel
theorem dX5_heard_86 : decode cX5_heard 86 = .ok (.dup, 1) := by decide +kernel
theorem dX5_heard_87 : decode cX5_heard 87 = .ok (.getfield 101, 3) := by decide +kernel
theorem dX5_heard_90 : decode cX5_heard 90 = .ok (.iconst 1, 1) := by decide +kernel
theorem dX5_heard_91 : decode cX5_heard 91 = .ok (.iadd, 1) := by decide +kernel
theorem dX5_heard_92 : decode cX5_heard 92 = .ok (.putfield 101, 3) := by decide +kernel
theorem dX5_heard_95 : decode cX5_heard 95 = .ok (.aload_n 0, 1) := by decide +kernel
theorem dX5_heard_96 : decode cX5_heard 96 = .ok (.getfield 101, 3) := by decide +kernel
theorem dX5_heard_99 : decode cX5_heard 99 = .ok (.ireturn, 1) := by decide +kernel
theorem dX5_forget_0 : decode cX5_forget 0 = .ok (.aload_n 0, 1) := by decide +kernel
theorem dX5_forget_1 : decode cX5_forget 1 = .ok (.getfield 98, 3) := by decide +kernel
theorem dX5_forget_4 : decode cX5_forget 4 = .ok (.aload_n 0, 1) := by decide +kernel
theorem dX5_forget_5 : decode cX5_forget 5 = .ok (.getfield 101, 3) := by decide +kernel
theorem dX5_forget_8 : decode cX5_forget 8 = .ok (.iadd, 1) := by decide +kernel
theorem dX5_forget_9 : decode cX5_forget 9 = .ok (.istore_n 1, 1) := by decide +kernel
theorem dX5_forget_10 : decode cX5_forget 10 = .ok (.aload_n 0, 1) := by decide +kernel
theorem dX5_forget_11 : decode cX5_forget 11 = .ok (.iconst 0, 1) := by decide +kernel
theorem dX5_forget_12 : decode cX5_forget 12 = .ok (.putfield 98, 3) := by decide +kernel
theorem dX5_forget_15 : decode cX5_forget 15 = .ok (.aload_n 0, 1) := by decide +kernel
theorem dX5_forget_16 : decode cX5_forget 16 = .ok (.iconst 0, 1) := by decide +kernel
theorem dX5_forget_17 : decode cX5_forget 17 = .ok (.putfield 101, 3) := by decide +kernel
theorem dX5_forget_20 : decode cX5_forget 20 = .ok (.iload_n 1, 1) := by decide +kernel
theorem dX5_forget_21 : decode cX5_forget 21 = .ok (.ireturn, 1) := by decide +kernel
theorem dX5_weights_0 : decode cX5_weights 0 = .ok (.aload_n 0, 1) := by decide +kernel
theorem dX5_weights_1 : decode cX5_weights 1 = .ok (.iload_n 1, 1) := by decide +kernel
theorem dX5_weights_2 : decode cX5_weights 2 = .ok (.invokevirtual 129, 3) := by decide +kernel
theorem dX5_weights_5 : decode cX5_weights 5 = .ok (.ifCond .ne 6, 3) := by decide +kernel
theorem dX5_weights_8 : decode cX5_weights 8 = .ok (.bipush (-2), 2) := by decide +kernel
theorem dX5_weights_10 : decode cX5_weights 10 = .ok (.ireturn, 1) := by decide +kernel
theorem dX5_weights_11 : decode cX5_weights 11 = .ok (.iconst 0, 1) := by decide +kernel
theorem dX5_weights_12 : decode cX5_weights 12 = .ok (.istore_n 2, 1) := by decide +kernel
theorem dX5_weights_13 : decode cX5_weights 13 = .ok (.iconst 0, 1) := by decide +kernel
theorem dX5_weights_14 : decode cX5_weights 14 = .ok (.istore_n 3, 1) := by decide +kernel
theorem dX5_weights_15 : decode cX5_weights 15 = .ok (.iload_n 3, 1) := by decide +kernel
theorem dX5_weights_16 : decode cX5_weights 16 = .ok (.bipush 21, 2) := by decide +kernel
theorem dX5_weights_18 : decode cX5_weights 18 = .ok (.if_icmp .ge 146, 3) := by decide +kernel
theorem dX5_weights_21 : decode cX5_weights 21 = .ok (.iconst 1, 1) := by decide +kernel
theorem dX5_weights_22 : decode cX5_weights 22 = .ok (.istore 4, 2) := by decide +kernel
theorem dX5_weights_24 : decode cX5_weights 24 = .ok (.iconst 0, 1) := by decide +kernel
theorem dX5_weights_25 : decode cX5_weights 25 = .ok (.istore 5, 2) := by decide +kernel
theorem dX5_weights_27 : decode cX5_weights 27 = .ok (.iload 5, 2) := by decide +kernel
theorem dX5_weights_29 : decode cX5_weights 29 = .ok (.aload_n 0, 1) := by decide +kernel
theorem dX5_weights_30 : decode cX5_weights 30 = .ok (.getfield 98, 3) := by decide +kernel
theorem dX5_weights_33 : decode cX5_weights 33 = .ok (.if_icmp .ge 110, 3) := by decide +kernel
theorem dX5_weights_36 : decode cX5_weights 36 = .ok (.aload_n 0, 1) := by decide +kernel
theorem dX5_weights_37 : decode cX5_weights 37 = .ok (.getfield 32, 3) := by decide +kernel
theorem dX5_weights_40 : decode cX5_weights 40 = .ok (.iconst 3, 1) := by decide +kernel
theorem dX5_weights_41 : decode cX5_weights 41 = .ok (.iload 5, 2) := by decide +kernel
theorem dX5_weights_43 : decode cX5_weights 43 = .ok (.imul, 1) := by decide +kernel
theorem dX5_weights_44 : decode cX5_weights 44 = .ok (.iaload, 1) := by decide +kernel
theorem dX5_weights_45 : decode cX5_weights 45 = .ok (.istore 6, 2) := by decide +kernel
theorem dX5_weights_47 : decode cX5_weights 47 = .ok (.aload_n 0, 1) := by decide +kernel
theorem dX5_weights_48 : decode cX5_weights 48 = .ok (.getfield 32, 3) := by decide +kernel
theorem dX5_weights_51 : decode cX5_weights 51 = .ok (.iconst 3, 1) := by decide +kernel
theorem dX5_weights_52 : decode cX5_weights 52 = .ok (.iload 5, 2) := by decide +kernel
theorem dX5_weights_54 : decode cX5_weights 54 = .ok (.imul, 1) := by decide +kernel
theorem dX5_weights_55 : decode cX5_weights 55 = .ok (.iconst 1, 1) := by decide +kernel
theorem dX5_weights_56 : decode cX5_weights 56 = .ok (.iadd, 1) := by decide +kernel
theorem dX5_weights_57 : decode cX5_weights 57 = .ok (.iaload, 1) := by decide +kernel
theorem dX5_weights_58 : decode cX5_weights 58 = .ok (.istore 7, 2) := by decide +kernel
theorem dX5_weights_60 : decode cX5_weights 60 = .ok (.aload_n 0, 1) := by decide +kernel
theorem dX5_weights_61 : decode cX5_weights 61 = .ok (.iload 6, 2) := by decide +kernel
theorem dX5_weights_63 : decode cX5_weights 63 = .ok (.iconst 1, 1) := by decide +kernel
theorem dX5_weights_64 : decode cX5_weights 64 = .ok (.iload_n 1, 1) := by decide +kernel
theorem dX5_weights_65 : decode cX5_weights 65 = .ok (.ishl, 1) := by decide +kernel
theorem dX5_weights_66 : decode cX5_weights 66 = .ok (.iconst (-1), 1) := by decide +kernel
theorem dX5_weights_67 : decode cX5_weights 67 = .ok (.ixor, 1) := by decide +kernel
theorem dX5_weights_68 : decode cX5_weights 68 = .ok (.iand, 1) := by decide +kernel
theorem dX5_weights_69 : decode cX5_weights 69 = .ok (.iload 7, 2) := by decide +kernel
theorem dX5_weights_71 : decode cX5_weights 71 = .ok (.invokevirtual 116, 3) := by decide +kernel
theorem dX5_weights_74 : decode cX5_weights 74 = .ok (.istore 8, 2) := by decide +kernel
theorem dX5_weights_76 : decode cX5_weights 76 = .ok (.iload 8, 2) := by decide +kernel
theorem dX5_weights_78 : decode cX5_weights 78 = .ok (.iload 6, 2) := by decide +kernel
theorem dX5_weights_80 : decode cX5_weights 80 = .ok (.iload_n 1, 1) := by decide +kernel
theorem dX5_weights_81 : decode cX5_weights 81 = .ok (.ishr, 1) := by decide +kernel
theorem dX5_weights_82 : decode cX5_weights 82 = .ok (.iconst 1, 1) := by decide +kernel
theorem dX5_weights_83 : decode cX5_weights 83 = .ok (.iand, 1) := by decide +kernel
theorem dX5_weights_84 : decode cX5_weights 84 = .ok (.iconst 1, 1) := by decide +kernel
theorem dX5_weights_85 : decode cX5_weights 85 = .ok (.if_icmp .ne 20, 3) := by decide +kernel
theorem dX5_weights_88 : decode cX5_weights 88 = .ok (.aload_n 0, 1) := by decide +kernel
theorem dX5_weights_89 : decode cX5_weights 89 = .ok (.getfield 13, 3) := by decide +kernel
theorem dX5_weights_92 : decode cX5_weights 92 = .ok (.iconst 5, 1) := by decide +kernel
theorem dX5_weights_93 : decode cX5_weights 93 = .ok (.iload_n 1, 1) := by decide +kernel
theorem dX5_weights_94 : decode cX5_weights 94 = .ok (.iadd, 1) := by decide +kernel
theorem dX5_weights_95 : decode cX5_weights 95 = .ok (.iaload, 1) := by decide +kernel
theorem dX5_weights_96 : decode cX5_weights 96 = .ok (.iload_n 3, 1) := by decide +kernel
theorem dX5_weights_97 : decode cX5_weights 97 = .ok (.iload 7, 2) := by decide +kernel
theorem dX5_weights_99 : decode cX5_weights 99 = .ok (.invokestatic 108, 3) := by decide +kernel
theorem dX5_weights_102 : decode cX5_weights 102 = .ok (.goto 4, 3) := by decide +kernel
theorem dX5_weights_105 : decode cX5_weights 105 = .ok (.iconst 0, 1) := by decide +kernel
theorem dX5_weights_106 : decode cX5_weights 106 = .ok (.iadd, 1) := by decide +kernel
theorem dX5_weights_107 : decode cX5_weights 107 = .ok (.istore 8, 2) := by decide +kernel
theorem dX5_weights_109 : decode cX5_weights 109 = .ok (.iload 4, 2) := by decide +kernel
theorem dX5_weights_111 : decode cX5_weights 111 = .ok (.ifCond .eq 23, 3) := by decide +kernel
theorem dX5_weights_114 : decode cX5_weights 114 = .ok (.iload 8, 2) := by decide +kernel
theorem dX5_weights_116 : decode cX5_weights 116 = .ok (.aload_n 0, 1) := by decide +kernel
theorem dX5_weights_117 : decode cX5_weights 117 = .ok (.getfield 32, 3) := by decide +kernel
theorem dX5_weights_120 : decode cX5_weights 120 = .ok (.iconst 3, 1) := by decide +kernel
theorem dX5_weights_121 : decode cX5_weights 121 = .ok (.iload 5, 2) := by decide +kernel
theorem dX5_weights_123 : decode cX5_weights 123 = .ok (.imul, 1) := by decide +kernel
theorem dX5_weights_124 : decode cX5_weights 124 = .ok (.iconst 2, 1) := by decide +kernel
theorem dX5_weights_125 : decode cX5_weights 125 = .ok (.iadd, 1) := by decide +kernel
theorem dX5_weights_126 : decode cX5_weights 126 = .ok (.iaload, 1) := by decide +kernel
theorem dX5_weights_127 : decode cX5_weights 127 = .ok (.if_icmp .ne 7, 3) := by decide +kernel
theorem dX5_weights_130 : decode cX5_weights 130 = .ok (.iconst 1, 1) := by decide +kernel
theorem dX5_weights_131 : decode cX5_weights 131 = .ok (.goto 4, 3) := by decide +kernel
theorem dX5_weights_134 : decode cX5_weights 134 = .ok (.iconst 0, 1) := by decide +kernel
theorem dX5_weights_135 : decode cX5_weights 135 = .ok (.istore 4, 2) := by decide +kernel
theorem dX5_weights_137 : decode cX5_weights 137 = .ok (.iinc 5 1, 3) := by decide +kernel
theorem dX5_weights_140 : decode cX5_weights 140 = .ok (.goto (-113), 3) := by decide +kernel
theorem dX5_weights_143 : decode cX5_weights 143 = .ok (.iload_n 2, 1) := by decide +kernel
theorem dX5_weights_144 : decode cX5_weights 144 = .ok (.iload 4, 2) := by decide +kernel
theorem dX5_weights_146 : decode cX5_weights 146 = .ok (.ifCond .eq 9, 3) := by decide +kernel
theorem dX5_weights_149 : decode cX5_weights 149 = .ok (.iconst 1, 1) := by decide +kernel
theorem dX5_weights_150 : decode cX5_weights 150 = .ok (.iload_n 3, 1) := by decide +kernel
theorem dX5_weights_151 : decode cX5_weights 151 = .ok (.ishl, 1) := by decide +kernel
theorem dX5_weights_152 : decode cX5_weights 152 = .ok (.goto 4, 3) := by decide +kernel
theorem dX5_weights_155 : decode cX5_weights 155 = .ok (.iconst 0, 1) := by decide +kernel
theorem dX5_weights_156 : decode cX5_weights 156 = .ok (.ior, 1) := by decide +kernel
theorem dX5_weights_157 : decode cX5_weights 157 = .ok (.istore_n 2, 1) := by decide +kernel
theorem dX5_weights_158 : decode cX5_weights 158 = .ok (.iinc 3 1, 3) := by decide +kernel
theorem dX5_weights_161 : decode cX5_weights 161 = .ok (.goto (-146), 3) := by decide +kernel
theorem dX5_weights_164 : decode cX5_weights 164 = .ok (.iload_n 2, 1) := by decide +kernel
theorem dX5_weights_165 : decode cX5_weights 165 = .ok (.ireturn, 1) := by decide +kernel
theorem dX5_thumbs_0 : decode cX5_thumbs 0 = .ok (.iconst 0, 1) := by decide +kernel
theorem dX5_thumbs_1 : decode cX5_thumbs 1 = .ok (.istore_n 1, 1) := by decide +kernel
theorem dX5_thumbs_2 : decode cX5_thumbs 2 = .ok (.iconst 0, 1) := by decide +kernel
theorem dX5_thumbs_3 : decode cX5_thumbs 3 = .ok (.istore_n 2, 1) := by decide +kernel
theorem dX5_thumbs_4 : decode cX5_thumbs 4 = .ok (.iload_n 2, 1) := by decide +kernel
theorem dX5_thumbs_5 : decode cX5_thumbs 5 = .ok (.bipush 10, 2) := by decide +kernel
theorem dX5_thumbs_7 : decode cX5_thumbs 7 = .ok (.if_icmp .ge 117, 3) := by decide +kernel
theorem dX5_thumbs_10 : decode cX5_thumbs 10 = .ok (.iconst 1, 1) := by decide +kernel
theorem dX5_thumbs_11 : decode cX5_thumbs 11 = .ok (.istore_n 3, 1) := by decide +kernel
theorem dX5_thumbs_12 : decode cX5_thumbs 12 = .ok (.iconst 0, 1) := by decide +kernel
theorem dX5_thumbs_13 : decode cX5_thumbs 13 = .ok (.istore 4, 2) := by decide +kernel
theorem dX5_thumbs_15 : decode cX5_thumbs 15 = .ok (.iload 4, 2) := by decide +kernel
theorem dX5_thumbs_17 : decode cX5_thumbs 17 = .ok (.aload_n 0, 1) := by decide +kernel
theorem dX5_thumbs_18 : decode cX5_thumbs 18 = .ok (.getfield 101, 3) := by decide +kernel
theorem dX5_thumbs_21 : decode cX5_thumbs 21 = .ok (.if_icmp .ge 83, 3) := by decide +kernel
theorem dX5_thumbs_24 : decode cX5_thumbs 24 = .ok (.iload_n 2, 1) := by decide +kernel
theorem dX5_thumbs_25 : decode cX5_thumbs 25 = .ok (.aload_n 0, 1) := by decide +kernel
theorem dX5_thumbs_26 : decode cX5_thumbs 26 = .ok (.aload_n 0, 1) := by decide +kernel
theorem dX5_thumbs_27 : decode cX5_thumbs 27 = .ok (.getfield 35, 3) := by decide +kernel
theorem dX5_thumbs_30 : decode cX5_thumbs 30 = .ok (.iconst 3, 1) := by decide +kernel
theorem dX5_thumbs_31 : decode cX5_thumbs 31 = .ok (.iload 4, 2) := by decide +kernel
theorem dX5_thumbs_33 : decode cX5_thumbs 33 = .ok (.imul, 1) := by decide +kernel
theorem dX5_thumbs_34 : decode cX5_thumbs 34 = .ok (.iaload, 1) := by decide +kernel
theorem dX5_thumbs_35 : decode cX5_thumbs 35 = .ok (.aload_n 0, 1) := by decide +kernel
theorem dX5_thumbs_36 : decode cX5_thumbs 36 = .ok (.getfield 19, 3) := by decide +kernel
theorem dX5_thumbs_39 : decode cX5_thumbs 39 = .ok (.bipush 6, 2) := by decide +kernel
theorem dX5_thumbs_41 : decode cX5_thumbs 41 = .ok (.iaload, 1) := by decide +kernel
theorem dX5_thumbs_42 : decode cX5_thumbs 42 = .ok (.invokevirtual 116, 3) := by decide +kernel
theorem dX5_thumbs_45 : decode cX5_thumbs 45 = .ok (.iadd, 1) := by decide +kernel
theorem dX5_thumbs_46 : decode cX5_thumbs 46 = .ok (.istore 5, 2) := by decide +kernel
theorem dX5_thumbs_48 : decode cX5_thumbs 48 = .ok (.iload_n 3, 1) := by decide +kernel
theorem dX5_thumbs_49 : decode cX5_thumbs 49 = .ok (.ifCond .eq 47, 3) := by decide +kernel
theorem dX5_thumbs_52 : decode cX5_thumbs 52 = .ok (.aload_n 0, 1) := by decide +kernel
theorem dX5_thumbs_53 : decode cX5_thumbs 53 = .ok (.iload 5, 2) := by decide +kernel
theorem dX5_thumbs_55 : decode cX5_thumbs 55 = .ok (.aload_n 0, 1) := by decide +kernel
theorem dX5_thumbs_56 : decode cX5_thumbs 56 = .ok (.getfield 35, 3) := by decide +kernel
theorem dX5_thumbs_59 : decode cX5_thumbs 59 = .ok (.iconst 3, 1) := by decide +kernel
theorem dX5_thumbs_60 : decode cX5_thumbs 60 = .ok (.iload 4, 2) := by decide +kernel
theorem dX5_thumbs_62 : decode cX5_thumbs 62 = .ok (.imul, 1) := by decide +kernel
theorem dX5_thumbs_63 : decode cX5_thumbs 63 = .ok (.iconst 1, 1) := by decide +kernel
theorem dX5_thumbs_64 : decode cX5_thumbs 64 = .ok (.iadd, 1) := by decide +kernel
theorem dX5_thumbs_65 : decode cX5_thumbs 65 = .ok (.iaload, 1) := by decide +kernel
theorem dX5_thumbs_66 : decode cX5_thumbs 66 = .ok (.invokevirtual 125, 3) := by decide +kernel
theorem dX5_thumbs_69 : decode cX5_thumbs 69 = .ok (.aload_n 0, 1) := by decide +kernel
theorem dX5_thumbs_70 : decode cX5_thumbs 70 = .ok (.getfield 35, 3) := by decide +kernel
theorem dX5_thumbs_73 : decode cX5_thumbs 73 = .ok (.iconst 3, 1) := by decide +kernel
theorem dX5_thumbs_74 : decode cX5_thumbs 74 = .ok (.iload 4, 2) := by decide +kernel
theorem dX5_thumbs_76 : decode cX5_thumbs 76 = .ok (.imul, 1) := by decide +kernel
theorem dX5_thumbs_77 : decode cX5_thumbs 77 = .ok (.iconst 2, 1) := by decide +kernel
theorem dX5_thumbs_78 : decode cX5_thumbs 78 = .ok (.iadd, 1) := by decide +kernel
theorem dX5_thumbs_79 : decode cX5_thumbs 79 = .ok (.iaload, 1) := by decide +kernel
theorem dX5_thumbs_80 : decode cX5_thumbs 80 = .ok (.iconst 1, 1) := by decide +kernel
theorem dX5_thumbs_81 : decode cX5_thumbs 81 = .ok (.if_icmp .ne 7, 3) := by decide +kernel
theorem dX5_thumbs_84 : decode cX5_thumbs 84 = .ok (.iconst 1, 1) := by decide +kernel
theorem dX5_thumbs_85 : decode cX5_thumbs 85 = .ok (.goto 4, 3) := by decide +kernel
theorem dX5_thumbs_88 : decode cX5_thumbs 88 = .ok (.iconst 0, 1) := by decide +kernel
theorem dX5_thumbs_89 : decode cX5_thumbs 89 = .ok (.if_icmp .ne 7, 3) := by decide +kernel
theorem dX5_thumbs_92 : decode cX5_thumbs 92 = .ok (.iconst 1, 1) := by decide +kernel
theorem dX5_thumbs_93 : decode cX5_thumbs 93 = .ok (.goto 4, 3) := by decide +kernel
theorem dX5_thumbs_96 : decode cX5_thumbs 96 = .ok (.iconst 0, 1) := by decide +kernel
theorem dX5_thumbs_97 : decode cX5_thumbs 97 = .ok (.istore_n 3, 1) := by decide +kernel
theorem dX5_thumbs_98 : decode cX5_thumbs 98 = .ok (.iinc 4 1, 3) := by decide +kernel
theorem dX5_thumbs_101 : decode cX5_thumbs 101 = .ok (.goto (-86), 3) := by decide +kernel
theorem dX5_thumbs_104 : decode cX5_thumbs 104 = .ok (.iload_n 1, 1) := by decide +kernel
theorem dX5_thumbs_105 : decode cX5_thumbs 105 = .ok (.iload_n 3, 1) := by decide +kernel
theorem dX5_thumbs_106 : decode cX5_thumbs 106 = .ok (.ifCond .eq 9, 3) := by decide +kernel
theorem dX5_thumbs_109 : decode cX5_thumbs 109 = .ok (.iconst 1, 1) := by decide +kernel
theorem dX5_thumbs_110 : decode cX5_thumbs 110 = .ok (.iload_n 2, 1) := by decide +kernel
theorem dX5_thumbs_111 : decode cX5_thumbs 111 = .ok (.ishl, 1) := by decide +kernel
theorem dX5_thumbs_112 : decode cX5_thumbs 112 = .ok (.goto 4, 3) := by decide +kernel
theorem dX5_thumbs_115 : decode cX5_thumbs 115 = .ok (.iconst 0, 1) := by decide +kernel
theorem dX5_thumbs_116 : decode cX5_thumbs 116 = .ok (.ior, 1) := by decide +kernel
theorem dX5_thumbs_117 : decode cX5_thumbs 117 = .ok (.istore_n 1, 1) := by decide +kernel
theorem dX5_thumbs_118 : decode cX5_thumbs 118 = .ok (.iinc 2 1, 3) := by decide +kernel
theorem dX5_thumbs_121 : decode cX5_thumbs 121 = .ok (.goto (-117), 3) := by decide +kernel
theorem dX5_thumbs_124 : decode cX5_thumbs 124 = .ok (.iload_n 1, 1) := by decide +kernel
theorem dX5_thumbs_125 : decode cX5_thumbs 125 = .ok (.ireturn, 1) := by decide +kernel
theorem dX5_confessed_0 : decode cX5_confessed 0 = .ok (.iload_n 1, 1) := by decide +kernel
theorem dX5_confessed_1 : decode cX5_confessed 1 = .ok (.iconst 0, 1) := by decide +kernel
theorem dX5_confessed_2 : decode cX5_confessed 2 = .ok (.bipush 10, 2) := by decide +kernel
theorem dX5_confessed_4 : decode cX5_confessed 4 = .ok (.invokestatic 44, 3) := by decide +kernel
theorem dX5_confessed_7 : decode cX5_confessed 7 = .ok (.ifCond .eq 12, 3) := by decide +kernel
theorem dX5_confessed_10 : decode cX5_confessed 10 = .ok (.iload_n 2, 1) := by decide +kernel
theorem dX5_confessed_11 : decode cX5_confessed 11 = .ok (.iconst 0, 1) := by decide +kernel
theorem dX5_confessed_12 : decode cX5_confessed 12 = .ok (.iconst 1, 1) := by decide +kernel
theorem dX5_confessed_13 : decode cX5_confessed 13 = .ok (.invokestatic 44, 3) := by decide +kernel
theorem dX5_confessed_16 : decode cX5_confessed 16 = .ok (.ifCond .ne 6, 3) := by decide +kernel
theorem dX5_confessed_19 : decode cX5_confessed 19 = .ok (.bipush (-3), 2) := by decide +kernel
theorem dX5_confessed_21 : decode cX5_confessed 21 = .ok (.ireturn, 1) := by decide +kernel
theorem dX5_confessed_22 : decode cX5_confessed 22 = .ok (.iconst 0, 1) := by decide +kernel
theorem dX5_confessed_23 : decode cX5_confessed 23 = .ok (.istore_n 3, 1) := by decide +kernel
theorem dX5_confessed_24 : decode cX5_confessed 24 = .ok (.iconst 1, 1) := by decide +kernel
theorem dX5_confessed_25 : decode cX5_confessed 25 = .ok (.istore 4, 2) := by decide +kernel
theorem dX5_confessed_27 : decode cX5_confessed 27 = .ok (.iconst 0, 1) := by decide +kernel
theorem dX5_confessed_28 : decode cX5_confessed 28 = .ok (.istore 5, 2) := by decide +kernel
theorem dX5_confessed_30 : decode cX5_confessed 30 = .ok (.iload 5, 2) := by decide +kernel
theorem dX5_confessed_32 : decode cX5_confessed 32 = .ok (.aload_n 0, 1) := by decide +kernel
theorem dX5_confessed_33 : decode cX5_confessed 33 = .ok (.getfield 13, 3) := by decide +kernel
theorem dX5_confessed_36 : decode cX5_confessed 36 = .ok (.iconst 1, 1) := by decide +kernel
theorem dX5_confessed_37 : decode cX5_confessed 37 = .ok (.iaload, 1) := by decide +kernel
theorem dX5_confessed_38 : decode cX5_confessed 38 = .ok (.if_icmp .ge 16, 3) := by decide +kernel
theorem dX5_confessed_41 : decode cX5_confessed 41 = .ok (.iload 4, 2) := by decide +kernel
theorem dX5_confessed_43 : decode cX5_confessed 43 = .ok (.bipush 10, 2) := by decide +kernel
theorem dX5_confessed_45 : decode cX5_confessed 45 = .ok (.imul, 1) := by decide +kernel
theorem dX5_confessed_46 : decode cX5_confessed 46 = .ok (.istore 4, 2) := by decide +kernel
theorem dX5_confessed_48 : decode cX5_confessed 48 = .ok (.iinc 5 1, 3) := by decide +kernel
theorem dX5_confessed_51 : decode cX5_confessed 51 = .ok (.goto (-21), 3) := by decide +kernel
theorem dX5_confessed_54 : decode cX5_confessed 54 = .ok (.iconst 0, 1) := by decide +kernel
theorem dX5_confessed_55 : decode cX5_confessed 55 = .ok (.istore 5, 2) := by decide +kernel
theorem dX5_confessed_57 : decode cX5_confessed 57 = .ok (.iload 5, 2) := by decide +kernel
theorem dX5_confessed_59 : decode cX5_confessed 59 = .ok (.iconst 1, 1) := by decide +kernel
theorem dX5_confessed_60 : decode cX5_confessed 60 = .ok (.aload_n 0, 1) := by decide +kernel
theorem dX5_confessed_61 : decode cX5_confessed 61 = .ok (.getfield 13, 3) := by decide +kernel
theorem dX5_confessed_64 : decode cX5_confessed 64 = .ok (.iconst 1, 1) := by decide +kernel
theorem dX5_confessed_65 : decode cX5_confessed 65 = .ok (.iaload, 1) := by decide +kernel
theorem dX5_confessed_66 : decode cX5_confessed 66 = .ok (.ishl, 1) := by decide +kernel
theorem dX5_confessed_67 : decode cX5_confessed 67 = .ok (.if_icmp .ge 138, 3) := by decide +kernel
theorem dX5_confessed_70 : decode cX5_confessed 70 = .ok (.iconst 1, 1) := by decide +kernel
theorem dX5_confessed_71 : decode cX5_confessed 71 = .ok (.istore 6, 2) := by decide +kernel
theorem dX5_confessed_73 : decode cX5_confessed 73 = .ok (.iconst 0, 1) := by decide +kernel
theorem dX5_confessed_74 : decode cX5_confessed 74 = .ok (.istore 7, 2) := by decide +kernel
theorem dX5_confessed_76 : decode cX5_confessed 76 = .ok (.iconst 0, 1) := by decide +kernel
theorem dX5_confessed_77 : decode cX5_confessed 77 = .ok (.istore 8, 2) := by decide +kernel
theorem dX5_confessed_79 : decode cX5_confessed 79 = .ok (.iload 8, 2) := by decide +kernel
theorem dX5_confessed_81 : decode cX5_confessed 81 = .ok (.aload_n 0, 1) := by decide +kernel
theorem dX5_confessed_82 : decode cX5_confessed 82 = .ok (.getfield 13, 3) := by decide +kernel
theorem dX5_confessed_85 : decode cX5_confessed 85 = .ok (.iconst 1, 1) := by decide +kernel
theorem dX5_confessed_86 : decode cX5_confessed 86 = .ok (.iaload, 1) := by decide +kernel
theorem dX5_confessed_87 : decode cX5_confessed 87 = .ok (.if_icmp .ge 66, 3) := by decide +kernel
theorem dX5_confessed_90 : decode cX5_confessed 90 = .ok (.iload 5, 2) := by decide +kernel
theorem dX5_confessed_92 : decode cX5_confessed 92 = .ok (.iload 8, 2) := by decide +kernel
theorem dX5_confessed_94 : decode cX5_confessed 94 = .ok (.ishr, 1) := by decide +kernel
theorem dX5_confessed_95 : decode cX5_confessed 95 = .ok (.iconst 1, 1) := by decide +kernel
theorem dX5_confessed_96 : decode cX5_confessed 96 = .ok (.iand, 1) := by decide +kernel
theorem dX5_confessed_97 : decode cX5_confessed 97 = .ok (.iconst 1, 1) := by decide +kernel
theorem dX5_confessed_98 : decode cX5_confessed 98 = .ok (.if_icmp .ne 7, 3) := by decide +kernel
theorem dX5_confessed_101 : decode cX5_confessed 101 = .ok (.iconst 1, 1) := by decide +kernel
theorem dX5_confessed_102 : decode cX5_confessed 102 = .ok (.goto 4, 3) := by decide +kernel
theorem dX5_confessed_105 : decode cX5_confessed 105 = .ok (.iconst 0, 1) := by decide +kernel
theorem dX5_confessed_106 : decode cX5_confessed 106 = .ok (.istore 9, 2) := by decide +kernel
theorem dX5_confessed_108 : decode cX5_confessed 108 = .ok (.iload 6, 2) := by decide +kernel
theorem dX5_confessed_110 : decode cX5_confessed 110 = .ok (.iload 9, 2) := by decide +kernel
theorem dX5_confessed_112 : decode cX5_confessed 112 = .ok (.ifCond .eq 7, 3) := by decide +kernel
theorem dX5_confessed_115 : decode cX5_confessed 115 = .ok (.iload_n 1, 1) := by decide +kernel
theorem dX5_confessed_116 : decode cX5_confessed 116 = .ok (.goto 7, 3) := by decide +kernel
theorem dX5_confessed_119 : decode cX5_confessed 119 = .ok (.bipush 10, 2) := by decide +kernel
theorem dX5_confessed_121 : decode cX5_confessed 121 = .ok (.iload_n 1, 1) := by decide +kernel
theorem dX5_confessed_122 : decode cX5_confessed 122 = .ok (.isub, 1) := by decide +kernel
theorem dX5_confessed_123 : decode cX5_confessed 123 = .ok (.imul, 1) := by decide +kernel
theorem dX5_confessed_124 : decode cX5_confessed 124 = .ok (.istore 6, 2) := by decide +kernel
theorem dX5_confessed_126 : decode cX5_confessed 126 = .ok (.iload 7, 2) := by decide +kernel
theorem dX5_confessed_128 : decode cX5_confessed 128 = .ok (.iload 9, 2) := by decide +kernel
theorem dX5_confessed_130 : decode cX5_confessed 130 = .ok (.ifCond .eq 7, 3) := by decide +kernel
theorem dX5_confessed_133 : decode cX5_confessed 133 = .ok (.iconst 0, 1) := by decide +kernel
theorem dX5_confessed_134 : decode cX5_confessed 134 = .ok (.goto 10, 3) := by decide +kernel
theorem dX5_confessed_137 : decode cX5_confessed 137 = .ok (.aload_n 0, 1) := by decide +kernel
theorem dX5_confessed_138 : decode cX5_confessed 138 = .ok (.getfield 19, 3) := by decide +kernel
theorem dX5_confessed_141 : decode cX5_confessed 141 = .ok (.iload 8, 2) := by decide +kernel
theorem dX5_confessed_143 : decode cX5_confessed 143 = .ok (.iaload, 1) := by decide +kernel
theorem dX5_confessed_144 : decode cX5_confessed 144 = .ok (.iadd, 1) := by decide +kernel
theorem dX5_confessed_145 : decode cX5_confessed 145 = .ok (.istore 7, 2) := by decide +kernel
theorem dX5_confessed_147 : decode cX5_confessed 147 = .ok (.iinc 8 1, 3) := by decide +kernel
theorem dX5_confessed_150 : decode cX5_confessed 150 = .ok (.goto (-71), 3) := by decide +kernel
theorem dX5_confessed_153 : decode cX5_confessed 153 = .ok (.iload_n 3, 1) := by decide +kernel
theorem dX5_confessed_154 : decode cX5_confessed 154 = .ok (.aload_n 0, 1) := by decide +kernel
theorem dX5_confessed_155 : decode cX5_confessed 155 = .ok (.aload_n 0, 1) := by decide +kernel
theorem dX5_confessed_156 : decode cX5_confessed 156 = .ok (.invokevirtual 119, 3) := by decide +kernel
theorem dX5_confessed_159 : decode cX5_confessed 159 = .ok (.iload 7, 2) := by decide +kernel
theorem dX5_confessed_161 : decode cX5_confessed 161 = .ok (.aload_n 0, 1) := by decide +kernel
theorem dX5_confessed_162 : decode cX5_confessed 162 = .ok (.getfield 19, 3) := by decide +kernel
theorem dX5_confessed_165 : decode cX5_confessed 165 = .ok (.bipush 8, 2) := by decide +kernel
theorem dX5_confessed_167 : decode cX5_confessed 167 = .ok (.iaload, 1) := by decide +kernel
theorem dX5_confessed_168 : decode cX5_confessed 168 = .ok (.if_icmp .le 16, 3) := by decide +kernel
theorem dX5_confessed_171 : decode cX5_confessed 171 = .ok (.iload 7, 2) := by decide +kernel
theorem dX5_confessed_173 : decode cX5_confessed 173 = .ok (.aload_n 0, 1) := by decide +kernel
theorem dX5_confessed_174 : decode cX5_confessed 174 = .ok (.getfield 19, 3) := by decide +kernel
theorem dX5_confessed_177 : decode cX5_confessed 177 = .ok (.bipush 8, 2) := by decide +kernel
theorem dX5_confessed_179 : decode cX5_confessed 179 = .ok (.iaload, 1) := by decide +kernel
theorem dX5_confessed_180 : decode cX5_confessed 180 = .ok (.isub, 1) := by decide +kernel
theorem dX5_confessed_181 : decode cX5_confessed 181 = .ok (.goto 4, 3) := by decide +kernel
theorem dX5_confessed_184 : decode cX5_confessed 184 = .ok (.iconst 0, 1) := by decide +kernel
theorem dX5_confessed_185 : decode cX5_confessed 185 = .ok (.invokevirtual 125, 3) := by decide +kernel
theorem dX5_confessed_188 : decode cX5_confessed 188 = .ok (.ifCond .eq 8, 3) := by decide +kernel
theorem dX5_confessed_191 : decode cX5_confessed 191 = .ok (.iload 6, 2) := by decide +kernel
theorem dX5_confessed_193 : decode cX5_confessed 193 = .ok (.goto 4, 3) := by decide +kernel
theorem dX5_confessed_196 : decode cX5_confessed 196 = .ok (.iconst 0, 1) := by decide +kernel
theorem dX5_confessed_197 : decode cX5_confessed 197 = .ok (.iadd, 1) := by decide +kernel
theorem dX5_confessed_198 : decode cX5_confessed 198 = .ok (.istore_n 3, 1) := by decide +kernel
theorem dX5_confessed_199 : decode cX5_confessed 199 = .ok (.iinc 5 1, 3) := by decide +kernel
theorem dX5_confessed_202 : decode cX5_confessed 202 = .ok (.goto (-145), 3) := by decide +kernel
theorem dX5_confessed_205 : decode cX5_confessed 205 = .ok (.iload_n 3, 1) := by decide +kernel
theorem dX5_confessed_206 : decode cX5_confessed 206 = .ok (.istore 5, 2) := by decide +kernel
theorem dX5_confessed_208 : decode cX5_confessed 208 = .ok (.iload 4, 2) := by decide +kernel
theorem dX5_confessed_210 : decode cX5_confessed 210 = .ok (.istore 6, 2) := by decide +kernel
theorem dX5_confessed_212 : decode cX5_confessed 212 = .ok (.iload 6, 2) := by decide +kernel
theorem dX5_confessed_214 : decode cX5_confessed 214 = .ok (.ifCond .le 21, 3) := by decide +kernel
theorem dX5_confessed_217 : decode cX5_confessed 217 = .ok (.iload 5, 2) := by decide +kernel
theorem dX5_confessed_219 : decode cX5_confessed 219 = .ok (.iload 6, 2) := by decide +kernel
theorem dX5_confessed_221 : decode cX5_confessed 221 = .ok (.irem, 1) := by decide +kernel
theorem dX5_confessed_222 : decode cX5_confessed 222 = .ok (.istore 7, 2) := by decide +kernel
theorem dX5_confessed_224 : decode cX5_confessed 224 = .ok (.iload 6, 2) := by decide +kernel
theorem dX5_confessed_226 : decode cX5_confessed 226 = .ok (.istore 5, 2) := by decide +kernel
theorem dX5_confessed_228 : decode cX5_confessed 228 = .ok (.iload 7, 2) := by decide +kernel
theorem dX5_confessed_230 : decode cX5_confessed 230 = .ok (.istore 6, 2) := by decide +kernel
theorem dX5_confessed_232 : decode cX5_confessed 232 = .ok (.goto (-20), 3) := by decide +kernel
theorem dX5_confessed_235 : decode cX5_confessed 235 = .ok (.iload_n 2, 1) := by decide +kernel
theorem dX5_confessed_236 : decode cX5_confessed 236 = .ok (.ifCond .ne 10, 3) := by decide +kernel
theorem dX5_confessed_239 : decode cX5_confessed 239 = .ok (.iload_n 3, 1) := by decide +kernel
theorem dX5_confessed_240 : decode cX5_confessed 240 = .ok (.iload 5, 2) := by decide +kernel
theorem dX5_confessed_242 : decode cX5_confessed 242 = .ok (.idiv, 1) := by decide +kernel
theorem dX5_confessed_243 : decode cX5_confessed 243 = .ok (.goto 8, 3) := by decide +kernel
theorem dX5_confessed_246 : decode cX5_confessed 246 = .ok (.iload 4, 2) := by decide +kernel
theorem dX5_confessed_248 : decode cX5_confessed 248 = .ok (.iload 5, 2) := by decide +kernel
theorem dX5_confessed_250 : decode cX5_confessed 250 = .ok (.idiv, 1) := by decide +kernel
theorem dX5_confessed_251 : decode cX5_confessed 251 = .ok (.ireturn, 1) := by decide +kernel
theorem dX5_count_0 : decode cX5_count 0 = .ok (.iload_n 1, 1) := by decide +kernel
theorem dX5_count_1 : decode cX5_count 1 = .ok (.tableswitch 180 0 14 #[75, 82, 89, 97, 102, 107, 120, 128, 136, 144, 152, 160, 165, 170, 175], 75) := by decide +kernel
theorem dX5_count_76 : decode cX5_count 76 = .ok (.aload_n 0, 1) := by decide +kernel
theorem dX5_count_77 : decode cX5_count 77 = .ok (.getfield 13, 3) := by decide +kernel
theorem dX5_count_80 : decode cX5_count 80 = .ok (.iconst 0, 1) := by decide +kernel
theorem dX5_count_81 : decode cX5_count 81 = .ok (.iaload, 1) := by decide +kernel
theorem dX5_count_82 : decode cX5_count 82 = .ok (.ireturn, 1) := by decide +kernel
theorem dX5_count_83 : decode cX5_count 83 = .ok (.aload_n 0, 1) := by decide +kernel
theorem dX5_count_84 : decode cX5_count 84 = .ok (.getfield 13, 3) := by decide +kernel
theorem dX5_count_87 : decode cX5_count 87 = .ok (.iconst 1, 1) := by decide +kernel
theorem dX5_count_88 : decode cX5_count 88 = .ok (.iaload, 1) := by decide +kernel
theorem dX5_count_89 : decode cX5_count 89 = .ok (.ireturn, 1) := by decide +kernel
theorem dX5_count_90 : decode cX5_count 90 = .ok (.aload_n 0, 1) := by decide +kernel
theorem dX5_count_91 : decode cX5_count 91 = .ok (.getfield 19, 3) := by decide +kernel
theorem dX5_count_94 : decode cX5_count 94 = .ok (.bipush 9, 2) := by decide +kernel
theorem dX5_count_96 : decode cX5_count 96 = .ok (.iaload, 1) := by decide +kernel
theorem dX5_count_97 : decode cX5_count 97 = .ok (.ireturn, 1) := by decide +kernel
theorem dX5_count_98 : decode cX5_count 98 = .ok (.aload_n 0, 1) := by decide +kernel
theorem dX5_count_99 : decode cX5_count 99 = .ok (.invokevirtual 119, 3) := by decide +kernel
theorem dX5_count_102 : decode cX5_count 102 = .ok (.ireturn, 1) := by decide +kernel
theorem dX5_count_103 : decode cX5_count 103 = .ok (.aload_n 0, 1) := by decide +kernel
theorem dX5_count_104 : decode cX5_count 104 = .ok (.invokevirtual 122, 3) := by decide +kernel
theorem dX5_count_107 : decode cX5_count 107 = .ok (.ireturn, 1) := by decide +kernel
theorem dX5_count_108 : decode cX5_count 108 = .ok (.aload_n 0, 1) := by decide +kernel
theorem dX5_count_109 : decode cX5_count 109 = .ok (.invokevirtual 132, 3) := by decide +kernel
theorem dX5_count_112 : decode cX5_count 112 = .ok (.ifCond .eq 7, 3) := by decide +kernel
theorem dX5_count_115 : decode cX5_count 115 = .ok (.iconst 1, 1) := by decide +kernel
theorem dX5_count_116 : decode cX5_count 116 = .ok (.goto 4, 3) := by decide +kernel
theorem dX5_count_119 : decode cX5_count 119 = .ok (.iconst 0, 1) := by decide +kernel
theorem dX5_count_120 : decode cX5_count 120 = .ok (.ireturn, 1) := by decide +kernel
theorem dX5_count_121 : decode cX5_count 121 = .ok (.aload_n 0, 1) := by decide +kernel
theorem dX5_count_122 : decode cX5_count 122 = .ok (.getfield 19, 3) := by decide +kernel
theorem dX5_count_125 : decode cX5_count 125 = .ok (.bipush 7, 2) := by decide +kernel
theorem dX5_count_127 : decode cX5_count 127 = .ok (.iaload, 1) := by decide +kernel
theorem dX5_count_128 : decode cX5_count 128 = .ok (.ireturn, 1) := by decide +kernel
theorem dX5_count_129 : decode cX5_count 129 = .ok (.aload_n 0, 1) := by decide +kernel
theorem dX5_count_130 : decode cX5_count 130 = .ok (.getfield 19, 3) := by decide +kernel
theorem dX5_count_133 : decode cX5_count 133 = .ok (.bipush 10, 2) := by decide +kernel
theorem dX5_count_135 : decode cX5_count 135 = .ok (.iaload, 1) := by decide +kernel
theorem dX5_count_136 : decode cX5_count 136 = .ok (.ireturn, 1) := by decide +kernel
theorem dX5_count_137 : decode cX5_count 137 = .ok (.aload_n 0, 1) := by decide +kernel
theorem dX5_count_138 : decode cX5_count 138 = .ok (.getfield 19, 3) := by decide +kernel
theorem dX5_count_141 : decode cX5_count 141 = .ok (.bipush 11, 2) := by decide +kernel
theorem dX5_count_143 : decode cX5_count 143 = .ok (.iaload, 1) := by decide +kernel
theorem dX5_count_144 : decode cX5_count 144 = .ok (.ireturn, 1) := by decide +kernel
theorem dX5_count_145 : decode cX5_count 145 = .ok (.aload_n 0, 1) := by decide +kernel
theorem dX5_count_146 : decode cX5_count 146 = .ok (.getfield 19, 3) := by decide +kernel
theorem dX5_count_149 : decode cX5_count 149 = .ok (.bipush 8, 2) := by decide +kernel
theorem dX5_count_151 : decode cX5_count 151 = .ok (.iaload, 1) := by decide +kernel
theorem dX5_count_152 : decode cX5_count 152 = .ok (.ireturn, 1) := by decide +kernel
theorem dX5_count_153 : decode cX5_count 153 = .ok (.aload_n 0, 1) := by decide +kernel
theorem dX5_count_154 : decode cX5_count 154 = .ok (.getfield 19, 3) := by decide +kernel
theorem dX5_count_157 : decode cX5_count 157 = .ok (.bipush 6, 2) := by decide +kernel
theorem dX5_count_159 : decode cX5_count 159 = .ok (.iaload, 1) := by decide +kernel
theorem dX5_count_160 : decode cX5_count 160 = .ok (.ireturn, 1) := by decide +kernel
theorem dX5_count_161 : decode cX5_count 161 = .ok (.aload_n 0, 1) := by decide +kernel
theorem dX5_count_162 : decode cX5_count 162 = .ok (.getfield 98, 3) := by decide +kernel
theorem dX5_count_165 : decode cX5_count 165 = .ok (.ireturn, 1) := by decide +kernel
theorem dX5_count_166 : decode cX5_count 166 = .ok (.aload_n 0, 1) := by decide +kernel
theorem dX5_count_167 : decode cX5_count 167 = .ok (.getfield 101, 3) := by decide +kernel
theorem dX5_count_170 : decode cX5_count 170 = .ok (.ireturn, 1) := by decide +kernel
theorem dX5_count_171 : decode cX5_count 171 = .ok (.aload_n 0, 1) := by decide +kernel
theorem dX5_count_172 : decode cX5_count 172 = .ok (.getfield 95, 3) := by decide +kernel
theorem dX5_count_175 : decode cX5_count 175 = .ok (.ireturn, 1) := by decide +kernel
theorem dX5_count_176 : decode cX5_count 176 = .ok (.aload_n 0, 1) := by decide +kernel
theorem dX5_count_177 : decode cX5_count 177 = .ok (.getfield 48, 3) := by decide +kernel
theorem dX5_count_180 : decode cX5_count 180 = .ok (.ireturn, 1) := by decide +kernel
theorem dX5_count_181 : decode cX5_count 181 = .ok (.bipush (-3), 2) := by decide +kernel
theorem dX5_count_183 : decode cX5_count 183 = .ok (.ireturn, 1) := by decide +kernel
theorem dJ6_bitCount_0f7a4_0 : decode cJ6_bitCount_0f7a4 0 = .ok (.iload_n 0, 1) := by decide +kernel
theorem dJ6_bitCount_0f7a4_1 : decode cJ6_bitCount_0f7a4 1 = .ok (.iload_n 0, 1) := by decide +kernel
theorem dJ6_bitCount_0f7a4_2 : decode cJ6_bitCount_0f7a4 2 = .ok (.iconst 1, 1) := by decide +kernel
theorem dJ6_bitCount_0f7a4_3 : decode cJ6_bitCount_0f7a4 3 = .ok (.iushr, 1) := by decide +kernel
theorem dJ6_bitCount_0f7a4_4 : decode cJ6_bitCount_0f7a4 4 = .ok (.ldc_w 265, 3) := by decide +kernel
theorem dJ6_bitCount_0f7a4_7 : decode cJ6_bitCount_0f7a4 7 = .ok (.iand, 1) := by decide +kernel
theorem dJ6_bitCount_0f7a4_8 : decode cJ6_bitCount_0f7a4 8 = .ok (.isub, 1) := by decide +kernel
theorem dJ6_bitCount_0f7a4_9 : decode cJ6_bitCount_0f7a4 9 = .ok (.istore_n 0, 1) := by decide +kernel
theorem dJ6_bitCount_0f7a4_10 : decode cJ6_bitCount_0f7a4 10 = .ok (.iload_n 0, 1) := by decide +kernel
theorem dJ6_bitCount_0f7a4_11 : decode cJ6_bitCount_0f7a4 11 = .ok (.ldc_w 266, 3) := by decide +kernel
theorem dJ6_bitCount_0f7a4_14 : decode cJ6_bitCount_0f7a4 14 = .ok (.iand, 1) := by decide +kernel
theorem dJ6_bitCount_0f7a4_15 : decode cJ6_bitCount_0f7a4 15 = .ok (.iload_n 0, 1) := by decide +kernel
theorem dJ6_bitCount_0f7a4_16 : decode cJ6_bitCount_0f7a4 16 = .ok (.iconst 2, 1) := by decide +kernel
theorem dJ6_bitCount_0f7a4_17 : decode cJ6_bitCount_0f7a4 17 = .ok (.iushr, 1) := by decide +kernel
theorem dJ6_bitCount_0f7a4_18 : decode cJ6_bitCount_0f7a4 18 = .ok (.ldc_w 266, 3) := by decide +kernel
theorem dJ6_bitCount_0f7a4_21 : decode cJ6_bitCount_0f7a4 21 = .ok (.iand, 1) := by decide +kernel
theorem dJ6_bitCount_0f7a4_22 : decode cJ6_bitCount_0f7a4 22 = .ok (.iadd, 1) := by decide +kernel
theorem dJ6_bitCount_0f7a4_23 : decode cJ6_bitCount_0f7a4 23 = .ok (.istore_n 0, 1) := by decide +kernel
theorem dJ6_bitCount_0f7a4_24 : decode cJ6_bitCount_0f7a4 24 = .ok (.iload_n 0, 1) := by decide +kernel
theorem dJ6_bitCount_0f7a4_25 : decode cJ6_bitCount_0f7a4 25 = .ok (.iload_n 0, 1) := by decide +kernel
theorem dJ6_bitCount_0f7a4_26 : decode cJ6_bitCount_0f7a4 26 = .ok (.iconst 4, 1) := by decide +kernel
theorem dJ6_bitCount_0f7a4_27 : decode cJ6_bitCount_0f7a4 27 = .ok (.iushr, 1) := by decide +kernel
theorem dJ6_bitCount_0f7a4_28 : decode cJ6_bitCount_0f7a4 28 = .ok (.iadd, 1) := by decide +kernel
theorem dJ6_bitCount_0f7a4_29 : decode cJ6_bitCount_0f7a4 29 = .ok (.ldc_w 267, 3) := by decide +kernel
theorem dJ6_bitCount_0f7a4_32 : decode cJ6_bitCount_0f7a4 32 = .ok (.iand, 1) := by decide +kernel
theorem dJ6_bitCount_0f7a4_33 : decode cJ6_bitCount_0f7a4 33 = .ok (.istore_n 0, 1) := by decide +kernel
theorem dJ6_bitCount_0f7a4_34 : decode cJ6_bitCount_0f7a4 34 = .ok (.iload_n 0, 1) := by decide +kernel
theorem dJ6_bitCount_0f7a4_35 : decode cJ6_bitCount_0f7a4 35 = .ok (.iload_n 0, 1) := by decide +kernel
theorem dJ6_bitCount_0f7a4_36 : decode cJ6_bitCount_0f7a4 36 = .ok (.bipush 8, 2) := by decide +kernel
theorem dJ6_bitCount_0f7a4_38 : decode cJ6_bitCount_0f7a4 38 = .ok (.iushr, 1) := by decide +kernel
theorem dJ6_bitCount_0f7a4_39 : decode cJ6_bitCount_0f7a4 39 = .ok (.iadd, 1) := by decide +kernel
theorem dJ6_bitCount_0f7a4_40 : decode cJ6_bitCount_0f7a4 40 = .ok (.istore_n 0, 1) := by decide +kernel
theorem dJ6_bitCount_0f7a4_41 : decode cJ6_bitCount_0f7a4 41 = .ok (.iload_n 0, 1) := by decide +kernel
theorem dJ6_bitCount_0f7a4_42 : decode cJ6_bitCount_0f7a4 42 = .ok (.iload_n 0, 1) := by decide +kernel
theorem dJ6_bitCount_0f7a4_43 : decode cJ6_bitCount_0f7a4 43 = .ok (.bipush 16, 2) := by decide +kernel
theorem dJ6_bitCount_0f7a4_45 : decode cJ6_bitCount_0f7a4 45 = .ok (.iushr, 1) := by decide +kernel
theorem dJ6_bitCount_0f7a4_46 : decode cJ6_bitCount_0f7a4 46 = .ok (.iadd, 1) := by decide +kernel
theorem dJ6_bitCount_0f7a4_47 : decode cJ6_bitCount_0f7a4 47 = .ok (.istore_n 0, 1) := by decide +kernel
theorem dJ6_bitCount_0f7a4_48 : decode cJ6_bitCount_0f7a4 48 = .ok (.iload_n 0, 1) := by decide +kernel
theorem dJ6_bitCount_0f7a4_49 : decode cJ6_bitCount_0f7a4 49 = .ok (.bipush 63, 2) := by decide +kernel
theorem dJ6_bitCount_0f7a4_51 : decode cJ6_bitCount_0f7a4 51 = .ok (.iand, 1) := by decide +kernel
theorem dJ6_bitCount_0f7a4_52 : decode cJ6_bitCount_0f7a4 52 = .ok (.ireturn, 1) := by decide +kernel
theorem dJ9_abs_0f7a4_0 : decode cJ9_abs_0f7a4 0 = .ok (.iload_n 0, 1) := by decide +kernel
theorem dJ9_abs_0f7a4_1 : decode cJ9_abs_0f7a4 1 = .ok (.ifCond .ge 8, 3) := by decide +kernel
theorem dJ9_abs_0f7a4_4 : decode cJ9_abs_0f7a4 4 = .ok (.iload_n 0, 1) := by decide +kernel
theorem dJ9_abs_0f7a4_5 : decode cJ9_abs_0f7a4 5 = .ok (.ineg, 1) := by decide +kernel
theorem dJ9_abs_0f7a4_6 : decode cJ9_abs_0f7a4 6 = .ok (.goto 4, 3) := by decide +kernel
theorem dJ9_abs_0f7a4_9 : decode cJ9_abs_0f7a4 9 = .ok (.iload_n 0, 1) := by decide +kernel
theorem dJ9_abs_0f7a4_10 : decode cJ9_abs_0f7a4 10 = .ok (.ireturn, 1) := by decide +kernel
theorem dJ9_max_7cf53_0 : decode cJ9_max_7cf53 0 = .ok (.iload_n 0, 1) := by decide +kernel
theorem dJ9_max_7cf53_1 : decode cJ9_max_7cf53 1 = .ok (.iload_n 1, 1) := by decide +kernel
theorem dJ9_max_7cf53_2 : decode cJ9_max_7cf53 2 = .ok (.if_icmp .lt 7, 3) := by decide +kernel
theorem dJ9_max_7cf53_5 : decode cJ9_max_7cf53 5 = .ok (.iload_n 0, 1) := by decide +kernel
theorem dJ9_max_7cf53_6 : decode cJ9_max_7cf53 6 = .ok (.goto 4, 3) := by decide +kernel
theorem dJ9_max_7cf53_9 : decode cJ9_max_7cf53 9 = .ok (.iload_n 1, 1) := by decide +kernel
theorem dJ9_max_7cf53_10 : decode cJ9_max_7cf53 10 = .ok (.ireturn, 1) := by decide +kernel
theorem dJ9_min_7cf53_0 : decode cJ9_min_7cf53 0 = .ok (.iload_n 0, 1) := by decide +kernel
theorem dJ9_min_7cf53_1 : decode cJ9_min_7cf53 1 = .ok (.iload_n 1, 1) := by decide +kernel
theorem dJ9_min_7cf53_2 : decode cJ9_min_7cf53 2 = .ok (.if_icmp .gt 7, 3) := by decide +kernel
theorem dJ9_min_7cf53_5 : decode cJ9_min_7cf53 5 = .ok (.iload_n 0, 1) := by decide +kernel
theorem dJ9_min_7cf53_6 : decode cJ9_min_7cf53 6 = .ok (.goto 4, 3) := by decide +kernel
theorem dJ9_min_7cf53_9 : decode cJ9_min_7cf53 9 = .ok (.iload_n 1, 1) := by decide +kernel
theorem dJ9_min_7cf53_10 : decode cJ9_min_7cf53 10 = .ok (.ireturn, 1) := by decide +kernel
theorem dJ0_length_8abf5_0 : decode cJ0_length_8abf5 0 = .ok (.aload_n 0, 1) := by decide +kernel
theorem dJ0_length_8abf5_1 : decode cJ0_length_8abf5 1 = .ok (.getfield 9, 3) := by decide +kernel
theorem dJ0_length_8abf5_4 : decode cJ0_length_8abf5 4 = .ok (.arraylength, 1) := by decide +kernel
theorem dJ0_length_8abf5_5 : decode cJ0_length_8abf5 5 = .ok (.aload_n 0, 1) := by decide +kernel
theorem dJ0_length_8abf5_6 : decode cJ0_length_8abf5 6 = .ok (.invokevirtual 335, 3) := by decide +kernel
theorem dJ0_length_8abf5_9 : decode cJ0_length_8abf5 9 = .ok (.ishr, 1) := by decide +kernel
theorem dJ0_length_8abf5_10 : decode cJ0_length_8abf5 10 = .ok (.ireturn, 1) := by decide +kernel
theorem dJ0_charAt_5068e_0 : decode cJ0_charAt_5068e 0 = .ok (.aload_n 0, 1) := by decide +kernel
theorem dJ0_charAt_5068e_1 : decode cJ0_charAt_5068e 1 = .ok (.invokevirtual 492, 3) := by decide +kernel
theorem dJ0_charAt_5068e_4 : decode cJ0_charAt_5068e 4 = .ok (.ifCond .eq 12, 3) := by decide +kernel
theorem dJ0_charAt_5068e_7 : decode cJ0_charAt_5068e 7 = .ok (.aload_n 0, 1) := by decide +kernel
theorem dJ0_charAt_5068e_8 : decode cJ0_charAt_5068e 8 = .ok (.getfield 9, 3) := by decide +kernel
theorem dJ0_charAt_5068e_11 : decode cJ0_charAt_5068e 11 = .ok (.iload_n 1, 1) := by decide +kernel
theorem dJ0_charAt_5068e_12 : decode cJ0_charAt_5068e 12 = .ok (.invokestatic 495, 3) := by decide +kernel
theorem dJ0_charAt_5068e_15 : decode cJ0_charAt_5068e 15 = .ok (.ireturn, 1) := by decide +kernel
theorem dJ0_charAt_5068e_16 : decode cJ0_charAt_5068e 16 = .ok (.aload_n 0, 1) := by decide +kernel
theorem dJ0_charAt_5068e_17 : decode cJ0_charAt_5068e 17 = .ok (.getfield 9, 3) := by decide +kernel
theorem dJ0_charAt_5068e_20 : decode cJ0_charAt_5068e 20 = .ok (.iload_n 1, 1) := by decide +kernel
theorem dJ0_charAt_5068e_21 : decode cJ0_charAt_5068e 21 = .ok (.invokestatic 498, 3) := by decide +kernel
theorem dJ0_charAt_5068e_24 : decode cJ0_charAt_5068e 24 = .ok (.ireturn, 1) := by decide +kernel
theorem dJ0_coder_7d493_0 : decode cJ0_coder_7d493 0 = .ok (.getstatic 38, 3) := by decide +kernel
theorem dJ0_coder_7d493_3 : decode cJ0_coder_7d493 3 = .ok (.ifCond .eq 10, 3) := by decide +kernel
theorem dJ0_coder_7d493_6 : decode cJ0_coder_7d493 6 = .ok (.aload_n 0, 1) := by decide +kernel
theorem dJ0_coder_7d493_7 : decode cJ0_coder_7d493 7 = .ok (.getfield 15, 3) := by decide +kernel
theorem dJ0_coder_7d493_10 : decode cJ0_coder_7d493 10 = .ok (.goto 4, 3) := by decide +kernel
theorem dJ0_coder_7d493_13 : decode cJ0_coder_7d493 13 = .ok (.iconst 1, 1) := by decide +kernel
theorem dJ0_coder_7d493_14 : decode cJ0_coder_7d493 14 = .ok (.ireturn, 1) := by decide +kernel
theorem dJ0_isLatin1_aae02_0 : decode cJ0_isLatin1_aae02 0 = .ok (.getstatic 38, 3) := by decide +kernel
theorem dJ0_isLatin1_aae02_3 : decode cJ0_isLatin1_aae02 3 = .ok (.ifCond .eq 14, 3) := by decide +kernel
theorem dJ0_isLatin1_aae02_6 : decode cJ0_isLatin1_aae02 6 = .ok (.aload_n 0, 1) := by decide +kernel
theorem dJ0_isLatin1_aae02_7 : decode cJ0_isLatin1_aae02 7 = .ok (.getfield 15, 3) := by decide +kernel
theorem dJ0_isLatin1_aae02_10 : decode cJ0_isLatin1_aae02 10 = .ok (.ifCond .ne 7, 3) := by decide +kernel
theorem dJ0_isLatin1_aae02_13 : decode cJ0_isLatin1_aae02 13 = .ok (.iconst 1, 1) := by decide +kernel
theorem dJ0_isLatin1_aae02_14 : decode cJ0_isLatin1_aae02 14 = .ok (.goto 4, 3) := by decide +kernel
theorem dJ0_isLatin1_aae02_17 : decode cJ0_isLatin1_aae02 17 = .ok (.iconst 0, 1) := by decide +kernel
theorem dJ0_isLatin1_aae02_18 : decode cJ0_isLatin1_aae02 18 = .ok (.ireturn, 1) := by decide +kernel
theorem dJ0_checkIndex_df160_0 : decode cJ0_checkIndex_df160 0 = .ok (.iload_n 0, 1) := by decide +kernel
theorem dJ0_checkIndex_df160_1 : decode cJ0_checkIndex_df160 1 = .ok (.iload_n 1, 1) := by decide +kernel
theorem dJ0_checkIndex_df160_2 : decode cJ0_checkIndex_df160 2 = .ok (.getstatic 1053, 3) := by decide +kernel
theorem dJ0_checkIndex_df160_5 : decode cJ0_checkIndex_df160 5 = .ok (.invokestatic 1059, 3) := by decide +kernel
theorem dJ0_checkIndex_df160_8 : decode cJ0_checkIndex_df160 8 = .ok (.pop, 1) := by decide +kernel
theorem dJ0_checkIndex_df160_9 : decode cJ0_checkIndex_df160 9 = .ok (.return_, 1) := by decide +kernel
theorem dJ1_charAt_3b067_0 : decode cJ1_charAt_3b067 0 = .ok (.iload_n 1, 1) := by decide +kernel
theorem dJ1_charAt_3b067_1 : decode cJ1_charAt_3b067 1 = .ok (.aload_n 0, 1) := by decide +kernel
theorem dJ1_charAt_3b067_2 : decode cJ1_charAt_3b067 2 = .ok (.arraylength, 1) := by decide +kernel
theorem dJ1_charAt_3b067_3 : decode cJ1_charAt_3b067 3 = .ok (.invokestatic 9, 3) := by decide +kernel
theorem dJ1_charAt_3b067_6 : decode cJ1_charAt_3b067 6 = .ok (.aload_n 0, 1) := by decide +kernel
theorem dJ1_charAt_3b067_7 : decode cJ1_charAt_3b067 7 = .ok (.iload_n 1, 1) := by decide +kernel
theorem dJ1_charAt_3b067_8 : decode cJ1_charAt_3b067 8 = .ok (.baload, 1) := by decide +kernel
theorem dJ1_charAt_3b067_9 : decode cJ1_charAt_3b067 9 = .ok (.sipush 255, 3) := by decide +kernel
theorem dJ1_charAt_3b067_12 : decode cJ1_charAt_3b067 12 = .ok (.iand, 1) := by decide +kernel
theorem dJ1_charAt_3b067_13 : decode cJ1_charAt_3b067 13 = .ok (.i2c, 1) := by decide +kernel
theorem dJ1_charAt_3b067_14 : decode cJ1_charAt_3b067 14 = .ok (.ireturn, 1) := by decide +kernel
theorem dJ3_checkIndex_8e157_0 : decode cJ3_checkIndex_8e157 0 = .ok (.iload_n 0, 1) := by decide +kernel
theorem dJ3_checkIndex_8e157_1 : decode cJ3_checkIndex_8e157 1 = .ok (.ifCond .lt 8, 3) := by decide +kernel
theorem dJ3_checkIndex_8e157_4 : decode cJ3_checkIndex_8e157 4 = .ok (.iload_n 0, 1) := by decide +kernel
theorem dJ3_checkIndex_8e157_5 : decode cJ3_checkIndex_8e157 5 = .ok (.iload_n 1, 1) := by decide +kernel
theorem dJ3_checkIndex_8e157_6 : decode cJ3_checkIndex_8e157 6 = .ok (.if_icmp .lt 10, 3) := by decide +kernel
theorem dJ3_checkIndex_8e157_9 : decode cJ3_checkIndex_8e157 9 = .ok (.aload_n 2, 1) := by decide +kernel
theorem dJ3_checkIndex_8e157_10 : decode cJ3_checkIndex_8e157 10 = .ok (.iload_n 0, 1) := by decide +kernel
theorem dJ3_checkIndex_8e157_11 : decode cJ3_checkIndex_8e157 11 = .ok (.iload_n 1, 1) := by decide +kernel
theorem dJ3_checkIndex_8e157_12 : decode cJ3_checkIndex_8e157 12 = .ok (.invokestatic 95, 3) := by decide +kernel
theorem dJ3_checkIndex_8e157_15 : decode cJ3_checkIndex_8e157 15 = .ok (.athrow, 1) := by decide +kernel
theorem dJ3_checkIndex_8e157_16 : decode cJ3_checkIndex_8e157 16 = .ok (.iload_n 0, 1) := by decide +kernel
theorem dJ3_checkIndex_8e157_17 : decode cJ3_checkIndex_8e157 17 = .ok (.ireturn, 1) := by decide +kernel
