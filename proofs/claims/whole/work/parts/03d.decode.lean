theorem dX12_init_0 : decode cX12_init 0 = .ok (.aload_n 0, 1) := by decide +kernel
theorem dX12_init_1 : decode cX12_init 1 = .ok (.invokespecial 1, 3) := by decide +kernel
theorem dX12_init_4 : decode cX12_init 4 = .ok (.aload_n 0, 1) := by decide +kernel
theorem dX12_init_5 : decode cX12_init 5 = .ok (.sipush 250, 3) := by decide +kernel
theorem dX12_init_8 : decode cX12_init 8 = .ok (.newarray .int, 2) := by decide +kernel
theorem dX12_init_10 : decode cX12_init 10 = .ok (.putfield 7, 3) := by decide +kernel
theorem dX12_init_13 : decode cX12_init 13 = .ok (.aload_n 0, 1) := by decide +kernel
theorem dX12_init_14 : decode cX12_init 14 = .ok (.sipush 250, 3) := by decide +kernel
theorem dX12_init_17 : decode cX12_init 17 = .ok (.newarray .int, 2) := by decide +kernel
theorem dX12_init_19 : decode cX12_init 19 = .ok (.putfield 13, 3) := by decide +kernel
theorem dX12_init_22 : decode cX12_init 22 = .ok (.aload_n 0, 1) := by decide +kernel
theorem dX12_init_23 : decode cX12_init 23 = .ok (.bipush 14, 2) := by decide +kernel
theorem dX12_init_25 : decode cX12_init 25 = .ok (.newarray .long, 2) := by decide +kernel
theorem dX12_init_27 : decode cX12_init 27 = .ok (.putfield 16, 3) := by decide +kernel
theorem dX12_init_30 : decode cX12_init 30 = .ok (.aload_n 0, 1) := by decide +kernel
theorem dX12_init_31 : decode cX12_init 31 = .ok (.bipush 14, 2) := by decide +kernel
theorem dX12_init_33 : decode cX12_init 33 = .ok (.newarray .long, 2) := by decide +kernel
theorem dX12_init_35 : decode cX12_init 35 = .ok (.putfield 20, 3) := by decide +kernel
theorem dX12_init_38 : decode cX12_init 38 = .ok (.aload_n 0, 1) := by decide +kernel
theorem dX12_init_39 : decode cX12_init 39 = .ok (.sipush 1200, 3) := by decide +kernel
theorem dX12_init_42 : decode cX12_init 42 = .ok (.newarray .int, 2) := by decide +kernel
theorem dX12_init_44 : decode cX12_init 44 = .ok (.putfield 23, 3) := by decide +kernel
theorem dX12_init_47 : decode cX12_init 47 = .ok (.aload_n 0, 1) := by decide +kernel
theorem dX12_init_48 : decode cX12_init 48 = .ok (.iconst (-1), 1) := by decide +kernel
theorem dX12_init_49 : decode cX12_init 49 = .ok (.putfield 26, 3) := by decide +kernel
theorem dX12_init_52 : decode cX12_init 52 = .ok (.aload_n 0, 1) := by decide +kernel
theorem dX12_init_53 : decode cX12_init 53 = .ok (.sipush 1000, 3) := by decide +kernel
theorem dX12_init_56 : decode cX12_init 56 = .ok (.newarray .int, 2) := by decide +kernel
theorem dX12_init_58 : decode cX12_init 58 = .ok (.putfield 30, 3) := by decide +kernel
theorem dX12_init_61 : decode cX12_init 61 = .ok (.aload_n 0, 1) := by decide +kernel
theorem dX12_init_62 : decode cX12_init 62 = .ok (.sipush 336, 3) := by decide +kernel
theorem dX12_init_65 : decode cX12_init 65 = .ok (.newarray .int, 2) := by decide +kernel
theorem dX12_init_67 : decode cX12_init 67 = .ok (.putfield 33, 3) := by decide +kernel
theorem dX12_init_70 : decode cX12_init 70 = .ok (.aload_n 0, 1) := by decide +kernel
theorem dX12_init_71 : decode cX12_init 71 = .ok (.bipush 14, 2) := by decide +kernel
theorem dX12_init_73 : decode cX12_init 73 = .ok (.newarray .int, 2) := by decide +kernel
theorem dX12_init_75 : decode cX12_init 75 = .ok (.putfield 36, 3) := by decide +kernel
theorem dX12_init_78 : decode cX12_init 78 = .ok (.aload_n 0, 1) := by decide +kernel
theorem dX12_init_79 : decode cX12_init 79 = .ok (.bipush 14, 2) := by decide +kernel
theorem dX12_init_81 : decode cX12_init 81 = .ok (.newarray .int, 2) := by decide +kernel
theorem dX12_init_83 : decode cX12_init 83 = .ok (.putfield 39, 3) := by decide +kernel
theorem dX12_init_86 : decode cX12_init 86 = .ok (.aload_n 0, 1) := by decide +kernel
theorem dX12_init_87 : decode cX12_init 87 = .ok (.bipush 14, 2) := by decide +kernel
theorem dX12_init_89 : decode cX12_init 89 = .ok (.newarray .int, 2) := by decide +kernel
theorem dX12_init_91 : decode cX12_init 91 = .ok (.putfield 42, 3) := by decide +kernel
theorem dX12_init_94 : decode cX12_init 94 = .ok (.aload_n 0, 1) := by decide +kernel
theorem dX12_init_95 : decode cX12_init 95 = .ok (.bipush 14, 2) := by decide +kernel
theorem dX12_init_97 : decode cX12_init 97 = .ok (.newarray .int, 2) := by decide +kernel
theorem dX12_init_99 : decode cX12_init 99 = .ok (.putfield 45, 3) := by decide +kernel
theorem dX12_init_102 : decode cX12_init 102 = .ok (.aload_n 0, 1) := by decide +kernel
theorem dX12_init_103 : decode cX12_init 103 = .ok (.bipush 14, 2) := by decide +kernel
theorem dX12_init_105 : decode cX12_init 105 = .ok (.newarray .int, 2) := by decide +kernel
theorem dX12_init_107 : decode cX12_init 107 = .ok (.putfield 48, 3) := by decide +kernel
theorem dX12_init_110 : decode cX12_init 110 = .ok (.aload_n 0, 1) := by decide +kernel
theorem dX12_init_111 : decode cX12_init 111 = .ok (.bipush 8, 2) := by decide +kernel
theorem dX12_init_113 : decode cX12_init 113 = .ok (.newarray .int, 2) := by decide +kernel
theorem dX12_init_115 : decode cX12_init 115 = .ok (.putfield 51, 3) := by decide +kernel
theorem dX12_init_118 : decode cX12_init 118 = .ok (.aload_n 0, 1) := by decide +kernel
theorem dX12_init_119 : decode cX12_init 119 = .ok (.bipush 100, 2) := by decide +kernel
theorem dX12_init_121 : decode cX12_init 121 = .ok (.newarray .int, 2) := by decide +kernel
theorem dX12_init_123 : decode cX12_init 123 = .ok (.putfield 54, 3) := by decide +kernel
theorem dX12_init_126 : decode cX12_init 126 = .ok (.aload_n 0, 1) := by decide +kernel
theorem dX12_init_127 : decode cX12_init 127 = .ok (.sipush 756, 3) := by decide +kernel
theorem dX12_init_130 : decode cX12_init 130 = .ok (.newarray .int, 2) := by decide +kernel
theorem dX12_init_132 : decode cX12_init 132 = .ok (.putfield 57, 3) := by decide +kernel
theorem dX12_init_135 : decode cX12_init 135 = .ok (.aload_n 0, 1) := by decide +kernel
theorem dX12_init_136 : decode cX12_init 136 = .ok (.iconst 4, 1) := by decide +kernel
theorem dX12_init_137 : decode cX12_init 137 = .ok (.newarray .boolean, 2) := by decide +kernel
theorem dX12_init_139 : decode cX12_init 139 = .ok (.putfield 60, 3) := by decide +kernel
theorem dX12_init_142 : decode cX12_init 142 = .ok (.aload_n 0, 1) := by decide +kernel
theorem dX12_init_143 : decode cX12_init 143 = .ok (.bipush 14, 2) := by decide +kernel
theorem dX12_init_145 : decode cX12_init 145 = .ok (.newarray .int, 2) := by decide +kernel
theorem dX12_init_147 : decode cX12_init 147 = .ok (.putfield 64, 3) := by decide +kernel
theorem dX12_init_150 : decode cX12_init 150 = .ok (.aload_n 0, 1) := by decide +kernel
theorem dX12_init_151 : decode cX12_init 151 = .ok (.bipush 14, 2) := by decide +kernel
theorem dX12_init_153 : decode cX12_init 153 = .ok (.newarray .int, 2) := by decide +kernel
theorem dX12_init_155 : decode cX12_init 155 = .ok (.putfield 67, 3) := by decide +kernel
theorem dX12_init_158 : decode cX12_init 158 = .ok (.aload_n 0, 1) := by decide +kernel
theorem dX12_init_159 : decode cX12_init 159 = .ok (.iconst 4, 1) := by decide +kernel
theorem dX12_init_160 : decode cX12_init 160 = .ok (.newarray .int, 2) := by decide +kernel
theorem dX12_init_162 : decode cX12_init 162 = .ok (.putfield 70, 3) := by decide +kernel
theorem dX12_init_165 : decode cX12_init 165 = .ok (.aload_n 0, 1) := by decide +kernel
theorem dX12_init_166 : decode cX12_init 166 = .ok (.iconst 4, 1) := by decide +kernel
theorem dX12_init_167 : decode cX12_init 167 = .ok (.newarray .int, 2) := by decide +kernel
theorem dX12_init_169 : decode cX12_init 169 = .ok (.putfield 73, 3) := by decide +kernel
theorem dX12_init_172 : decode cX12_init 172 = .ok (.aload_n 0, 1) := by decide +kernel
theorem dX12_init_173 : decode cX12_init 173 = .ok (.iconst 4, 1) := by decide +kernel
theorem dX12_init_174 : decode cX12_init 174 = .ok (.newarray .int, 2) := by decide +kernel
theorem dX12_init_176 : decode cX12_init 176 = .ok (.putfield 76, 3) := by decide +kernel
theorem dX12_init_179 : decode cX12_init 179 = .ok (.aload_n 0, 1) := by decide +kernel
theorem dX12_init_180 : decode cX12_init 180 = .ok (.sipush 300, 3) := by decide +kernel
theorem dX12_init_183 : decode cX12_init 183 = .ok (.newarray .int, 2) := by decide +kernel
theorem dX12_init_185 : decode cX12_init 185 = .ok (.putfield 79, 3) := by decide +kernel
theorem dX12_init_188 : decode cX12_init 188 = .ok (.aload_n 0, 1) := by decide +kernel
theorem dX12_init_189 : decode cX12_init 189 = .ok (.invokevirtual 82, 3) := by decide +kernel
theorem dX12_init_192 : decode cX12_init 192 = .ok (.aload_n 0, 1) := by decide +kernel
theorem dX12_init_193 : decode cX12_init 193 = .ok (.invokevirtual 85, 3) := by decide +kernel
theorem dX12_init_196 : decode cX12_init 196 = .ok (.return_, 1) := by decide +kernel
theorem dX12_in_0 : decode cX12_in 0 = .ok (.lload_n 0, 1) := by decide +kernel
theorem dX12_in_1 : decode cX12_in 1 = .ok (.lload_n 2, 1) := by decide +kernel
theorem dX12_in_2 : decode cX12_in 2 = .ok (.lcmp, 1) := by decide +kernel
theorem dX12_in_3 : decode cX12_in 3 = .ok (.ifCond .lt 14, 3) := by decide +kernel
theorem dX12_in_6 : decode cX12_in 6 = .ok (.lload_n 0, 1) := by decide +kernel
theorem dX12_in_7 : decode cX12_in 7 = .ok (.lload 4, 2) := by decide +kernel
theorem dX12_in_9 : decode cX12_in 9 = .ok (.lcmp, 1) := by decide +kernel
theorem dX12_in_10 : decode cX12_in 10 = .ok (.ifCond .gt 7, 3) := by decide +kernel
theorem dX12_in_13 : decode cX12_in 13 = .ok (.iconst 1, 1) := by decide +kernel
theorem dX12_in_14 : decode cX12_in 14 = .ok (.goto 4, 3) := by decide +kernel
theorem dX12_in_17 : decode cX12_in 17 = .ok (.iconst 0, 1) := by decide +kernel
theorem dX12_in_18 : decode cX12_in 18 = .ok (.ireturn, 1) := by decide +kernel
theorem dX12_has_0 : decode cX12_has 0 = .ok (.iload_n 0, 1) := by decide +kernel
theorem dX12_has_1 : decode cX12_has 1 = .ok (.iload_n 1, 1) := by decide +kernel
theorem dX12_has_2 : decode cX12_has 2 = .ok (.ishr, 1) := by decide +kernel
theorem dX12_has_3 : decode cX12_has 3 = .ok (.iconst 1, 1) := by decide +kernel
theorem dX12_has_4 : decode cX12_has 4 = .ok (.iand, 1) := by decide +kernel
theorem dX12_has_5 : decode cX12_has 5 = .ok (.iconst 1, 1) := by decide +kernel
theorem dX12_has_6 : decode cX12_has 6 = .ok (.if_icmp .ne 7, 3) := by decide +kernel
theorem dX12_has_9 : decode cX12_has 9 = .ok (.iconst 1, 1) := by decide +kernel
theorem dX12_has_10 : decode cX12_has 10 = .ok (.goto 4, 3) := by decide +kernel
theorem dX12_has_13 : decode cX12_has 13 = .ok (.iconst 0, 1) := by decide +kernel
theorem dX12_has_14 : decode cX12_has 14 = .ok (.ireturn, 1) := by decide +kernel
theorem dX12_feed_0 : decode cX12_feed 0 = .ok (.aload_n 0, 1) := by decide +kernel
theorem dX12_feed_1 : decode cX12_feed 1 = .ok (.getfield 88, 3) := by decide +kernel
theorem dX12_feed_4 : decode cX12_feed 4 = .ok (.bipush 20, 2) := by decide +kernel
theorem dX12_feed_6 : decode cX12_feed 6 = .ok (.iadd, 1) := by decide +kernel
theorem dX12_feed_7 : decode cX12_feed 7 = .ok (.sipush 1200, 3) := by decide +kernel
theorem dX12_feed_10 : decode cX12_feed 10 = .ok (.if_icmp .le 5, 3) := by decide +kernel
theorem dX12_feed_13 : decode cX12_feed 13 = .ok (.iconst (-1), 1) := by decide +kernel
theorem dX12_feed_14 : decode cX12_feed 14 = .ok (.ireturn, 1) := by decide +kernel
theorem dX12_feed_15 : decode cX12_feed 15 = .ok (.aload_n 0, 1) := by decide +kernel
theorem dX12_feed_16 : decode cX12_feed 16 = .ok (.iload_n 1, 1) := by decide +kernel
theorem dX12_feed_17 : decode cX12_feed 17 = .ok (.invokevirtual 91, 3) := by decide +kernel
theorem dX12_feed_20 : decode cX12_feed 20 = .ok (.aload_n 0, 1) := by decide +kernel
theorem dX12_feed_21 : decode cX12_feed 21 = .ok (.iload_n 2, 1) := by decide +kernel
theorem dX12_feed_22 : decode cX12_feed 22 = .ok (.invokevirtual 91, 3) := by decide +kernel
theorem dX12_feed_25 : decode cX12_feed 25 = .ok (.aload_n 0, 1) := by decide +kernel
theorem dX12_feed_26 : decode cX12_feed 26 = .ok (.iload_n 3, 1) := by decide +kernel
theorem dX12_feed_27 : decode cX12_feed 27 = .ok (.invokevirtual 91, 3) := by decide +kernel
theorem dX12_feed_30 : decode cX12_feed 30 = .ok (.aload_n 0, 1) := by decide +kernel
theorem dX12_feed_31 : decode cX12_feed 31 = .ok (.iload 4, 2) := by decide +kernel
theorem dX12_feed_33 : decode cX12_feed 33 = .ok (.invokevirtual 91, 3) := by decide +kernel
theorem dX12_feed_36 : decode cX12_feed 36 = .ok (.aload_n 0, 1) := by decide +kernel
theorem dX12_feed_37 : decode cX12_feed 37 = .ok (.iload 5, 2) := by decide +kernel
theorem dX12_feed_39 : decode cX12_feed 39 = .ok (.invokevirtual 91, 3) := by decide +kernel
theorem dX12_feed_42 : decode cX12_feed 42 = .ok (.aload_n 0, 1) := by decide +kernel
theorem dX12_feed_43 : decode cX12_feed 43 = .ok (.getfield 88, 3) := by decide +kernel
theorem dX12_feed_46 : decode cX12_feed 46 = .ok (.ireturn, 1) := by decide +kernel
theorem dX12_four_0 : decode cX12_four 0 = .ok (.iconst 3, 1) := by decide +kernel
theorem dX12_four_1 : decode cX12_four 1 = .ok (.istore_n 2, 1) := by decide +kernel
theorem dX12_four_2 : decode cX12_four 2 = .ok (.iload_n 2, 1) := by decide +kernel
theorem dX12_four_3 : decode cX12_four 3 = .ok (.ifCond .lt 38, 3) := by decide +kernel
theorem dX12_four_6 : decode cX12_four 6 = .ok (.aload_n 0, 1) := by decide +kernel
theorem dX12_four_7 : decode cX12_four 7 = .ok (.getfield 23, 3) := by decide +kernel
theorem dX12_four_10 : decode cX12_four 10 = .ok (.aload_n 0, 1) := by decide +kernel
theorem dX12_four_11 : decode cX12_four 11 = .ok (.getfield 88, 3) := by decide +kernel
theorem dX12_four_14 : decode cX12_four 14 = .ok (.iload_n 1, 1) := by decide +kernel
theorem dX12_four_15 : decode cX12_four 15 = .ok (.bipush 8, 2) := by decide +kernel
theorem dX12_four_17 : decode cX12_four 17 = .ok (.iload_n 2, 1) := by decide +kernel
theorem dX12_four_18 : decode cX12_four 18 = .ok (.imul, 1) := by decide +kernel
theorem dX12_four_19 : decode cX12_four 19 = .ok (.ishr, 1) := by decide +kernel
theorem dX12_four_20 : decode cX12_four 20 = .ok (.sipush 255, 3) := by decide +kernel
theorem dX12_four_23 : decode cX12_four 23 = .ok (.iand, 1) := by decide +kernel
theorem dX12_four_24 : decode cX12_four 24 = .ok (.iastore, 1) := by decide +kernel
theorem dX12_four_25 : decode cX12_four 25 = .ok (.aload_n 0, 1) := by decide +kernel
theorem dX12_four_26 : decode cX12_four 26 = .ok (.aload_n 0, 1) := by decide +kernel
theorem dX12_four_27 : decode cX12_four 27 = .ok (.getfield 88, 3) := by decide +kernel
theorem dX12_four_30 : decode cX12_four 30 = .ok (.iconst 1, 1) := by decide +kernel
theorem dX12_four_31 : decode cX12_four 31 = .ok (.iadd, 1) := by decide +kernel
theorem dX12_four_32 : decode cX12_four 32 = .ok (.putfield 88, 3) := by decide +kernel
theorem dX12_four_35 : decode cX12_four 35 = .ok (.iinc 2 (-1), 3) := by decide +kernel
theorem dX12_four_38 : decode cX12_four 38 = .ok (.goto (-36), 3) := by decide +kernel
theorem dX12_four_41 : decode cX12_four 41 = .ok (.return_, 1) := by decide +kernel
theorem dX12_isLetter_0 : decode cX12_isLetter 0 = .ok (.iload_n 0, 1) := by decide +kernel
theorem dX12_isLetter_1 : decode cX12_isLetter 1 = .ok (.i2l, 1) := by decide +kernel
theorem dX12_isLetter_2 : decode cX12_isLetter 2 = .ok (.ldc2_w 95, 3) := by decide +kernel
theorem dX12_isLetter_5 : decode cX12_isLetter 5 = .ok (.ldc2_w 97, 3) := by decide +kernel
theorem dX12_isLetter_8 : decode cX12_isLetter 8 = .ok (.invokestatic 99, 3) := by decide +kernel
theorem dX12_isLetter_11 : decode cX12_isLetter 11 = .ok (.ireturn, 1) := by decide +kernel
theorem dX12_isDigit_0 : decode cX12_isDigit 0 = .ok (.iload_n 0, 1) := by decide +kernel
theorem dX12_isDigit_1 : decode cX12_isDigit 1 = .ok (.i2l, 1) := by decide +kernel
theorem dX12_isDigit_2 : decode cX12_isDigit 2 = .ok (.ldc2_w 103, 3) := by decide +kernel
theorem dX12_isDigit_5 : decode cX12_isDigit 5 = .ok (.ldc2_w 105, 3) := by decide +kernel
theorem dX12_isDigit_8 : decode cX12_isDigit 8 = .ok (.invokestatic 99, 3) := by decide +kernel
theorem dX12_isDigit_11 : decode cX12_isDigit 11 = .ok (.ireturn, 1) := by decide +kernel
theorem dX12_byteAt_0 : decode cX12_byteAt 0 = .ok (.iload_n 1, 1) := by decide +kernel
theorem dX12_byteAt_1 : decode cX12_byteAt 1 = .ok (.ifCond .lt 20, 3) := by decide +kernel
theorem dX12_byteAt_4 : decode cX12_byteAt 4 = .ok (.iload_n 1, 1) := by decide +kernel
theorem dX12_byteAt_5 : decode cX12_byteAt 5 = .ok (.aload_n 0, 1) := by decide +kernel
theorem dX12_byteAt_6 : decode cX12_byteAt 6 = .ok (.getfield 107, 3) := by decide +kernel
theorem dX12_byteAt_9 : decode cX12_byteAt 9 = .ok (.if_icmp .ge 12, 3) := by decide +kernel
theorem dX12_byteAt_12 : decode cX12_byteAt 12 = .ok (.aload_n 0, 1) := by decide +kernel
theorem dX12_byteAt_13 : decode cX12_byteAt 13 = .ok (.getfield 23, 3) := by decide +kernel
theorem dX12_byteAt_16 : decode cX12_byteAt 16 = .ok (.iload_n 1, 1) := by decide +kernel
theorem dX12_byteAt_17 : decode cX12_byteAt 17 = .ok (.iaload, 1) := by decide +kernel
theorem dX12_byteAt_18 : decode cX12_byteAt 18 = .ok (.goto 4, 3) := by decide +kernel
theorem dX12_byteAt_21 : decode cX12_byteAt 21 = .ok (.iconst (-1), 1) := by decide +kernel
theorem dX12_byteAt_22 : decode cX12_byteAt 22 = .ok (.ireturn, 1) := by decide +kernel
theorem dX12_goOn_0 : decode cX12_goOn 0 = .ok (.aload_n 0, 1) := by decide +kernel
theorem dX12_goOn_1 : decode cX12_goOn 1 = .ok (.aload_n 0, 1) := by decide +kernel
theorem dX12_goOn_2 : decode cX12_goOn 2 = .ok (.getfield 110, 3) := by decide +kernel
theorem dX12_goOn_5 : decode cX12_goOn 5 = .ok (.invokevirtual 113, 3) := by decide +kernel
theorem dX12_goOn_8 : decode cX12_goOn 8 = .ok (.bipush 32, 2) := by decide +kernel
theorem dX12_goOn_10 : decode cX12_goOn 10 = .ok (.if_icmp .eq 16, 3) := by decide +kernel
theorem dX12_goOn_13 : decode cX12_goOn 13 = .ok (.aload_n 0, 1) := by decide +kernel
theorem dX12_goOn_14 : decode cX12_goOn 14 = .ok (.aload_n 0, 1) := by decide +kernel
theorem dX12_goOn_15 : decode cX12_goOn 15 = .ok (.getfield 110, 3) := by decide +kernel
theorem dX12_goOn_18 : decode cX12_goOn 18 = .ok (.invokevirtual 113, 3) := by decide +kernel
theorem dX12_goOn_21 : decode cX12_goOn 21 = .ok (.bipush 10, 2) := by decide +kernel
theorem dX12_goOn_23 : decode cX12_goOn 23 = .ok (.if_icmp .ne 16, 3) := by decide +kernel
theorem dX12_goOn_26 : decode cX12_goOn 26 = .ok (.aload_n 0, 1) := by decide +kernel
theorem dX12_goOn_27 : decode cX12_goOn 27 = .ok (.aload_n 0, 1) := by decide +kernel
theorem dX12_goOn_28 : decode cX12_goOn 28 = .ok (.getfield 110, 3) := by decide +kernel
theorem dX12_goOn_31 : decode cX12_goOn 31 = .ok (.iconst 1, 1) := by decide +kernel
theorem dX12_goOn_32 : decode cX12_goOn 32 = .ok (.iadd, 1) := by decide +kernel
theorem dX12_goOn_33 : decode cX12_goOn 33 = .ok (.putfield 110, 3) := by decide +kernel
theorem dX12_goOn_36 : decode cX12_goOn 36 = .ok (.goto (-36), 3) := by decide +kernel
theorem dX12_goOn_39 : decode cX12_goOn 39 = .ok (.aload_n 0, 1) := by decide +kernel
theorem dX12_goOn_40 : decode cX12_goOn 40 = .ok (.aload_n 0, 1) := by decide +kernel
theorem dX12_goOn_41 : decode cX12_goOn 41 = .ok (.getfield 110, 3) := by decide +kernel
theorem dX12_goOn_44 : decode cX12_goOn 44 = .ok (.putfield 117, 3) := by decide +kernel
theorem dX12_goOn_47 : decode cX12_goOn 47 = .ok (.aload_n 0, 1) := by decide +kernel
theorem dX12_goOn_48 : decode cX12_goOn 48 = .ok (.aload_n 0, 1) := by decide +kernel
theorem dX12_goOn_49 : decode cX12_goOn 49 = .ok (.getfield 110, 3) := by decide +kernel
theorem dX12_goOn_52 : decode cX12_goOn 52 = .ok (.invokevirtual 113, 3) := by decide +kernel
theorem dX12_goOn_55 : decode cX12_goOn 55 = .ok (.istore_n 1, 1) := by decide +kernel
theorem dX12_goOn_56 : decode cX12_goOn 56 = .ok (.iload_n 1, 1) := by decide +kernel
theorem dX12_goOn_57 : decode cX12_goOn 57 = .ok (.iconst (-1), 1) := by decide +kernel
theorem dX12_goOn_58 : decode cX12_goOn 58 = .ok (.if_icmp .ne 11, 3) := by decide +kernel
theorem dX12_goOn_61 : decode cX12_goOn 61 = .ok (.aload_n 0, 1) := by decide +kernel
theorem dX12_goOn_62 : decode cX12_goOn 62 = .ok (.iconst 4, 1) := by decide +kernel
theorem dX12_goOn_63 : decode cX12_goOn 63 = .ok (.putfield 120, 3) := by decide +kernel
theorem dX12_goOn_66 : decode cX12_goOn 66 = .ok (.goto 56, 3) := by decide +kernel
theorem dX12_goOn_69 : decode cX12_goOn 69 = .ok (.iload_n 1, 1) := by decide +kernel
theorem dX12_goOn_70 : decode cX12_goOn 70 = .ok (.invokestatic 123, 3) := by decide +kernel
theorem dX12_goOn_73 : decode cX12_goOn 73 = .ok (.ifCond .eq 10, 3) := by decide +kernel
theorem dX12_goOn_76 : decode cX12_goOn 76 = .ok (.aload_n 0, 1) := by decide +kernel
theorem dX12_goOn_77 : decode cX12_goOn 77 = .ok (.invokevirtual 127, 3) := by decide +kernel
theorem dX12_goOn_80 : decode cX12_goOn 80 = .ok (.goto 42, 3) := by decide +kernel
theorem dX12_goOn_83 : decode cX12_goOn 83 = .ok (.iload_n 1, 1) := by decide +kernel
theorem dX12_goOn_84 : decode cX12_goOn 84 = .ok (.invokestatic 130, 3) := by decide +kernel
theorem dX12_goOn_87 : decode cX12_goOn 87 = .ok (.ifCond .eq 10, 3) := by decide +kernel
theorem dX12_goOn_90 : decode cX12_goOn 90 = .ok (.aload_n 0, 1) := by decide +kernel
theorem dX12_goOn_91 : decode cX12_goOn 91 = .ok (.invokevirtual 133, 3) := by decide +kernel
theorem dX12_goOn_94 : decode cX12_goOn 94 = .ok (.goto 28, 3) := by decide +kernel
theorem dX12_goOn_97 : decode cX12_goOn 97 = .ok (.aload_n 0, 1) := by decide +kernel
theorem dX12_goOn_98 : decode cX12_goOn 98 = .ok (.aload_n 0, 1) := by decide +kernel
theorem dX12_goOn_99 : decode cX12_goOn 99 = .ok (.getfield 110, 3) := by decide +kernel
theorem dX12_goOn_102 : decode cX12_goOn 102 = .ok (.iconst 1, 1) := by decide +kernel
theorem dX12_goOn_103 : decode cX12_goOn 103 = .ok (.iadd, 1) := by decide +kernel
theorem dX12_goOn_104 : decode cX12_goOn 104 = .ok (.putfield 110, 3) := by decide +kernel
theorem dX12_goOn_107 : decode cX12_goOn 107 = .ok (.aload_n 0, 1) := by decide +kernel
theorem dX12_goOn_108 : decode cX12_goOn 108 = .ok (.iload_n 1, 1) := by decide +kernel
theorem dX12_goOn_109 : decode cX12_goOn 109 = .ok (.bipush 59, 2) := by decide +kernel
theorem dX12_goOn_111 : decode cX12_goOn 111 = .ok (.if_icmp .ne 7, 3) := by decide +kernel
theorem dX12_goOn_114 : decode cX12_goOn 114 = .ok (.iconst 3, 1) := by decide +kernel
theorem dX12_goOn_115 : decode cX12_goOn 115 = .ok (.goto 4, 3) := by decide +kernel
theorem dX12_goOn_118 : decode cX12_goOn 118 = .ok (.iconst 5, 1) := by decide +kernel
theorem dX12_goOn_119 : decode cX12_goOn 119 = .ok (.putfield 120, 3) := by decide +kernel
theorem dX12_goOn_122 : decode cX12_goOn 122 = .ok (.return_, 1) := by decide +kernel
theorem dX12_letters_0 : decode cX12_letters 0 = .ok (.aload_n 0, 1) := by decide +kernel
theorem dX12_letters_1 : decode cX12_letters 1 = .ok (.aload_n 0, 1) := by decide +kernel
theorem dX12_letters_2 : decode cX12_letters 2 = .ok (.getfield 110, 3) := by decide +kernel
theorem dX12_letters_5 : decode cX12_letters 5 = .ok (.iconst 1, 1) := by decide +kernel
theorem dX12_letters_6 : decode cX12_letters 6 = .ok (.isub, 1) := by decide +kernel
theorem dX12_letters_7 : decode cX12_letters 7 = .ok (.invokevirtual 113, 3) := by decide +kernel
theorem dX12_letters_10 : decode cX12_letters 10 = .ok (.invokestatic 130, 3) := by decide +kernel
theorem dX12_letters_13 : decode cX12_letters 13 = .ok (.istore_n 1, 1) := by decide +kernel
theorem dX12_letters_14 : decode cX12_letters 14 = .ok (.iconst 0, 1) := by decide +kernel
theorem dX12_letters_15 : decode cX12_letters 15 = .ok (.istore_n 2, 1) := by decide +kernel
theorem dX12_letters_16 : decode cX12_letters 16 = .ok (.aload_n 0, 1) := by decide +kernel
theorem dX12_letters_17 : decode cX12_letters 17 = .ok (.lconst 0, 1) := by decide +kernel
theorem dX12_letters_18 : decode cX12_letters 18 = .ok (.putfield 136, 3) := by decide +kernel
theorem dX12_letters_21 : decode cX12_letters 21 = .ok (.aload_n 0, 1) := by decide +kernel
theorem dX12_letters_22 : decode cX12_letters 22 = .ok (.aload_n 0, 1) := by decide +kernel
theorem dX12_letters_23 : decode cX12_letters 23 = .ok (.getfield 110, 3) := by decide +kernel
theorem dX12_letters_26 : decode cX12_letters 26 = .ok (.invokevirtual 113, 3) := by decide +kernel
theorem dX12_letters_29 : decode cX12_letters 29 = .ok (.invokestatic 123, 3) := by decide +kernel
theorem dX12_letters_32 : decode cX12_letters 32 = .ok (.ifCond .eq 52, 3) := by decide +kernel
theorem dX12_letters_35 : decode cX12_letters 35 = .ok (.iload_n 2, 1) := by decide +kernel
theorem dX12_letters_36 : decode cX12_letters 36 = .ok (.bipush 8, 2) := by decide +kernel
theorem dX12_letters_38 : decode cX12_letters 38 = .ok (.if_icmp .ge 29, 3) := by decide +kernel
theorem dX12_letters_41 : decode cX12_letters 41 = .ok (.aload_n 0, 1) := by decide +kernel
theorem dX12_letters_42 : decode cX12_letters 42 = .ok (.ldc2_w 140, 3) := by decide +kernel
theorem dX12_letters_45 : decode cX12_letters 45 = .ok (.aload_n 0, 1) := by decide +kernel
theorem dX12_letters_46 : decode cX12_letters 46 = .ok (.getfield 136, 3) := by decide +kernel
theorem dX12_letters_49 : decode cX12_letters 49 = .ok (.lmul, 1) := by decide +kernel
theorem dX12_letters_50 : decode cX12_letters 50 = .ok (.aload_n 0, 1) := by decide +kernel
theorem dX12_letters_51 : decode cX12_letters 51 = .ok (.aload_n 0, 1) := by decide +kernel
theorem dX12_letters_52 : decode cX12_letters 52 = .ok (.getfield 110, 3) := by decide +kernel
theorem dX12_letters_55 : decode cX12_letters 55 = .ok (.invokevirtual 113, 3) := by decide +kernel
theorem dX12_letters_58 : decode cX12_letters 58 = .ok (.i2l, 1) := by decide +kernel
theorem dX12_letters_59 : decode cX12_letters 59 = .ok (.ladd, 1) := by decide +kernel
theorem dX12_letters_60 : decode cX12_letters 60 = .ok (.ldc2_w 142, 3) := by decide +kernel
theorem dX12_letters_63 : decode cX12_letters 63 = .ok (.lsub, 1) := by decide +kernel
theorem dX12_letters_64 : decode cX12_letters 64 = .ok (.putfield 136, 3) := by decide +kernel
theorem dX12_letters_67 : decode cX12_letters 67 = .ok (.iload_n 2, 1) := by decide +kernel
theorem dX12_letters_68 : decode cX12_letters 68 = .ok (.iconst 1, 1) := by decide +kernel
theorem dX12_letters_69 : decode cX12_letters 69 = .ok (.iadd, 1) := by decide +kernel
theorem dX12_letters_70 : decode cX12_letters 70 = .ok (.istore_n 2, 1) := by decide +kernel
theorem dX12_letters_71 : decode cX12_letters 71 = .ok (.aload_n 0, 1) := by decide +kernel
theorem dX12_letters_72 : decode cX12_letters 72 = .ok (.aload_n 0, 1) := by decide +kernel
theorem dX12_letters_73 : decode cX12_letters 73 = .ok (.getfield 110, 3) := by decide +kernel
theorem dX12_letters_76 : decode cX12_letters 76 = .ok (.iconst 1, 1) := by decide +kernel
theorem dX12_letters_77 : decode cX12_letters 77 = .ok (.iadd, 1) := by decide +kernel
theorem dX12_letters_78 : decode cX12_letters 78 = .ok (.putfield 110, 3) := by decide +kernel
theorem dX12_letters_81 : decode cX12_letters 81 = .ok (.goto (-60), 3) := by decide +kernel
theorem dX12_letters_84 : decode cX12_letters 84 = .ok (.aload_n 0, 1) := by decide +kernel
theorem dX12_letters_85 : decode cX12_letters 85 = .ok (.iload_n 1, 1) := by decide +kernel
theorem dX12_letters_86 : decode cX12_letters 86 = .ok (.ifCond .ne 9, 3) := by decide +kernel
theorem dX12_letters_89 : decode cX12_letters 89 = .ok (.iload_n 2, 1) := by decide +kernel
theorem dX12_letters_90 : decode cX12_letters 90 = .ok (.bipush 8, 2) := by decide +kernel
theorem dX12_letters_92 : decode cX12_letters 92 = .ok (.if_icmp .le 7, 3) := by decide +kernel
theorem dX12_letters_95 : decode cX12_letters 95 = .ok (.iconst 5, 1) := by decide +kernel
theorem dX12_letters_96 : decode cX12_letters 96 = .ok (.goto 4, 3) := by decide +kernel
theorem dX12_letters_99 : decode cX12_letters 99 = .ok (.iconst 1, 1) := by decide +kernel
theorem dX12_letters_100 : decode cX12_letters 100 = .ok (.putfield 120, 3) := by decide +kernel
theorem dX12_letters_103 : decode cX12_letters 103 = .ok (.return_, 1) := by decide +kernel
theorem dX12_digits_0 : decode cX12_digits 0 = .ok (.aload_n 0, 1) := by decide +kernel
theorem dX12_digits_1 : decode cX12_digits 1 = .ok (.aload_n 0, 1) := by decide +kernel
theorem dX12_digits_2 : decode cX12_digits 2 = .ok (.getfield 110, 3) := by decide +kernel
theorem dX12_digits_5 : decode cX12_digits 5 = .ok (.iconst 1, 1) := by decide +kernel
theorem dX12_digits_6 : decode cX12_digits 6 = .ok (.isub, 1) := by decide +kernel
theorem dX12_digits_7 : decode cX12_digits 7 = .ok (.invokevirtual 113, 3) := by decide +kernel
theorem dX12_digits_10 : decode cX12_digits 10 = .ok (.invokestatic 123, 3) := by decide +kernel
theorem dX12_digits_13 : decode cX12_digits 13 = .ok (.istore_n 1, 1) := by decide +kernel
theorem dX12_digits_14 : decode cX12_digits 14 = .ok (.iconst 0, 1) := by decide +kernel
theorem dX12_digits_15 : decode cX12_digits 15 = .ok (.istore_n 2, 1) := by decide +kernel
theorem dX12_digits_16 : decode cX12_digits 16 = .ok (.aload_n 0, 1) := by decide +kernel
theorem dX12_digits_17 : decode cX12_digits 17 = .ok (.iconst 0, 1) := by decide +kernel
theorem dX12_digits_18 : decode cX12_digits 18 = .ok (.putfield 144, 3) := by decide +kernel
theorem dX12_digits_21 : decode cX12_digits 21 = .ok (.aload_n 0, 1) := by decide +kernel
theorem dX12_digits_22 : decode cX12_digits 22 = .ok (.aload_n 0, 1) := by decide +kernel
theorem dX12_digits_23 : decode cX12_digits 23 = .ok (.getfield 110, 3) := by decide +kernel
theorem dX12_digits_26 : decode cX12_digits 26 = .ok (.invokevirtual 113, 3) := by decide +kernel
theorem dX12_digits_29 : decode cX12_digits 29 = .ok (.invokestatic 130, 3) := by decide +kernel
theorem dX12_digits_32 : decode cX12_digits 32 = .ok (.ifCond .eq 48, 3) := by decide +kernel
theorem dX12_digits_35 : decode cX12_digits 35 = .ok (.iload_n 2, 1) := by decide +kernel
theorem dX12_digits_36 : decode cX12_digits 36 = .ok (.iconst 4, 1) := by decide +kernel
theorem dX12_digits_37 : decode cX12_digits 37 = .ok (.if_icmp .ge 26, 3) := by decide +kernel
theorem dX12_digits_40 : decode cX12_digits 40 = .ok (.aload_n 0, 1) := by decide +kernel
theorem dX12_digits_41 : decode cX12_digits 41 = .ok (.bipush 10, 2) := by decide +kernel
theorem dX12_digits_43 : decode cX12_digits 43 = .ok (.aload_n 0, 1) := by decide +kernel
theorem dX12_digits_44 : decode cX12_digits 44 = .ok (.getfield 144, 3) := by decide +kernel
theorem dX12_digits_47 : decode cX12_digits 47 = .ok (.imul, 1) := by decide +kernel
theorem dX12_digits_48 : decode cX12_digits 48 = .ok (.aload_n 0, 1) := by decide +kernel
theorem dX12_digits_49 : decode cX12_digits 49 = .ok (.aload_n 0, 1) := by decide +kernel
theorem dX12_digits_50 : decode cX12_digits 50 = .ok (.getfield 110, 3) := by decide +kernel
theorem dX12_digits_53 : decode cX12_digits 53 = .ok (.invokevirtual 113, 3) := by decide +kernel
theorem dX12_digits_56 : decode cX12_digits 56 = .ok (.iadd, 1) := by decide +kernel
theorem dX12_digits_57 : decode cX12_digits 57 = .ok (.bipush 48, 2) := by decide +kernel
theorem dX12_digits_59 : decode cX12_digits 59 = .ok (.isub, 1) := by decide +kernel
theorem dX12_digits_60 : decode cX12_digits 60 = .ok (.putfield 144, 3) := by decide +kernel
theorem dX12_digits_63 : decode cX12_digits 63 = .ok (.iload_n 2, 1) := by decide +kernel
theorem dX12_digits_64 : decode cX12_digits 64 = .ok (.iconst 1, 1) := by decide +kernel
theorem dX12_digits_65 : decode cX12_digits 65 = .ok (.iadd, 1) := by decide +kernel
theorem dX12_digits_66 : decode cX12_digits 66 = .ok (.istore_n 2, 1) := by decide +kernel
theorem dX12_digits_67 : decode cX12_digits 67 = .ok (.aload_n 0, 1) := by decide +kernel
theorem dX12_digits_68 : decode cX12_digits 68 = .ok (.aload_n 0, 1) := by decide +kernel
theorem dX12_digits_69 : decode cX12_digits 69 = .ok (.getfield 110, 3) := by decide +kernel
theorem dX12_digits_72 : decode cX12_digits 72 = .ok (.iconst 1, 1) := by decide +kernel
theorem dX12_digits_73 : decode cX12_digits 73 = .ok (.iadd, 1) := by decide +kernel
theorem dX12_digits_74 : decode cX12_digits 74 = .ok (.putfield 110, 3) := by decide +kernel
theorem dX12_digits_77 : decode cX12_digits 77 = .ok (.goto (-56), 3) := by decide +kernel
theorem dX12_digits_80 : decode cX12_digits 80 = .ok (.aload_n 0, 1) := by decide +kernel
theorem dX12_digits_81 : decode cX12_digits 81 = .ok (.iload_n 1, 1) := by decide +kernel
theorem dX12_digits_82 : decode cX12_digits 82 = .ok (.ifCond .ne 8, 3) := by decide +kernel
theorem dX12_digits_85 : decode cX12_digits 85 = .ok (.iload_n 2, 1) := by decide +kernel
theorem dX12_digits_86 : decode cX12_digits 86 = .ok (.iconst 4, 1) := by decide +kernel
theorem dX12_digits_87 : decode cX12_digits 87 = .ok (.if_icmp .le 7, 3) := by decide +kernel
theorem dX12_digits_90 : decode cX12_digits 90 = .ok (.iconst 5, 1) := by decide +kernel
theorem dX12_digits_91 : decode cX12_digits 91 = .ok (.goto 4, 3) := by decide +kernel
theorem dX12_digits_94 : decode cX12_digits 94 = .ok (.iconst 2, 1) := by decide +kernel
theorem dX12_digits_95 : decode cX12_digits 95 = .ok (.putfield 120, 3) := by decide +kernel
theorem dX12_digits_98 : decode cX12_digits 98 = .ok (.return_, 1) := by decide +kernel
theorem dX12_fail_0 : decode cX12_fail 0 = .ok (.aload_n 0, 1) := by decide +kernel
theorem dX12_fail_1 : decode cX12_fail 1 = .ok (.getfield 147, 3) := by decide +kernel
theorem dX12_fail_4 : decode cX12_fail 4 = .ok (.ifCond .le 4, 3) := by decide +kernel
theorem dX12_fail_7 : decode cX12_fail 7 = .ok (.return_, 1) := by decide +kernel
theorem dX12_fail_8 : decode cX12_fail 8 = .ok (.aload_n 0, 1) := by decide +kernel
theorem dX12_fail_9 : decode cX12_fail 9 = .ok (.iload_n 1, 1) := by decide +kernel
theorem dX12_fail_10 : decode cX12_fail 10 = .ok (.putfield 147, 3) := by decide +kernel
theorem dX12_fail_13 : decode cX12_fail 13 = .ok (.aload_n 0, 1) := by decide +kernel
theorem dX12_fail_14 : decode cX12_fail 14 = .ok (.iload_n 2, 1) := by decide +kernel
theorem dX12_fail_15 : decode cX12_fail 15 = .ok (.putfield 150, 3) := by decide +kernel
theorem dX12_fail_18 : decode cX12_fail 18 = .ok (.return_, 1) := by decide +kernel
theorem dX12_number_0 : decode cX12_number 0 = .ok (.aload_n 0, 1) := by decide +kernel
theorem dX12_number_1 : decode cX12_number 1 = .ok (.getfield 147, 3) := by decide +kernel
theorem dX12_number_4 : decode cX12_number 4 = .ok (.ifCond .le 5, 3) := by decide +kernel
theorem dX12_number_7 : decode cX12_number 7 = .ok (.iload_n 1, 1) := by decide +kernel
theorem dX12_number_8 : decode cX12_number 8 = .ok (.ireturn, 1) := by decide +kernel
theorem dX12_number_9 : decode cX12_number 9 = .ok (.aload_n 0, 1) := by decide +kernel
theorem dX12_number_10 : decode cX12_number 10 = .ok (.getfield 120, 3) := by decide +kernel
theorem dX12_number_13 : decode cX12_number 13 = .ok (.iconst 2, 1) := by decide +kernel
theorem dX12_number_14 : decode cX12_number 14 = .ok (.if_icmp .eq 15, 3) := by decide +kernel
theorem dX12_number_17 : decode cX12_number 17 = .ok (.aload_n 0, 1) := by decide +kernel
theorem dX12_number_18 : decode cX12_number 18 = .ok (.iconst 1, 1) := by decide +kernel
theorem dX12_number_19 : decode cX12_number 19 = .ok (.aload_n 0, 1) := by decide +kernel
theorem dX12_number_20 : decode cX12_number 20 = .ok (.getfield 117, 3) := by decide +kernel
theorem dX12_number_23 : decode cX12_number 23 = .ok (.invokevirtual 153, 3) := by decide +kernel
theorem dX12_number_26 : decode cX12_number 26 = .ok (.goto 27, 3) := by decide +kernel
theorem dX12_number_29 : decode cX12_number 29 = .ok (.aload_n 0, 1) := by decide +kernel
theorem dX12_number_30 : decode cX12_number 30 = .ok (.getfield 144, 3) := by decide +kernel
theorem dX12_number_33 : decode cX12_number 33 = .ok (.i2l, 1) := by decide +kernel
theorem dX12_number_34 : decode cX12_number 34 = .ok (.iload_n 1, 1) := by decide +kernel
theorem dX12_number_35 : decode cX12_number 35 = .ok (.i2l, 1) := by decide +kernel
theorem dX12_number_36 : decode cX12_number 36 = .ok (.iload_n 2, 1) := by decide +kernel
theorem dX12_number_37 : decode cX12_number 37 = .ok (.i2l, 1) := by decide +kernel
theorem dX12_number_38 : decode cX12_number 38 = .ok (.invokestatic 99, 3) := by decide +kernel
theorem dX12_number_41 : decode cX12_number 41 = .ok (.ifCond .ne 12, 3) := by decide +kernel
theorem dX12_number_44 : decode cX12_number 44 = .ok (.aload_n 0, 1) := by decide +kernel
theorem dX12_number_45 : decode cX12_number 45 = .ok (.iconst 2, 1) := by decide +kernel
theorem dX12_number_46 : decode cX12_number 46 = .ok (.aload_n 0, 1) := by decide +kernel
theorem dX12_number_47 : decode cX12_number 47 = .ok (.getfield 117, 3) := by decide +kernel
theorem dX12_number_50 : decode cX12_number 50 = .ok (.invokevirtual 153, 3) := by decide +kernel
theorem dX12_number_53 : decode cX12_number 53 = .ok (.aload_n 0, 1) := by decide +kernel
theorem dX12_number_54 : decode cX12_number 54 = .ok (.aload_n 0, 1) := by decide +kernel
theorem dX12_number_55 : decode cX12_number 55 = .ok (.getfield 117, 3) := by decide +kernel
theorem dX12_number_58 : decode cX12_number 58 = .ok (.putfield 157, 3) := by decide +kernel
theorem dX12_number_61 : decode cX12_number 61 = .ok (.aload_n 0, 1) := by decide +kernel
theorem dX12_number_62 : decode cX12_number 62 = .ok (.getfield 144, 3) := by decide +kernel
theorem dX12_number_65 : decode cX12_number 65 = .ok (.istore_n 3, 1) := by decide +kernel
theorem dX12_number_66 : decode cX12_number 66 = .ok (.aload_n 0, 1) := by decide +kernel
theorem dX12_number_67 : decode cX12_number 67 = .ok (.getfield 147, 3) := by decide +kernel
theorem dX12_number_70 : decode cX12_number 70 = .ok (.ifCond .ne 7, 3) := by decide +kernel
theorem dX12_number_73 : decode cX12_number 73 = .ok (.aload_n 0, 1) := by decide +kernel
theorem dX12_number_74 : decode cX12_number 74 = .ok (.invokevirtual 160, 3) := by decide +kernel
theorem dX12_number_77 : decode cX12_number 77 = .ok (.iload_n 3, 1) := by decide +kernel
theorem dX12_number_78 : decode cX12_number 78 = .ok (.ireturn, 1) := by decide +kernel
theorem dX12_key_0 : decode cX12_key 0 = .ok (.aload_n 0, 1) := by decide +kernel
theorem dX12_key_1 : decode cX12_key 1 = .ok (.getfield 120, 3) := by decide +kernel
theorem dX12_key_4 : decode cX12_key 4 = .ok (.iconst 1, 1) := by decide +kernel
theorem dX12_key_5 : decode cX12_key 5 = .ok (.if_icmp .eq 5, 3) := by decide +kernel
theorem dX12_key_8 : decode cX12_key 8 = .ok (.iconst (-1), 1) := by decide +kernel
theorem dX12_key_9 : decode cX12_key 9 = .ok (.ireturn, 1) := by decide +kernel
theorem dX12_key_10 : decode cX12_key 10 = .ok (.aload_n 0, 1) := by decide +kernel
theorem dX12_key_11 : decode cX12_key 11 = .ok (.getfield 136, 3) := by decide +kernel
theorem dX12_key_14 : decode cX12_key 14 = .ok (.ldc2_w 163, 3) := by decide +kernel
theorem dX12_key_17 : decode cX12_key 17 = .ok (.lcmp, 1) := by decide +kernel
theorem dX12_key_18 : decode cX12_key 18 = .ok (.ifCond .ne 5, 3) := by decide +kernel
theorem dX12_key_21 : decode cX12_key 21 = .ok (.iconst 0, 1) := by decide +kernel
theorem dX12_key_22 : decode cX12_key 22 = .ok (.ireturn, 1) := by decide +kernel
theorem dX12_key_23 : decode cX12_key 23 = .ok (.aload_n 0, 1) := by decide +kernel
theorem dX12_key_24 : decode cX12_key 24 = .ok (.getfield 136, 3) := by decide +kernel
theorem dX12_key_27 : decode cX12_key 27 = .ok (.ldc2_w 165, 3) := by decide +kernel
theorem dX12_key_30 : decode cX12_key 30 = .ok (.lcmp, 1) := by decide +kernel
theorem dX12_key_31 : decode cX12_key 31 = .ok (.ifCond .ne 5, 3) := by decide +kernel
theorem dX12_key_34 : decode cX12_key 34 = .ok (.iconst 1, 1) := by decide +kernel
theorem dX12_key_35 : decode cX12_key 35 = .ok (.ireturn, 1) := by decide +kernel
theorem dX12_key_36 : decode cX12_key 36 = .ok (.aload_n 0, 1) := by decide +kernel
theorem dX12_key_37 : decode cX12_key 37 = .ok (.getfield 136, 3) := by decide +kernel
theorem dX12_key_40 : decode cX12_key 40 = .ok (.ldc2_w 167, 3) := by decide +kernel
theorem dX12_key_43 : decode cX12_key 43 = .ok (.lcmp, 1) := by decide +kernel
theorem dX12_key_44 : decode cX12_key 44 = .ok (.ifCond .ne 5, 3) := by decide +kernel
theorem dX12_key_47 : decode cX12_key 47 = .ok (.iconst 2, 1) := by decide +kernel
theorem dX12_key_48 : decode cX12_key 48 = .ok (.ireturn, 1) := by decide +kernel
theorem dX12_key_49 : decode cX12_key 49 = .ok (.aload_n 0, 1) := by decide +kernel
theorem dX12_key_50 : decode cX12_key 50 = .ok (.getfield 136, 3) := by decide +kernel
theorem dX12_key_53 : decode cX12_key 53 = .ok (.ldc2_w 169, 3) := by decide +kernel
theorem dX12_key_56 : decode cX12_key 56 = .ok (.lcmp, 1) := by decide +kernel
theorem dX12_key_57 : decode cX12_key 57 = .ok (.ifCond .ne 5, 3) := by decide +kernel
theorem dX12_key_60 : decode cX12_key 60 = .ok (.iconst 3, 1) := by decide +kernel
theorem dX12_key_61 : decode cX12_key 61 = .ok (.ireturn, 1) := by decide +kernel
theorem dX12_key_62 : decode cX12_key 62 = .ok (.aload_n 0, 1) := by decide +kernel
theorem dX12_key_63 : decode cX12_key 63 = .ok (.getfield 136, 3) := by decide +kernel
theorem dX12_key_66 : decode cX12_key 66 = .ok (.ldc2_w 171, 3) := by decide +kernel
theorem dX12_key_69 : decode cX12_key 69 = .ok (.lcmp, 1) := by decide +kernel
theorem dX12_key_70 : decode cX12_key 70 = .ok (.ifCond .ne 5, 3) := by decide +kernel
theorem dX12_key_73 : decode cX12_key 73 = .ok (.iconst 4, 1) := by decide +kernel
theorem dX12_key_74 : decode cX12_key 74 = .ok (.ireturn, 1) := by decide +kernel
theorem dX12_key_75 : decode cX12_key 75 = .ok (.aload_n 0, 1) := by decide +kernel
theorem dX12_key_76 : decode cX12_key 76 = .ok (.getfield 136, 3) := by decide +kernel
theorem dX12_key_79 : decode cX12_key 79 = .ok (.ldc2_w 173, 3) := by decide +kernel
theorem dX12_key_82 : decode cX12_key 82 = .ok (.lcmp, 1) := by decide +kernel
theorem dX12_key_83 : decode cX12_key 83 = .ok (.ifCond .ne 5, 3) := by decide +kernel
theorem dX12_key_86 : decode cX12_key 86 = .ok (.iconst 5, 1) := by decide +kernel
theorem dX12_key_87 : decode cX12_key 87 = .ok (.ireturn, 1) := by decide +kernel
theorem dX12_key_88 : decode cX12_key 88 = .ok (.aload_n 0, 1) := by decide +kernel
theorem dX12_key_89 : decode cX12_key 89 = .ok (.getfield 136, 3) := by decide +kernel
theorem dX12_key_92 : decode cX12_key 92 = .ok (.ldc2_w 175, 3) := by decide +kernel
theorem dX12_key_95 : decode cX12_key 95 = .ok (.lcmp, 1) := by decide +kernel
theorem dX12_key_96 : decode cX12_key 96 = .ok (.ifCond .ne 6, 3) := by decide +kernel
theorem dX12_key_99 : decode cX12_key 99 = .ok (.bipush 6, 2) := by decide +kernel
theorem dX12_key_101 : decode cX12_key 101 = .ok (.ireturn, 1) := by decide +kernel
theorem dX12_key_102 : decode cX12_key 102 = .ok (.aload_n 0, 1) := by decide +kernel
theorem dX12_key_103 : decode cX12_key 103 = .ok (.getfield 136, 3) := by decide +kernel
theorem dX12_key_106 : decode cX12_key 106 = .ok (.ldc2_w 177, 3) := by decide +kernel
theorem dX12_key_109 : decode cX12_key 109 = .ok (.lcmp, 1) := by decide +kernel
theorem dX12_key_110 : decode cX12_key 110 = .ok (.ifCond .ne 6, 3) := by decide +kernel
theorem dX12_key_113 : decode cX12_key 113 = .ok (.bipush 7, 2) := by decide +kernel
theorem dX12_key_115 : decode cX12_key 115 = .ok (.ireturn, 1) := by decide +kernel
theorem dX12_key_116 : decode cX12_key 116 = .ok (.aload_n 0, 1) := by decide +kernel
theorem dX12_key_117 : decode cX12_key 117 = .ok (.getfield 136, 3) := by decide +kernel
theorem dX12_key_120 : decode cX12_key 120 = .ok (.ldc2_w 179, 3) := by decide +kernel
theorem dX12_key_123 : decode cX12_key 123 = .ok (.lcmp, 1) := by decide +kernel
theorem dX12_key_124 : decode cX12_key 124 = .ok (.ifCond .ne 6, 3) := by decide +kernel
theorem dX12_key_127 : decode cX12_key 127 = .ok (.bipush 8, 2) := by decide +kernel
theorem dX12_key_129 : decode cX12_key 129 = .ok (.ireturn, 1) := by decide +kernel
theorem dX12_key_130 : decode cX12_key 130 = .ok (.aload_n 0, 1) := by decide +kernel
theorem dX12_key_131 : decode cX12_key 131 = .ok (.getfield 136, 3) := by decide +kernel
theorem dX12_key_134 : decode cX12_key 134 = .ok (.ldc2_w 181, 3) := by decide +kernel
theorem dX12_key_137 : decode cX12_key 137 = .ok (.lcmp, 1) := by decide +kernel
theorem dX12_key_138 : decode cX12_key 138 = .ok (.ifCond .ne 6, 3) := by decide +kernel
theorem dX12_key_141 : decode cX12_key 141 = .ok (.bipush 9, 2) := by decide +kernel
theorem dX12_key_143 : decode cX12_key 143 = .ok (.ireturn, 1) := by decide +kernel
theorem dX12_key_144 : decode cX12_key 144 = .ok (.aload_n 0, 1) := by decide +kernel
theorem dX12_key_145 : decode cX12_key 145 = .ok (.getfield 136, 3) := by decide +kernel
theorem dX12_key_148 : decode cX12_key 148 = .ok (.ldc2_w 183, 3) := by decide +kernel
theorem dX12_key_151 : decode cX12_key 151 = .ok (.lcmp, 1) := by decide +kernel
theorem dX12_key_152 : decode cX12_key 152 = .ok (.ifCond .ne 8, 3) := by decide +kernel
theorem dX12_key_155 : decode cX12_key 155 = .ok (.bipush 10, 2) := by decide +kernel
theorem dX12_key_157 : decode cX12_key 157 = .ok (.goto 4, 3) := by decide +kernel
theorem dX12_key_160 : decode cX12_key 160 = .ok (.iconst (-1), 1) := by decide +kernel
theorem dX12_key_161 : decode cX12_key 161 = .ok (.ireturn, 1) := by decide +kernel
theorem dX12_blank_0 : decode cX12_blank 0 = .ok (.iconst 0, 1) := by decide +kernel
theorem dX12_blank_1 : decode cX12_blank 1 = .ok (.istore_n 1, 1) := by decide +kernel
theorem dX12_blank_2 : decode cX12_blank 2 = .ok (.iload_n 1, 1) := by decide +kernel
theorem dX12_blank_3 : decode cX12_blank 3 = .ok (.sipush 250, 3) := by decide +kernel
theorem dX12_blank_6 : decode cX12_blank 6 = .ok (.if_icmp .ge 16, 3) := by decide +kernel
theorem dX12_blank_9 : decode cX12_blank 9 = .ok (.aload_n 0, 1) := by decide +kernel
theorem dX12_blank_10 : decode cX12_blank 10 = .ok (.getfield 7, 3) := by decide +kernel
theorem dX12_blank_13 : decode cX12_blank 13 = .ok (.iload_n 1, 1) := by decide +kernel
theorem dX12_blank_14 : decode cX12_blank 14 = .ok (.iconst 0, 1) := by decide +kernel
theorem dX12_blank_15 : decode cX12_blank 15 = .ok (.iastore, 1) := by decide +kernel
theorem dX12_blank_16 : decode cX12_blank 16 = .ok (.iinc 1 1, 3) := by decide +kernel
theorem dX12_blank_19 : decode cX12_blank 19 = .ok (.goto (-17), 3) := by decide +kernel
theorem dX12_blank_22 : decode cX12_blank 22 = .ok (.iconst 0, 1) := by decide +kernel
theorem dX12_blank_23 : decode cX12_blank 23 = .ok (.istore_n 1, 1) := by decide +kernel
theorem dX12_blank_24 : decode cX12_blank 24 = .ok (.iload_n 1, 1) := by decide +kernel
theorem dX12_blank_25 : decode cX12_blank 25 = .ok (.bipush 21, 2) := by decide +kernel
theorem dX12_blank_27 : decode cX12_blank 27 = .ok (.if_icmp .ge 19, 3) := by decide +kernel
theorem dX12_blank_30 : decode cX12_blank 30 = .ok (.aload_n 0, 1) := by decide +kernel
theorem dX12_blank_31 : decode cX12_blank 31 = .ok (.getfield 7, 3) := by decide +kernel
theorem dX12_blank_34 : decode cX12_blank 34 = .ok (.bipush 103, 2) := by decide +kernel
theorem dX12_blank_36 : decode cX12_blank 36 = .ok (.iload_n 1, 1) := by decide +kernel
theorem dX12_blank_37 : decode cX12_blank 37 = .ok (.iadd, 1) := by decide +kernel
theorem dX12_blank_38 : decode cX12_blank 38 = .ok (.iconst (-1), 1) := by decide +kernel
theorem dX12_blank_39 : decode cX12_blank 39 = .ok (.iastore, 1) := by decide +kernel
theorem dX12_blank_40 : decode cX12_blank 40 = .ok (.iinc 1 1, 3) := by decide +kernel
theorem dX12_blank_43 : decode cX12_blank 43 = .ok (.goto (-19), 3) := by decide +kernel
theorem dX12_blank_46 : decode cX12_blank 46 = .ok (.aload_n 0, 1) := by decide +kernel
theorem dX12_blank_47 : decode cX12_blank 47 = .ok (.getfield 7, 3) := by decide +kernel
theorem dX12_blank_50 : decode cX12_blank 50 = .ok (.iconst 0, 1) := by decide +kernel
theorem dX12_blank_51 : decode cX12_blank 51 = .ok (.sipush 300, 3) := by decide +kernel
theorem dX12_blank_54 : decode cX12_blank 54 = .ok (.iastore, 1) := by decide +kernel
theorem dX12_blank_55 : decode cX12_blank 55 = .ok (.aload_n 0, 1) := by decide +kernel
theorem dX12_blank_56 : decode cX12_blank 56 = .ok (.getfield 7, 3) := by decide +kernel
theorem dX12_blank_59 : decode cX12_blank 59 = .ok (.iconst 3, 1) := by decide +kernel
theorem dX12_blank_60 : decode cX12_blank 60 = .ok (.bipush 100, 2) := by decide +kernel
theorem dX12_blank_62 : decode cX12_blank 62 = .ok (.iastore, 1) := by decide +kernel
theorem dX12_blank_63 : decode cX12_blank 63 = .ok (.aload_n 0, 1) := by decide +kernel
theorem dX12_blank_64 : decode cX12_blank 64 = .ok (.getfield 7, 3) := by decide +kernel
theorem dX12_blank_67 : decode cX12_blank 67 = .ok (.iconst 4, 1) := by decide +kernel
theorem dX12_blank_68 : decode cX12_blank 68 = .ok (.bipush 12, 2) := by decide +kernel
theorem dX12_blank_70 : decode cX12_blank 70 = .ok (.iastore, 1) := by decide +kernel
theorem dX12_blank_71 : decode cX12_blank 71 = .ok (.aload_n 0, 1) := by decide +kernel
theorem dX12_blank_72 : decode cX12_blank 72 = .ok (.iconst 0, 1) := by decide +kernel
theorem dX12_blank_73 : decode cX12_blank 73 = .ok (.putfield 185, 3) := by decide +kernel
theorem dX12_blank_76 : decode cX12_blank 76 = .ok (.return_, 1) := by decide +kernel
theorem dX12_lowOf_0 : decode cX12_lowOf 0 = .ok (.iload_n 0, 1) := by decide +kernel
theorem dX12_lowOf_1 : decode cX12_lowOf 1 = .ok (.ifCond .ne 8, 3) := by decide +kernel
theorem dX12_lowOf_4 : decode cX12_lowOf 4 = .ok (.bipush 50, 2) := by decide +kernel
theorem dX12_lowOf_6 : decode cX12_lowOf 6 = .ok (.goto 13, 3) := by decide +kernel
theorem dX12_lowOf_9 : decode cX12_lowOf 9 = .ok (.iload_n 0, 1) := by decide +kernel
theorem dX12_lowOf_10 : decode cX12_lowOf 10 = .ok (.iconst 4, 1) := by decide +kernel
theorem dX12_lowOf_11 : decode cX12_lowOf 11 = .ok (.if_icmp .ne 7, 3) := by decide +kernel
theorem dX12_lowOf_14 : decode cX12_lowOf 14 = .ok (.iconst 1, 1) := by decide +kernel
theorem dX12_lowOf_15 : decode cX12_lowOf 15 = .ok (.goto 4, 3) := by decide +kernel
theorem dX12_lowOf_18 : decode cX12_lowOf 18 = .ok (.iconst 0, 1) := by decide +kernel
theorem dX12_lowOf_19 : decode cX12_lowOf 19 = .ok (.ireturn, 1) := by decide +kernel
theorem dX12_highOf_0 : decode cX12_highOf 0 = .ok (.iload_n 0, 1) := by decide +kernel
theorem dX12_highOf_1 : decode cX12_highOf 1 = .ok (.tableswitch 52 0 4 #[35, 39, 42, 45, 49], 35) := by decide +kernel
theorem dX12_highOf_36 : decode cX12_highOf 36 = .ok (.sipush 999, 3) := by decide +kernel
theorem dX12_highOf_39 : decode cX12_highOf 39 = .ok (.ireturn, 1) := by decide +kernel
theorem dX12_highOf_40 : decode cX12_highOf 40 = .ok (.bipush 50, 2) := by decide +kernel
theorem dX12_highOf_42 : decode cX12_highOf 42 = .ok (.ireturn, 1) := by decide +kernel
theorem dX12_highOf_43 : decode cX12_highOf 43 = .ok (.bipush 30, 2) := by decide +kernel
theorem dX12_highOf_45 : decode cX12_highOf 45 = .ok (.ireturn, 1) := by decide +kernel
theorem dX12_highOf_46 : decode cX12_highOf 46 = .ok (.sipush 300, 3) := by decide +kernel
theorem dX12_highOf_49 : decode cX12_highOf 49 = .ok (.ireturn, 1) := by decide +kernel
theorem dX12_highOf_50 : decode cX12_highOf 50 = .ok (.bipush 99, 2) := by decide +kernel
theorem dX12_highOf_52 : decode cX12_highOf 52 = .ok (.ireturn, 1) := by decide +kernel
theorem dX12_highOf_53 : decode cX12_highOf 53 = .ok (.bipush 10, 2) := by decide +kernel
theorem dX12_highOf_55 : decode cX12_highOf 55 = .ok (.ireturn, 1) := by decide +kernel
theorem dX12_plainLine_0 : decode cX12_plainLine 0 = .ok (.aload_n 0, 1) := by decide +kernel
theorem dX12_plainLine_1 : decode cX12_plainLine 1 = .ok (.getfield 185, 3) := by decide +kernel
theorem dX12_plainLine_4 : decode cX12_plainLine 4 = .ok (.iload_n 1, 1) := by decide +kernel
theorem dX12_plainLine_5 : decode cX12_plainLine 5 = .ok (.invokestatic 188, 3) := by decide +kernel
theorem dX12_plainLine_8 : decode cX12_plainLine 8 = .ok (.ifCond .eq 12, 3) := by decide +kernel
theorem dX12_plainLine_11 : decode cX12_plainLine 11 = .ok (.aload_n 0, 1) := by decide +kernel
theorem dX12_plainLine_12 : decode cX12_plainLine 12 = .ok (.iconst 3, 1) := by decide +kernel
theorem dX12_plainLine_13 : decode cX12_plainLine 13 = .ok (.aload_n 0, 1) := by decide +kernel
theorem dX12_plainLine_14 : decode cX12_plainLine 14 = .ok (.getfield 117, 3) := by decide +kernel
theorem dX12_plainLine_17 : decode cX12_plainLine 17 = .ok (.invokevirtual 153, 3) := by decide +kernel
theorem dX12_plainLine_20 : decode cX12_plainLine 20 = .ok (.aload_n 0, 1) := by decide +kernel
theorem dX12_plainLine_21 : decode cX12_plainLine 21 = .ok (.aload_n 0, 1) := by decide +kernel
theorem dX12_plainLine_22 : decode cX12_plainLine 22 = .ok (.getfield 185, 3) := by decide +kernel
theorem dX12_plainLine_25 : decode cX12_plainLine 25 = .ok (.iconst 1, 1) := by decide +kernel
theorem dX12_plainLine_26 : decode cX12_plainLine 26 = .ok (.iload_n 1, 1) := by decide +kernel
theorem dX12_plainLine_27 : decode cX12_plainLine 27 = .ok (.ishl, 1) := by decide +kernel
theorem dX12_plainLine_28 : decode cX12_plainLine 28 = .ok (.ior, 1) := by decide +kernel
theorem dX12_plainLine_29 : decode cX12_plainLine 29 = .ok (.putfield 185, 3) := by decide +kernel
theorem dX12_plainLine_32 : decode cX12_plainLine 32 = .ok (.aload_n 0, 1) := by decide +kernel
theorem dX12_plainLine_33 : decode cX12_plainLine 33 = .ok (.getfield 147, 3) := by decide +kernel
theorem dX12_plainLine_36 : decode cX12_plainLine 36 = .ok (.ifCond .ne 7, 3) := by decide +kernel
theorem dX12_plainLine_39 : decode cX12_plainLine 39 = .ok (.aload_n 0, 1) := by decide +kernel
theorem dX12_plainLine_40 : decode cX12_plainLine 40 = .ok (.invokevirtual 160, 3) := by decide +kernel
theorem dX12_plainLine_43 : decode cX12_plainLine 43 = .ok (.aload_n 0, 1) := by decide +kernel
theorem dX12_plainLine_44 : decode cX12_plainLine 44 = .ok (.getfield 7, 3) := by decide +kernel
theorem dX12_plainLine_47 : decode cX12_plainLine 47 = .ok (.iload_n 1, 1) := by decide +kernel
theorem dX12_plainLine_48 : decode cX12_plainLine 48 = .ok (.aload_n 0, 1) := by decide +kernel
theorem dX12_plainLine_49 : decode cX12_plainLine 49 = .ok (.iload_n 1, 1) := by decide +kernel
theorem dX12_plainLine_50 : decode cX12_plainLine 50 = .ok (.invokestatic 192, 3) := by decide +kernel
theorem dX12_plainLine_53 : decode cX12_plainLine 53 = .ok (.iload_n 1, 1) := by decide +kernel
theorem dX12_plainLine_54 : decode cX12_plainLine 54 = .ok (.invokestatic 195, 3) := by decide +kernel
theorem dX12_plainLine_57 : decode cX12_plainLine 57 = .ok (.invokevirtual 198, 3) := by decide +kernel
theorem dX12_plainLine_60 : decode cX12_plainLine 60 = .ok (.iastore, 1) := by decide +kernel
theorem dX12_plainLine_61 : decode cX12_plainLine 61 = .ok (.return_, 1) := by decide +kernel
theorem dX12_begins_0 : decode cX12_begins 0 = .ok (.aload_n 0, 1) := by decide +kernel
theorem dX12_begins_1 : decode cX12_begins 1 = .ok (.getfield 7, 3) := by decide +kernel
theorem dX12_begins_4 : decode cX12_begins 4 = .ok (.iload_n 1, 1) := by decide +kernel
theorem dX12_begins_5 : decode cX12_begins 5 = .ok (.iaload, 1) := by decide +kernel
theorem dX12_begins_6 : decode cX12_begins 6 = .ok (.iload_n 2, 1) := by decide +kernel
theorem dX12_begins_7 : decode cX12_begins 7 = .ok (.if_icmp .ne 12, 3) := by decide +kernel
theorem dX12_begins_10 : decode cX12_begins 10 = .ok (.aload_n 0, 1) := by decide +kernel
theorem dX12_begins_11 : decode cX12_begins 11 = .ok (.iconst 4, 1) := by decide +kernel
theorem dX12_begins_12 : decode cX12_begins 12 = .ok (.aload_n 0, 1) := by decide +kernel
theorem dX12_begins_13 : decode cX12_begins 13 = .ok (.getfield 117, 3) := by decide +kernel
theorem dX12_begins_16 : decode cX12_begins 16 = .ok (.invokevirtual 153, 3) := by decide +kernel
theorem dX12_begins_19 : decode cX12_begins 19 = .ok (.aload_n 0, 1) := by decide +kernel
theorem dX12_begins_20 : decode cX12_begins 20 = .ok (.getfield 147, 3) := by decide +kernel
theorem dX12_begins_23 : decode cX12_begins 23 = .ok (.ifCond .ne 7, 3) := by decide +kernel
theorem dX12_begins_26 : decode cX12_begins 26 = .ok (.aload_n 0, 1) := by decide +kernel
theorem dX12_begins_27 : decode cX12_begins 27 = .ok (.invokevirtual 160, 3) := by decide +kernel
theorem dX12_begins_30 : decode cX12_begins 30 = .ok (.aload_n 0, 1) := by decide +kernel
theorem dX12_begins_31 : decode cX12_begins 31 = .ok (.getfield 147, 3) := by decide +kernel
theorem dX12_begins_34 : decode cX12_begins 34 = .ok (.ifCond .ne 7, 3) := by decide +kernel
theorem dX12_begins_37 : decode cX12_begins 37 = .ok (.iconst 1, 1) := by decide +kernel
theorem dX12_begins_38 : decode cX12_begins 38 = .ok (.goto 4, 3) := by decide +kernel
theorem dX12_begins_41 : decode cX12_begins 41 = .ok (.iconst 0, 1) := by decide +kernel
theorem dX12_begins_42 : decode cX12_begins 42 = .ok (.ireturn, 1) := by decide +kernel
theorem dX12_isTold_0 : decode cX12_isTold 0 = .ok (.iconst 0, 1) := by decide +kernel
theorem dX12_isTold_1 : decode cX12_isTold 1 = .ok (.istore 4, 2) := by decide +kernel
theorem dX12_isTold_3 : decode cX12_isTold 3 = .ok (.iload 4, 2) := by decide +kernel
theorem dX12_isTold_5 : decode cX12_isTold 5 = .ok (.iload_n 2, 1) := by decide +kernel
theorem dX12_isTold_6 : decode cX12_isTold 6 = .ok (.if_icmp .ge 24, 3) := by decide +kernel
theorem dX12_isTold_9 : decode cX12_isTold 9 = .ok (.aload_n 0, 1) := by decide +kernel
theorem dX12_isTold_10 : decode cX12_isTold 10 = .ok (.getfield 7, 3) := by decide +kernel
theorem dX12_isTold_13 : decode cX12_isTold 13 = .ok (.iload_n 1, 1) := by decide +kernel
theorem dX12_isTold_14 : decode cX12_isTold 14 = .ok (.iload 4, 2) := by decide +kernel
theorem dX12_isTold_16 : decode cX12_isTold 16 = .ok (.iadd, 1) := by decide +kernel
theorem dX12_isTold_17 : decode cX12_isTold 17 = .ok (.iaload, 1) := by decide +kernel
theorem dX12_isTold_18 : decode cX12_isTold 18 = .ok (.iload_n 3, 1) := by decide +kernel
theorem dX12_isTold_19 : decode cX12_isTold 19 = .ok (.if_icmp .ne 5, 3) := by decide +kernel
theorem dX12_isTold_22 : decode cX12_isTold 22 = .ok (.iconst 1, 1) := by decide +kernel
theorem dX12_isTold_23 : decode cX12_isTold 23 = .ok (.ireturn, 1) := by decide +kernel
theorem dX12_isTold_24 : decode cX12_isTold 24 = .ok (.iinc 4 1, 3) := by decide +kernel
theorem dX12_isTold_27 : decode cX12_isTold 27 = .ok (.goto (-24), 3) := by decide +kernel
theorem dX12_isTold_30 : decode cX12_isTold 30 = .ok (.iconst 0, 1) := by decide +kernel
theorem dX12_isTold_31 : decode cX12_isTold 31 = .ok (.ireturn, 1) := by decide +kernel
theorem dX12_sectionLine_0 : decode cX12_sectionLine 0 = .ok (.aload_n 0, 1) := by decide +kernel
theorem dX12_sectionLine_1 : decode cX12_sectionLine 1 = .ok (.bipush 6, 2) := by decide +kernel
theorem dX12_sectionLine_3 : decode cX12_sectionLine 3 = .ok (.bipush 8, 2) := by decide +kernel
theorem dX12_sectionLine_5 : decode cX12_sectionLine 5 = .ok (.invokevirtual 202, 3) := by decide +kernel
theorem dX12_sectionLine_8 : decode cX12_sectionLine 8 = .ok (.ifCond .ne 4, 3) := by decide +kernel
theorem dX12_sectionLine_11 : decode cX12_sectionLine 11 = .ok (.return_, 1) := by decide +kernel
theorem dX12_sectionLine_12 : decode cX12_sectionLine 12 = .ok (.aload_n 0, 1) := by decide +kernel
theorem dX12_sectionLine_13 : decode cX12_sectionLine 13 = .ok (.getfield 7, 3) := by decide +kernel
theorem dX12_sectionLine_16 : decode cX12_sectionLine 16 = .ok (.bipush 6, 2) := by decide +kernel
theorem dX12_sectionLine_18 : decode cX12_sectionLine 18 = .ok (.iaload, 1) := by decide +kernel
theorem dX12_sectionLine_19 : decode cX12_sectionLine 19 = .ok (.istore_n 1, 1) := by decide +kernel
theorem dX12_sectionLine_20 : decode cX12_sectionLine 20 = .ok (.aload_n 0, 1) := by decide +kernel
theorem dX12_sectionLine_21 : decode cX12_sectionLine 21 = .ok (.iconst 0, 1) := by decide +kernel
theorem dX12_sectionLine_22 : decode cX12_sectionLine 22 = .ok (.sipush 999, 3) := by decide +kernel
theorem dX12_sectionLine_25 : decode cX12_sectionLine 25 = .ok (.invokevirtual 198, 3) := by decide +kernel
theorem dX12_sectionLine_28 : decode cX12_sectionLine 28 = .ok (.istore_n 2, 1) := by decide +kernel
theorem dX12_sectionLine_29 : decode cX12_sectionLine 29 = .ok (.aload_n 0, 1) := by decide +kernel
theorem dX12_sectionLine_30 : decode cX12_sectionLine 30 = .ok (.getfield 147, 3) := by decide +kernel
theorem dX12_sectionLine_33 : decode cX12_sectionLine 33 = .ok (.ifCond .ne 23, 3) := by decide +kernel
theorem dX12_sectionLine_36 : decode cX12_sectionLine 36 = .ok (.aload_n 0, 1) := by decide +kernel
theorem dX12_sectionLine_37 : decode cX12_sectionLine 37 = .ok (.bipush 11, 2) := by decide +kernel
theorem dX12_sectionLine_39 : decode cX12_sectionLine 39 = .ok (.iload_n 1, 1) := by decide +kernel
theorem dX12_sectionLine_40 : decode cX12_sectionLine 40 = .ok (.iload_n 2, 1) := by decide +kernel
theorem dX12_sectionLine_41 : decode cX12_sectionLine 41 = .ok (.invokevirtual 205, 3) := by decide +kernel
theorem dX12_sectionLine_44 : decode cX12_sectionLine 44 = .ok (.ifCond .eq 12, 3) := by decide +kernel
theorem dX12_sectionLine_47 : decode cX12_sectionLine 47 = .ok (.aload_n 0, 1) := by decide +kernel
theorem dX12_sectionLine_48 : decode cX12_sectionLine 48 = .ok (.iconst 3, 1) := by decide +kernel
theorem dX12_sectionLine_49 : decode cX12_sectionLine 49 = .ok (.aload_n 0, 1) := by decide +kernel
theorem dX12_sectionLine_50 : decode cX12_sectionLine 50 = .ok (.getfield 157, 3) := by decide +kernel
theorem dX12_sectionLine_53 : decode cX12_sectionLine 53 = .ok (.invokevirtual 153, 3) := by decide +kernel
theorem dX12_sectionLine_56 : decode cX12_sectionLine 56 = .ok (.aload_n 0, 1) := by decide +kernel
theorem dX12_sectionLine_57 : decode cX12_sectionLine 57 = .ok (.getfield 7, 3) := by decide +kernel
theorem dX12_sectionLine_60 : decode cX12_sectionLine 60 = .ok (.bipush 11, 2) := by decide +kernel
theorem dX12_sectionLine_62 : decode cX12_sectionLine 62 = .ok (.iload_n 1, 1) := by decide +kernel
theorem dX12_sectionLine_63 : decode cX12_sectionLine 63 = .ok (.iadd, 1) := by decide +kernel
theorem dX12_sectionLine_64 : decode cX12_sectionLine 64 = .ok (.iload_n 2, 1) := by decide +kernel
theorem dX12_sectionLine_65 : decode cX12_sectionLine 65 = .ok (.iastore, 1) := by decide +kernel
theorem dX12_sectionLine_66 : decode cX12_sectionLine 66 = .ok (.aload_n 0, 1) := by decide +kernel
theorem dX12_sectionLine_67 : decode cX12_sectionLine 67 = .ok (.getfield 7, 3) := by decide +kernel
theorem dX12_sectionLine_70 : decode cX12_sectionLine 70 = .ok (.bipush 19, 2) := by decide +kernel
theorem dX12_sectionLine_72 : decode cX12_sectionLine 72 = .ok (.iload_n 1, 1) := by decide +kernel
theorem dX12_sectionLine_73 : decode cX12_sectionLine 73 = .ok (.iadd, 1) := by decide +kernel
theorem dX12_sectionLine_74 : decode cX12_sectionLine 74 = .ok (.aload_n 0, 1) := by decide +kernel
theorem dX12_sectionLine_75 : decode cX12_sectionLine 75 = .ok (.iconst 0, 1) := by decide +kernel
theorem dX12_sectionLine_76 : decode cX12_sectionLine 76 = .ok (.sipush 300, 3) := by decide +kernel
theorem dX12_sectionLine_79 : decode cX12_sectionLine 79 = .ok (.invokevirtual 198, 3) := by decide +kernel
theorem dX12_sectionLine_82 : decode cX12_sectionLine 82 = .ok (.iastore, 1) := by decide +kernel
theorem dX12_sectionLine_83 : decode cX12_sectionLine 83 = .ok (.aload_n 0, 1) := by decide +kernel
theorem dX12_sectionLine_84 : decode cX12_sectionLine 84 = .ok (.getfield 7, 3) := by decide +kernel
theorem dX12_sectionLine_87 : decode cX12_sectionLine 87 = .ok (.bipush 6, 2) := by decide +kernel
theorem dX12_sectionLine_89 : decode cX12_sectionLine 89 = .ok (.iload_n 1, 1) := by decide +kernel
theorem dX12_sectionLine_90 : decode cX12_sectionLine 90 = .ok (.iconst 1, 1) := by decide +kernel
theorem dX12_sectionLine_91 : decode cX12_sectionLine 91 = .ok (.iadd, 1) := by decide +kernel
theorem dX12_sectionLine_92 : decode cX12_sectionLine 92 = .ok (.iastore, 1) := by decide +kernel
theorem dX12_sectionLine_93 : decode cX12_sectionLine 93 = .ok (.return_, 1) := by decide +kernel
theorem dX12_craneLine_0 : decode cX12_craneLine 0 = .ok (.aload_n 0, 1) := by decide +kernel
theorem dX12_craneLine_1 : decode cX12_craneLine 1 = .ok (.bipush 7, 2) := by decide +kernel
theorem dX12_craneLine_3 : decode cX12_craneLine 3 = .ok (.bipush 8, 2) := by decide +kernel
theorem dX12_craneLine_5 : decode cX12_craneLine 5 = .ok (.invokevirtual 202, 3) := by decide +kernel
theorem dX12_craneLine_8 : decode cX12_craneLine 8 = .ok (.ifCond .ne 4, 3) := by decide +kernel
theorem dX12_craneLine_11 : decode cX12_craneLine 11 = .ok (.return_, 1) := by decide +kernel
theorem dX12_craneLine_12 : decode cX12_craneLine 12 = .ok (.aload_n 0, 1) := by decide +kernel
theorem dX12_craneLine_13 : decode cX12_craneLine 13 = .ok (.getfield 7, 3) := by decide +kernel
theorem dX12_craneLine_16 : decode cX12_craneLine 16 = .ok (.bipush 7, 2) := by decide +kernel
theorem dX12_craneLine_18 : decode cX12_craneLine 18 = .ok (.iaload, 1) := by decide +kernel
theorem dX12_craneLine_19 : decode cX12_craneLine 19 = .ok (.istore_n 1, 1) := by decide +kernel
theorem dX12_craneLine_20 : decode cX12_craneLine 20 = .ok (.aload_n 0, 1) := by decide +kernel
theorem dX12_craneLine_21 : decode cX12_craneLine 21 = .ok (.iconst 0, 1) := by decide +kernel
theorem dX12_craneLine_22 : decode cX12_craneLine 22 = .ok (.sipush 999, 3) := by decide +kernel
theorem dX12_craneLine_25 : decode cX12_craneLine 25 = .ok (.invokevirtual 198, 3) := by decide +kernel
theorem dX12_craneLine_28 : decode cX12_craneLine 28 = .ok (.istore_n 2, 1) := by decide +kernel
theorem dX12_craneLine_29 : decode cX12_craneLine 29 = .ok (.aload_n 0, 1) := by decide +kernel
theorem dX12_craneLine_30 : decode cX12_craneLine 30 = .ok (.iconst 0, 1) := by decide +kernel
theorem dX12_craneLine_31 : decode cX12_craneLine 31 = .ok (.sipush 999, 3) := by decide +kernel
theorem dX12_craneLine_34 : decode cX12_craneLine 34 = .ok (.invokevirtual 198, 3) := by decide +kernel
theorem dX12_craneLine_37 : decode cX12_craneLine 37 = .ok (.istore_n 3, 1) := by decide +kernel
theorem dX12_craneLine_38 : decode cX12_craneLine 38 = .ok (.aload_n 0, 1) := by decide +kernel
theorem dX12_craneLine_39 : decode cX12_craneLine 39 = .ok (.getfield 147, 3) := by decide +kernel
theorem dX12_craneLine_42 : decode cX12_craneLine 42 = .ok (.ifCond .ne 17, 3) := by decide +kernel
theorem dX12_craneLine_45 : decode cX12_craneLine 45 = .ok (.iload_n 3, 1) := by decide +kernel
theorem dX12_craneLine_46 : decode cX12_craneLine 46 = .ok (.iload_n 2, 1) := by decide +kernel
theorem dX12_craneLine_47 : decode cX12_craneLine 47 = .ok (.if_icmp .ge 12, 3) := by decide +kernel
theorem dX12_craneLine_50 : decode cX12_craneLine 50 = .ok (.aload_n 0, 1) := by decide +kernel
theorem dX12_craneLine_51 : decode cX12_craneLine 51 = .ok (.iconst 2, 1) := by decide +kernel
theorem dX12_craneLine_52 : decode cX12_craneLine 52 = .ok (.aload_n 0, 1) := by decide +kernel
theorem dX12_craneLine_53 : decode cX12_craneLine 53 = .ok (.getfield 157, 3) := by decide +kernel
theorem dX12_craneLine_56 : decode cX12_craneLine 56 = .ok (.invokevirtual 153, 3) := by decide +kernel
theorem dX12_craneLine_59 : decode cX12_craneLine 59 = .ok (.aload_n 0, 1) := by decide +kernel
theorem dX12_craneLine_60 : decode cX12_craneLine 60 = .ok (.getfield 7, 3) := by decide +kernel
theorem dX12_craneLine_63 : decode cX12_craneLine 63 = .ok (.bipush 27, 2) := by decide +kernel
theorem dX12_craneLine_65 : decode cX12_craneLine 65 = .ok (.iload_n 1, 1) := by decide +kernel
theorem dX12_craneLine_66 : decode cX12_craneLine 66 = .ok (.iadd, 1) := by decide +kernel
theorem dX12_craneLine_67 : decode cX12_craneLine 67 = .ok (.iload_n 2, 1) := by decide +kernel
theorem dX12_craneLine_68 : decode cX12_craneLine 68 = .ok (.iastore, 1) := by decide +kernel
theorem dX12_craneLine_69 : decode cX12_craneLine 69 = .ok (.aload_n 0, 1) := by decide +kernel
theorem dX12_craneLine_70 : decode cX12_craneLine 70 = .ok (.getfield 7, 3) := by decide +kernel
theorem dX12_craneLine_73 : decode cX12_craneLine 73 = .ok (.bipush 35, 2) := by decide +kernel
theorem dX12_craneLine_75 : decode cX12_craneLine 75 = .ok (.iload_n 1, 1) := by decide +kernel
theorem dX12_craneLine_76 : decode cX12_craneLine 76 = .ok (.iadd, 1) := by decide +kernel
theorem dX12_craneLine_77 : decode cX12_craneLine 77 = .ok (.iload_n 3, 1) := by decide +kernel
theorem dX12_craneLine_78 : decode cX12_craneLine 78 = .ok (.iastore, 1) := by decide +kernel
theorem dX12_craneLine_79 : decode cX12_craneLine 79 = .ok (.aload_n 0, 1) := by decide +kernel
theorem dX12_craneLine_80 : decode cX12_craneLine 80 = .ok (.getfield 7, 3) := by decide +kernel
theorem dX12_craneLine_83 : decode cX12_craneLine 83 = .ok (.bipush 7, 2) := by decide +kernel
theorem dX12_craneLine_85 : decode cX12_craneLine 85 = .ok (.iload_n 1, 1) := by decide +kernel
theorem dX12_craneLine_86 : decode cX12_craneLine 86 = .ok (.iconst 1, 1) := by decide +kernel
theorem dX12_craneLine_87 : decode cX12_craneLine 87 = .ok (.iadd, 1) := by decide +kernel
theorem dX12_craneLine_88 : decode cX12_craneLine 88 = .ok (.iastore, 1) := by decide +kernel
theorem dX12_craneLine_89 : decode cX12_craneLine 89 = .ok (.return_, 1) := by decide +kernel
theorem dX12_tideLine_0 : decode cX12_tideLine 0 = .ok (.aload_n 0, 1) := by decide +kernel
theorem dX12_tideLine_1 : decode cX12_tideLine 1 = .ok (.bipush 8, 2) := by decide +kernel
theorem dX12_tideLine_3 : decode cX12_tideLine 3 = .ok (.bipush 30, 2) := by decide +kernel
theorem dX12_tideLine_5 : decode cX12_tideLine 5 = .ok (.invokevirtual 202, 3) := by decide +kernel
theorem dX12_tideLine_8 : decode cX12_tideLine 8 = .ok (.ifCond .ne 4, 3) := by decide +kernel
theorem dX12_tideLine_11 : decode cX12_tideLine 11 = .ok (.return_, 1) := by decide +kernel
theorem dX12_tideLine_12 : decode cX12_tideLine 12 = .ok (.aload_n 0, 1) := by decide +kernel
theorem dX12_tideLine_13 : decode cX12_tideLine 13 = .ok (.getfield 7, 3) := by decide +kernel
theorem dX12_tideLine_16 : decode cX12_tideLine 16 = .ok (.bipush 8, 2) := by decide +kernel
theorem dX12_tideLine_18 : decode cX12_tideLine 18 = .ok (.iaload, 1) := by decide +kernel
theorem dX12_tideLine_19 : decode cX12_tideLine 19 = .ok (.istore_n 1, 1) := by decide +kernel
theorem dX12_tideLine_20 : decode cX12_tideLine 20 = .ok (.aload_n 0, 1) := by decide +kernel
theorem dX12_tideLine_21 : decode cX12_tideLine 21 = .ok (.iconst 0, 1) := by decide +kernel
theorem dX12_tideLine_22 : decode cX12_tideLine 22 = .ok (.sipush 335, 3) := by decide +kernel
theorem dX12_tideLine_25 : decode cX12_tideLine 25 = .ok (.invokevirtual 198, 3) := by decide +kernel
theorem dX12_tideLine_28 : decode cX12_tideLine 28 = .ok (.istore_n 2, 1) := by decide +kernel
theorem dX12_tideLine_29 : decode cX12_tideLine 29 = .ok (.aload_n 0, 1) := by decide +kernel
theorem dX12_tideLine_30 : decode cX12_tideLine 30 = .ok (.getfield 147, 3) := by decide +kernel
theorem dX12_tideLine_33 : decode cX12_tideLine 33 = .ok (.ifCond .ne 23, 3) := by decide +kernel
theorem dX12_tideLine_36 : decode cX12_tideLine 36 = .ok (.aload_n 0, 1) := by decide +kernel
theorem dX12_tideLine_37 : decode cX12_tideLine 37 = .ok (.bipush 43, 2) := by decide +kernel
theorem dX12_tideLine_39 : decode cX12_tideLine 39 = .ok (.iload_n 1, 1) := by decide +kernel
theorem dX12_tideLine_40 : decode cX12_tideLine 40 = .ok (.iload_n 2, 1) := by decide +kernel
theorem dX12_tideLine_41 : decode cX12_tideLine 41 = .ok (.invokevirtual 205, 3) := by decide +kernel
theorem dX12_tideLine_44 : decode cX12_tideLine 44 = .ok (.ifCond .eq 12, 3) := by decide +kernel
theorem dX12_tideLine_47 : decode cX12_tideLine 47 = .ok (.aload_n 0, 1) := by decide +kernel
theorem dX12_tideLine_48 : decode cX12_tideLine 48 = .ok (.iconst 3, 1) := by decide +kernel
theorem dX12_tideLine_49 : decode cX12_tideLine 49 = .ok (.aload_n 0, 1) := by decide +kernel
theorem dX12_tideLine_50 : decode cX12_tideLine 50 = .ok (.getfield 157, 3) := by decide +kernel
theorem dX12_tideLine_53 : decode cX12_tideLine 53 = .ok (.invokevirtual 153, 3) := by decide +kernel
theorem dX12_tideLine_56 : decode cX12_tideLine 56 = .ok (.aload_n 0, 1) := by decide +kernel
theorem dX12_tideLine_57 : decode cX12_tideLine 57 = .ok (.getfield 7, 3) := by decide +kernel
theorem dX12_tideLine_60 : decode cX12_tideLine 60 = .ok (.bipush 43, 2) := by decide +kernel
theorem dX12_tideLine_62 : decode cX12_tideLine 62 = .ok (.iload_n 1, 1) := by decide +kernel
theorem dX12_tideLine_63 : decode cX12_tideLine 63 = .ok (.iadd, 1) := by decide +kernel
theorem dX12_tideLine_64 : decode cX12_tideLine 64 = .ok (.iload_n 2, 1) := by decide +kernel
theorem dX12_tideLine_65 : decode cX12_tideLine 65 = .ok (.iastore, 1) := by decide +kernel
theorem dX12_tideLine_66 : decode cX12_tideLine 66 = .ok (.aload_n 0, 1) := by decide +kernel
theorem dX12_tideLine_67 : decode cX12_tideLine 67 = .ok (.getfield 7, 3) := by decide +kernel
theorem dX12_tideLine_70 : decode cX12_tideLine 70 = .ok (.bipush 73, 2) := by decide +kernel
theorem dX12_tideLine_72 : decode cX12_tideLine 72 = .ok (.iload_n 1, 1) := by decide +kernel
theorem dX12_tideLine_73 : decode cX12_tideLine 73 = .ok (.iadd, 1) := by decide +kernel
theorem dX12_tideLine_74 : decode cX12_tideLine 74 = .ok (.aload_n 0, 1) := by decide +kernel
theorem dX12_tideLine_75 : decode cX12_tideLine 75 = .ok (.iconst 0, 1) := by decide +kernel
theorem dX12_tideLine_76 : decode cX12_tideLine 76 = .ok (.bipush 99, 2) := by decide +kernel
theorem dX12_tideLine_78 : decode cX12_tideLine 78 = .ok (.invokevirtual 198, 3) := by decide +kernel
theorem dX12_tideLine_81 : decode cX12_tideLine 81 = .ok (.iastore, 1) := by decide +kernel
theorem dX12_tideLine_82 : decode cX12_tideLine 82 = .ok (.aload_n 0, 1) := by decide +kernel
theorem dX12_tideLine_83 : decode cX12_tideLine 83 = .ok (.getfield 7, 3) := by decide +kernel
theorem dX12_tideLine_86 : decode cX12_tideLine 86 = .ok (.bipush 8, 2) := by decide +kernel
theorem dX12_tideLine_88 : decode cX12_tideLine 88 = .ok (.iload_n 1, 1) := by decide +kernel
theorem dX12_tideLine_89 : decode cX12_tideLine 89 = .ok (.iconst 1, 1) := by decide +kernel
theorem dX12_tideLine_90 : decode cX12_tideLine 90 = .ok (.iadd, 1) := by decide +kernel
theorem dX12_tideLine_91 : decode cX12_tideLine 91 = .ok (.iastore, 1) := by decide +kernel
theorem dX12_tideLine_92 : decode cX12_tideLine 92 = .ok (.return_, 1) := by decide +kernel
theorem dX12_gangsLine_0 : decode cX12_gangsLine 0 = .ok (.aload_n 0, 1) := by decide +kernel
theorem dX12_gangsLine_1 : decode cX12_gangsLine 1 = .ok (.invokevirtual 160, 3) := by decide +kernel
theorem dX12_gangsLine_4 : decode cX12_gangsLine 4 = .ok (.aload_n 0, 1) := by decide +kernel
theorem dX12_gangsLine_5 : decode cX12_gangsLine 5 = .ok (.iconst 0, 1) := by decide +kernel
theorem dX12_gangsLine_6 : decode cX12_gangsLine 6 = .ok (.bipush 6, 2) := by decide +kernel
theorem dX12_gangsLine_8 : decode cX12_gangsLine 8 = .ok (.invokevirtual 198, 3) := by decide +kernel
theorem dX12_gangsLine_11 : decode cX12_gangsLine 11 = .ok (.istore_n 1, 1) := by decide +kernel
theorem dX12_gangsLine_12 : decode cX12_gangsLine 12 = .ok (.aload_n 0, 1) := by decide +kernel
theorem dX12_gangsLine_13 : decode cX12_gangsLine 13 = .ok (.iconst 0, 1) := by decide +kernel
theorem dX12_gangsLine_14 : decode cX12_gangsLine 14 = .ok (.iconst 2, 1) := by decide +kernel
theorem dX12_gangsLine_15 : decode cX12_gangsLine 15 = .ok (.invokevirtual 198, 3) := by decide +kernel
theorem dX12_gangsLine_18 : decode cX12_gangsLine 18 = .ok (.istore_n 2, 1) := by decide +kernel
theorem dX12_gangsLine_19 : decode cX12_gangsLine 19 = .ok (.aload_n 0, 1) := by decide +kernel
theorem dX12_gangsLine_20 : decode cX12_gangsLine 20 = .ok (.getfield 147, 3) := by decide +kernel
theorem dX12_gangsLine_23 : decode cX12_gangsLine 23 = .ok (.ifCond .le 4, 3) := by decide +kernel
theorem dX12_gangsLine_26 : decode cX12_gangsLine 26 = .ok (.return_, 1) := by decide +kernel
theorem dX12_gangsLine_27 : decode cX12_gangsLine 27 = .ok (.bipush 103, 2) := by decide +kernel
theorem dX12_gangsLine_29 : decode cX12_gangsLine 29 = .ok (.iconst 3, 1) := by decide +kernel
theorem dX12_gangsLine_30 : decode cX12_gangsLine 30 = .ok (.iload_n 1, 1) := by decide +kernel
theorem dX12_gangsLine_31 : decode cX12_gangsLine 31 = .ok (.imul, 1) := by decide +kernel
theorem dX12_gangsLine_32 : decode cX12_gangsLine 32 = .ok (.iadd, 1) := by decide +kernel
theorem dX12_gangsLine_33 : decode cX12_gangsLine 33 = .ok (.iload_n 2, 1) := by decide +kernel
theorem dX12_gangsLine_34 : decode cX12_gangsLine 34 = .ok (.iadd, 1) := by decide +kernel
theorem dX12_gangsLine_35 : decode cX12_gangsLine 35 = .ok (.istore_n 3, 1) := by decide +kernel
theorem dX12_gangsLine_36 : decode cX12_gangsLine 36 = .ok (.aload_n 0, 1) := by decide +kernel
theorem dX12_gangsLine_37 : decode cX12_gangsLine 37 = .ok (.getfield 7, 3) := by decide +kernel
theorem dX12_gangsLine_40 : decode cX12_gangsLine 40 = .ok (.iload_n 3, 1) := by decide +kernel
theorem dX12_gangsLine_41 : decode cX12_gangsLine 41 = .ok (.iaload, 1) := by decide +kernel
theorem dX12_gangsLine_42 : decode cX12_gangsLine 42 = .ok (.iconst (-1), 1) := by decide +kernel
theorem dX12_gangsLine_43 : decode cX12_gangsLine 43 = .ok (.if_icmp .eq 12, 3) := by decide +kernel
theorem dX12_gangsLine_46 : decode cX12_gangsLine 46 = .ok (.aload_n 0, 1) := by decide +kernel
theorem dX12_gangsLine_47 : decode cX12_gangsLine 47 = .ok (.iconst 3, 1) := by decide +kernel
theorem dX12_gangsLine_48 : decode cX12_gangsLine 48 = .ok (.aload_n 0, 1) := by decide +kernel
theorem dX12_gangsLine_49 : decode cX12_gangsLine 49 = .ok (.getfield 157, 3) := by decide +kernel
theorem dX12_gangsLine_52 : decode cX12_gangsLine 52 = .ok (.invokevirtual 153, 3) := by decide +kernel
theorem dX12_gangsLine_55 : decode cX12_gangsLine 55 = .ok (.aload_n 0, 1) := by decide +kernel
theorem dX12_gangsLine_56 : decode cX12_gangsLine 56 = .ok (.getfield 7, 3) := by decide +kernel
theorem dX12_gangsLine_59 : decode cX12_gangsLine 59 = .ok (.iload_n 3, 1) := by decide +kernel
theorem dX12_gangsLine_60 : decode cX12_gangsLine 60 = .ok (.aload_n 0, 1) := by decide +kernel
theorem dX12_gangsLine_61 : decode cX12_gangsLine 61 = .ok (.iconst 0, 1) := by decide +kernel
theorem dX12_gangsLine_62 : decode cX12_gangsLine 62 = .ok (.bipush 9, 2) := by decide +kernel
theorem dX12_gangsLine_64 : decode cX12_gangsLine 64 = .ok (.invokevirtual 198, 3) := by decide +kernel
theorem dX12_gangsLine_67 : decode cX12_gangsLine 67 = .ok (.iastore, 1) := by decide +kernel
theorem dX12_gangsLine_68 : decode cX12_gangsLine 68 = .ok (.return_, 1) := by decide +kernel
theorem dX12_nameTold_0 : decode cX12_nameTold 0 = .ok (.aload_n 0, 1) := by decide +kernel
theorem dX12_nameTold_1 : decode cX12_nameTold 1 = .ok (.getfield 120, 3) := by decide +kernel
theorem dX12_nameTold_4 : decode cX12_nameTold 4 = .ok (.iconst 1, 1) := by decide +kernel
theorem dX12_nameTold_5 : decode cX12_nameTold 5 = .ok (.if_icmp .ne 11, 3) := by decide +kernel
theorem dX12_nameTold_8 : decode cX12_nameTold 8 = .ok (.aload_n 0, 1) := by decide +kernel
theorem dX12_nameTold_9 : decode cX12_nameTold 9 = .ok (.invokevirtual 209, 3) := by decide +kernel
theorem dX12_nameTold_12 : decode cX12_nameTold 12 = .ok (.iconst (-1), 1) := by decide +kernel
theorem dX12_nameTold_13 : decode cX12_nameTold 13 = .ok (.if_icmp .eq 12, 3) := by decide +kernel
theorem dX12_nameTold_16 : decode cX12_nameTold 16 = .ok (.aload_n 0, 1) := by decide +kernel
theorem dX12_nameTold_17 : decode cX12_nameTold 17 = .ok (.iconst 1, 1) := by decide +kernel
theorem dX12_nameTold_18 : decode cX12_nameTold 18 = .ok (.aload_n 0, 1) := by decide +kernel
theorem dX12_nameTold_19 : decode cX12_nameTold 19 = .ok (.getfield 117, 3) := by decide +kernel
theorem dX12_nameTold_22 : decode cX12_nameTold 22 = .ok (.invokevirtual 153, 3) := by decide +kernel
theorem dX12_nameTold_25 : decode cX12_nameTold 25 = .ok (.iconst 0, 1) := by decide +kernel
theorem dX12_nameTold_26 : decode cX12_nameTold 26 = .ok (.istore_n 2, 1) := by decide +kernel
theorem dX12_nameTold_27 : decode cX12_nameTold 27 = .ok (.iload_n 2, 1) := by decide +kernel
theorem dX12_nameTold_28 : decode cX12_nameTold 28 = .ok (.iload_n 1, 1) := by decide +kernel
theorem dX12_nameTold_29 : decode cX12_nameTold 29 = .ok (.if_icmp .ge 39, 3) := by decide +kernel
theorem dX12_nameTold_32 : decode cX12_nameTold 32 = .ok (.aload_n 0, 1) := by decide +kernel
theorem dX12_nameTold_33 : decode cX12_nameTold 33 = .ok (.getfield 147, 3) := by decide +kernel
theorem dX12_nameTold_36 : decode cX12_nameTold 36 = .ok (.ifCond .ne 26, 3) := by decide +kernel
theorem dX12_nameTold_39 : decode cX12_nameTold 39 = .ok (.aload_n 0, 1) := by decide +kernel
theorem dX12_nameTold_40 : decode cX12_nameTold 40 = .ok (.getfield 16, 3) := by decide +kernel
theorem dX12_nameTold_43 : decode cX12_nameTold 43 = .ok (.iload_n 2, 1) := by decide +kernel
theorem dX12_nameTold_44 : decode cX12_nameTold 44 = .ok (.laload, 1) := by decide +kernel
theorem dX12_nameTold_45 : decode cX12_nameTold 45 = .ok (.aload_n 0, 1) := by decide +kernel
theorem dX12_nameTold_46 : decode cX12_nameTold 46 = .ok (.getfield 136, 3) := by decide +kernel
theorem dX12_nameTold_49 : decode cX12_nameTold 49 = .ok (.lcmp, 1) := by decide +kernel
theorem dX12_nameTold_50 : decode cX12_nameTold 50 = .ok (.ifCond .ne 12, 3) := by decide +kernel
theorem dX12_nameTold_53 : decode cX12_nameTold 53 = .ok (.aload_n 0, 1) := by decide +kernel
theorem dX12_nameTold_54 : decode cX12_nameTold 54 = .ok (.iconst 3, 1) := by decide +kernel
theorem dX12_nameTold_55 : decode cX12_nameTold 55 = .ok (.aload_n 0, 1) := by decide +kernel
theorem dX12_nameTold_56 : decode cX12_nameTold 56 = .ok (.getfield 117, 3) := by decide +kernel
theorem dX12_nameTold_59 : decode cX12_nameTold 59 = .ok (.invokevirtual 153, 3) := by decide +kernel
theorem dX12_nameTold_62 : decode cX12_nameTold 62 = .ok (.iinc 2 1, 3) := by decide +kernel
theorem dX12_nameTold_65 : decode cX12_nameTold 65 = .ok (.goto (-38), 3) := by decide +kernel
theorem dX12_nameTold_68 : decode cX12_nameTold 68 = .ok (.aload_n 0, 1) := by decide +kernel
theorem dX12_nameTold_69 : decode cX12_nameTold 69 = .ok (.getfield 147, 3) := by decide +kernel
theorem dX12_nameTold_72 : decode cX12_nameTold 72 = .ok (.ifCond .le 4, 3) := by decide +kernel
theorem dX12_nameTold_75 : decode cX12_nameTold 75 = .ok (.return_, 1) := by decide +kernel
theorem dX12_nameTold_76 : decode cX12_nameTold 76 = .ok (.aload_n 0, 1) := by decide +kernel
theorem dX12_nameTold_77 : decode cX12_nameTold 77 = .ok (.getfield 16, 3) := by decide +kernel
theorem dX12_nameTold_80 : decode cX12_nameTold 80 = .ok (.iload_n 1, 1) := by decide +kernel
theorem dX12_nameTold_81 : decode cX12_nameTold 81 = .ok (.aload_n 0, 1) := by decide +kernel
theorem dX12_nameTold_82 : decode cX12_nameTold 82 = .ok (.getfield 136, 3) := by decide +kernel
theorem dX12_nameTold_85 : decode cX12_nameTold 85 = .ok (.lastore, 1) := by decide +kernel
theorem dX12_nameTold_86 : decode cX12_nameTold 86 = .ok (.aload_n 0, 1) := by decide +kernel
theorem dX12_nameTold_87 : decode cX12_nameTold 87 = .ok (.invokevirtual 160, 3) := by decide +kernel
theorem dX12_nameTold_90 : decode cX12_nameTold 90 = .ok (.return_, 1) := by decide +kernel
theorem dX12_shipLow_0 : decode cX12_shipLow 0 = .ok (.iload_n 0, 1) := by decide +kernel
theorem dX12_shipLow_1 : decode cX12_shipLow 1 = .ok (.ifCond .eq 9, 3) := by decide +kernel
theorem dX12_shipLow_4 : decode cX12_shipLow 4 = .ok (.iload_n 0, 1) := by decide +kernel
theorem dX12_shipLow_5 : decode cX12_shipLow 5 = .ok (.bipush 7, 2) := by decide +kernel
theorem dX12_shipLow_7 : decode cX12_shipLow 7 = .ok (.if_icmp .lt 7, 3) := by decide +kernel
theorem dX12_shipLow_10 : decode cX12_shipLow 10 = .ok (.iconst 1, 1) := by decide +kernel
theorem dX12_shipLow_11 : decode cX12_shipLow 11 = .ok (.goto 4, 3) := by decide +kernel
theorem dX12_shipLow_14 : decode cX12_shipLow 14 = .ok (.iconst 0, 1) := by decide +kernel
theorem dX12_shipLow_15 : decode cX12_shipLow 15 = .ok (.ireturn, 1) := by decide +kernel
theorem dX12_shipHigh_0 : decode cX12_shipHigh 0 = .ok (.iload_n 0, 1) := by decide +kernel
theorem dX12_shipHigh_1 : decode cX12_shipHigh 1 = .ok (.tableswitch 69 0 6 #[43, 47, 51, 55, 59, 63, 67], 43) := by decide +kernel
theorem dX12_shipHigh_44 : decode cX12_shipHigh 44 = .ok (.sipush 400, 3) := by decide +kernel
theorem dX12_shipHigh_47 : decode cX12_shipHigh 47 = .ok (.ireturn, 1) := by decide +kernel
theorem dX12_shipHigh_48 : decode cX12_shipHigh 48 = .ok (.sipush 300, 3) := by decide +kernel
theorem dX12_shipHigh_51 : decode cX12_shipHigh 51 = .ok (.ireturn, 1) := by decide +kernel
theorem dX12_shipHigh_52 : decode cX12_shipHigh 52 = .ok (.sipush 300, 3) := by decide +kernel
theorem dX12_shipHigh_55 : decode cX12_shipHigh 55 = .ok (.ireturn, 1) := by decide +kernel
theorem dX12_shipHigh_56 : decode cX12_shipHigh 56 = .ok (.sipush 9999, 3) := by decide +kernel
theorem dX12_shipHigh_59 : decode cX12_shipHigh 59 = .ok (.ireturn, 1) := by decide +kernel
theorem dX12_shipHigh_60 : decode cX12_shipHigh 60 = .ok (.sipush 335, 3) := by decide +kernel
theorem dX12_shipHigh_63 : decode cX12_shipHigh 63 = .ok (.ireturn, 1) := by decide +kernel
theorem dX12_shipHigh_64 : decode cX12_shipHigh 64 = .ok (.sipush 999, 3) := by decide +kernel
theorem dX12_shipHigh_67 : decode cX12_shipHigh 67 = .ok (.ireturn, 1) := by decide +kernel
theorem dX12_shipHigh_68 : decode cX12_shipHigh 68 = .ok (.iconst 3, 1) := by decide +kernel
theorem dX12_shipHigh_69 : decode cX12_shipHigh 69 = .ok (.ireturn, 1) := by decide +kernel
theorem dX12_shipHigh_70 : decode cX12_shipHigh 70 = .ok (.bipush 8, 2) := by decide +kernel
theorem dX12_shipHigh_72 : decode cX12_shipHigh 72 = .ok (.ireturn, 1) := by decide +kernel
theorem dX12_shipLine_0 : decode cX12_shipLine 0 = .ok (.aload_n 0, 1) := by decide +kernel
theorem dX12_shipLine_1 : decode cX12_shipLine 1 = .ok (.bipush 9, 2) := by decide +kernel
theorem dX12_shipLine_3 : decode cX12_shipLine 3 = .ok (.bipush 14, 2) := by decide +kernel
theorem dX12_shipLine_5 : decode cX12_shipLine 5 = .ok (.invokevirtual 202, 3) := by decide +kernel
theorem dX12_shipLine_8 : decode cX12_shipLine 8 = .ok (.ifCond .ne 4, 3) := by decide +kernel
theorem dX12_shipLine_11 : decode cX12_shipLine 11 = .ok (.return_, 1) := by decide +kernel
theorem dX12_shipLine_12 : decode cX12_shipLine 12 = .ok (.aload_n 0, 1) := by decide +kernel
theorem dX12_shipLine_13 : decode cX12_shipLine 13 = .ok (.getfield 7, 3) := by decide +kernel
theorem dX12_shipLine_16 : decode cX12_shipLine 16 = .ok (.bipush 9, 2) := by decide +kernel
theorem dX12_shipLine_18 : decode cX12_shipLine 18 = .ok (.iaload, 1) := by decide +kernel
theorem dX12_shipLine_19 : decode cX12_shipLine 19 = .ok (.istore_n 1, 1) := by decide +kernel
theorem dX12_shipLine_20 : decode cX12_shipLine 20 = .ok (.bipush 124, 2) := by decide +kernel
theorem dX12_shipLine_22 : decode cX12_shipLine 22 = .ok (.bipush 9, 2) := by decide +kernel
theorem dX12_shipLine_24 : decode cX12_shipLine 24 = .ok (.iload_n 1, 1) := by decide +kernel
theorem dX12_shipLine_25 : decode cX12_shipLine 25 = .ok (.imul, 1) := by decide +kernel
theorem dX12_shipLine_26 : decode cX12_shipLine 26 = .ok (.iadd, 1) := by decide +kernel
theorem dX12_shipLine_27 : decode cX12_shipLine 27 = .ok (.istore_n 2, 1) := by decide +kernel
theorem dX12_shipLine_28 : decode cX12_shipLine 28 = .ok (.aload_n 0, 1) := by decide +kernel
theorem dX12_shipLine_29 : decode cX12_shipLine 29 = .ok (.iload_n 1, 1) := by decide +kernel
theorem dX12_shipLine_30 : decode cX12_shipLine 30 = .ok (.invokevirtual 213, 3) := by decide +kernel
theorem dX12_shipLine_33 : decode cX12_shipLine 33 = .ok (.iconst 0, 1) := by decide +kernel
theorem dX12_shipLine_34 : decode cX12_shipLine 34 = .ok (.istore_n 3, 1) := by decide +kernel
theorem dX12_shipLine_35 : decode cX12_shipLine 35 = .ok (.iload_n 3, 1) := by decide +kernel
theorem dX12_shipLine_36 : decode cX12_shipLine 36 = .ok (.bipush 9, 2) := by decide +kernel
theorem dX12_shipLine_38 : decode cX12_shipLine 38 = .ok (.if_icmp .ge 29, 3) := by decide +kernel
theorem dX12_shipLine_41 : decode cX12_shipLine 41 = .ok (.aload_n 0, 1) := by decide +kernel
theorem dX12_shipLine_42 : decode cX12_shipLine 42 = .ok (.getfield 7, 3) := by decide +kernel
theorem dX12_shipLine_45 : decode cX12_shipLine 45 = .ok (.iload_n 2, 1) := by decide +kernel
theorem dX12_shipLine_46 : decode cX12_shipLine 46 = .ok (.iload_n 3, 1) := by decide +kernel
theorem dX12_shipLine_47 : decode cX12_shipLine 47 = .ok (.iadd, 1) := by decide +kernel
theorem dX12_shipLine_48 : decode cX12_shipLine 48 = .ok (.aload_n 0, 1) := by decide +kernel
theorem dX12_shipLine_49 : decode cX12_shipLine 49 = .ok (.iload_n 3, 1) := by decide +kernel
theorem dX12_shipLine_50 : decode cX12_shipLine 50 = .ok (.invokestatic 216, 3) := by decide +kernel
theorem dX12_shipLine_53 : decode cX12_shipLine 53 = .ok (.iload_n 3, 1) := by decide +kernel
theorem dX12_shipLine_54 : decode cX12_shipLine 54 = .ok (.invokestatic 219, 3) := by decide +kernel
theorem dX12_shipLine_57 : decode cX12_shipLine 57 = .ok (.invokevirtual 198, 3) := by decide +kernel
theorem dX12_shipLine_60 : decode cX12_shipLine 60 = .ok (.iastore, 1) := by decide +kernel
theorem dX12_shipLine_61 : decode cX12_shipLine 61 = .ok (.iinc 3 1, 3) := by decide +kernel
theorem dX12_shipLine_64 : decode cX12_shipLine 64 = .ok (.goto (-29), 3) := by decide +kernel
theorem dX12_shipLine_67 : decode cX12_shipLine 67 = .ok (.aload_n 0, 1) := by decide +kernel
theorem dX12_shipLine_68 : decode cX12_shipLine 68 = .ok (.getfield 147, 3) := by decide +kernel
theorem dX12_shipLine_71 : decode cX12_shipLine 71 = .ok (.ifCond .ne 33, 3) := by decide +kernel
theorem dX12_shipLine_74 : decode cX12_shipLine 74 = .ok (.aload_n 0, 1) := by decide +kernel
theorem dX12_shipLine_75 : decode cX12_shipLine 75 = .ok (.getfield 7, 3) := by decide +kernel
theorem dX12_shipLine_78 : decode cX12_shipLine 78 = .ok (.iload_n 2, 1) := by decide +kernel
theorem dX12_shipLine_79 : decode cX12_shipLine 79 = .ok (.bipush 8, 2) := by decide +kernel
theorem dX12_shipLine_81 : decode cX12_shipLine 81 = .ok (.iadd, 1) := by decide +kernel
theorem dX12_shipLine_82 : decode cX12_shipLine 82 = .ok (.iaload, 1) := by decide +kernel
theorem dX12_shipLine_83 : decode cX12_shipLine 83 = .ok (.aload_n 0, 1) := by decide +kernel
theorem dX12_shipLine_84 : decode cX12_shipLine 84 = .ok (.getfield 7, 3) := by decide +kernel
theorem dX12_shipLine_87 : decode cX12_shipLine 87 = .ok (.iload_n 2, 1) := by decide +kernel
theorem dX12_shipLine_88 : decode cX12_shipLine 88 = .ok (.bipush 7, 2) := by decide +kernel
theorem dX12_shipLine_90 : decode cX12_shipLine 90 = .ok (.iadd, 1) := by decide +kernel
theorem dX12_shipLine_91 : decode cX12_shipLine 91 = .ok (.iaload, 1) := by decide +kernel
theorem dX12_shipLine_92 : decode cX12_shipLine 92 = .ok (.if_icmp .ge 12, 3) := by decide +kernel
theorem dX12_shipLine_95 : decode cX12_shipLine 95 = .ok (.aload_n 0, 1) := by decide +kernel
theorem dX12_shipLine_96 : decode cX12_shipLine 96 = .ok (.iconst 2, 1) := by decide +kernel
theorem dX12_shipLine_97 : decode cX12_shipLine 97 = .ok (.aload_n 0, 1) := by decide +kernel
theorem dX12_shipLine_98 : decode cX12_shipLine 98 = .ok (.getfield 157, 3) := by decide +kernel
theorem dX12_shipLine_101 : decode cX12_shipLine 101 = .ok (.invokevirtual 153, 3) := by decide +kernel
theorem dX12_shipLine_104 : decode cX12_shipLine 104 = .ok (.aload_n 0, 1) := by decide +kernel
theorem dX12_shipLine_105 : decode cX12_shipLine 105 = .ok (.getfield 7, 3) := by decide +kernel
theorem dX12_shipLine_108 : decode cX12_shipLine 108 = .ok (.bipush 9, 2) := by decide +kernel
theorem dX12_shipLine_110 : decode cX12_shipLine 110 = .ok (.iload_n 1, 1) := by decide +kernel
theorem dX12_shipLine_111 : decode cX12_shipLine 111 = .ok (.iconst 1, 1) := by decide +kernel
theorem dX12_shipLine_112 : decode cX12_shipLine 112 = .ok (.iadd, 1) := by decide +kernel
theorem dX12_shipLine_113 : decode cX12_shipLine 113 = .ok (.iastore, 1) := by decide +kernel
theorem dX12_shipLine_114 : decode cX12_shipLine 114 = .ok (.return_, 1) := by decide +kernel
theorem dX12_line_0 : decode cX12_line 0 = .ok (.aload_n 0, 1) := by decide +kernel
theorem dX12_line_1 : decode cX12_line 1 = .ok (.invokevirtual 209, 3) := by decide +kernel
theorem dX12_line_4 : decode cX12_line 4 = .ok (.istore_n 1, 1) := by decide +kernel
theorem dX12_line_5 : decode cX12_line 5 = .ok (.iload_n 1, 1) := by decide +kernel
theorem dX12_line_6 : decode cX12_line 6 = .ok (.iconst (-1), 1) := by decide +kernel
theorem dX12_line_7 : decode cX12_line 7 = .ok (.if_icmp .ne 15, 3) := by decide +kernel
theorem dX12_line_10 : decode cX12_line 10 = .ok (.aload_n 0, 1) := by decide +kernel
theorem dX12_line_11 : decode cX12_line 11 = .ok (.iconst 1, 1) := by decide +kernel
theorem dX12_line_12 : decode cX12_line 12 = .ok (.aload_n 0, 1) := by decide +kernel
theorem dX12_line_13 : decode cX12_line 13 = .ok (.getfield 117, 3) := by decide +kernel
theorem dX12_line_16 : decode cX12_line 16 = .ok (.invokevirtual 153, 3) := by decide +kernel
theorem dX12_line_19 : decode cX12_line 19 = .ok (.goto 73, 3) := by decide +kernel
theorem dX12_line_22 : decode cX12_line 22 = .ok (.iload_n 1, 1) := by decide +kernel
theorem dX12_line_23 : decode cX12_line 23 = .ok (.bipush 6, 2) := by decide +kernel
theorem dX12_line_25 : decode cX12_line 25 = .ok (.if_icmp .ge 11, 3) := by decide +kernel
theorem dX12_line_28 : decode cX12_line 28 = .ok (.aload_n 0, 1) := by decide +kernel
theorem dX12_line_29 : decode cX12_line 29 = .ok (.iload_n 1, 1) := by decide +kernel
theorem dX12_line_30 : decode cX12_line 30 = .ok (.invokevirtual 222, 3) := by decide +kernel
theorem dX12_line_33 : decode cX12_line 33 = .ok (.goto 59, 3) := by decide +kernel
theorem dX12_line_36 : decode cX12_line 36 = .ok (.iload_n 1, 1) := by decide +kernel
theorem dX12_line_37 : decode cX12_line 37 = .ok (.bipush 6, 2) := by decide +kernel
theorem dX12_line_39 : decode cX12_line 39 = .ok (.if_icmp .ne 10, 3) := by decide +kernel
theorem dX12_line_42 : decode cX12_line 42 = .ok (.aload_n 0, 1) := by decide +kernel
theorem dX12_line_43 : decode cX12_line 43 = .ok (.invokevirtual 225, 3) := by decide +kernel
theorem dX12_line_46 : decode cX12_line 46 = .ok (.goto 46, 3) := by decide +kernel
theorem dX12_line_49 : decode cX12_line 49 = .ok (.iload_n 1, 1) := by decide +kernel
theorem dX12_line_50 : decode cX12_line 50 = .ok (.bipush 7, 2) := by decide +kernel
theorem dX12_line_52 : decode cX12_line 52 = .ok (.if_icmp .ne 10, 3) := by decide +kernel
theorem dX12_line_55 : decode cX12_line 55 = .ok (.aload_n 0, 1) := by decide +kernel
theorem dX12_line_56 : decode cX12_line 56 = .ok (.invokevirtual 228, 3) := by decide +kernel
theorem dX12_line_59 : decode cX12_line 59 = .ok (.goto 33, 3) := by decide +kernel
theorem dX12_line_62 : decode cX12_line 62 = .ok (.iload_n 1, 1) := by decide +kernel
theorem dX12_line_63 : decode cX12_line 63 = .ok (.bipush 8, 2) := by decide +kernel
theorem dX12_line_65 : decode cX12_line 65 = .ok (.if_icmp .ne 10, 3) := by decide +kernel
theorem dX12_line_68 : decode cX12_line 68 = .ok (.aload_n 0, 1) := by decide +kernel
theorem dX12_line_69 : decode cX12_line 69 = .ok (.invokevirtual 231, 3) := by decide +kernel
theorem dX12_line_72 : decode cX12_line 72 = .ok (.goto 20, 3) := by decide +kernel
theorem dX12_line_75 : decode cX12_line 75 = .ok (.iload_n 1, 1) := by decide +kernel
theorem dX12_line_76 : decode cX12_line 76 = .ok (.bipush 9, 2) := by decide +kernel
theorem dX12_line_78 : decode cX12_line 78 = .ok (.if_icmp .ne 10, 3) := by decide +kernel
theorem dX12_line_81 : decode cX12_line 81 = .ok (.aload_n 0, 1) := by decide +kernel
theorem dX12_line_82 : decode cX12_line 82 = .ok (.invokevirtual 234, 3) := by decide +kernel
theorem dX12_line_85 : decode cX12_line 85 = .ok (.goto 7, 3) := by decide +kernel
theorem dX12_line_88 : decode cX12_line 88 = .ok (.aload_n 0, 1) := by decide +kernel
theorem dX12_line_89 : decode cX12_line 89 = .ok (.invokevirtual 237, 3) := by decide +kernel
theorem dX12_line_92 : decode cX12_line 92 = .ok (.aload_n 0, 1) := by decide +kernel
theorem dX12_line_93 : decode cX12_line 93 = .ok (.getfield 147, 3) := by decide +kernel
theorem dX12_line_96 : decode cX12_line 96 = .ok (.ifCond .le 4, 3) := by decide +kernel
theorem dX12_line_99 : decode cX12_line 99 = .ok (.return_, 1) := by decide +kernel
theorem dX12_line_100 : decode cX12_line 100 = .ok (.aload_n 0, 1) := by decide +kernel
theorem dX12_line_101 : decode cX12_line 101 = .ok (.getfield 120, 3) := by decide +kernel
theorem dX12_line_104 : decode cX12_line 104 = .ok (.iconst 3, 1) := by decide +kernel
theorem dX12_line_105 : decode cX12_line 105 = .ok (.if_icmp .eq 15, 3) := by decide +kernel
theorem dX12_line_108 : decode cX12_line 108 = .ok (.aload_n 0, 1) := by decide +kernel
theorem dX12_line_109 : decode cX12_line 109 = .ok (.iconst 1, 1) := by decide +kernel
theorem dX12_line_110 : decode cX12_line 110 = .ok (.aload_n 0, 1) := by decide +kernel
theorem dX12_line_111 : decode cX12_line 111 = .ok (.getfield 117, 3) := by decide +kernel
theorem dX12_line_114 : decode cX12_line 114 = .ok (.invokevirtual 153, 3) := by decide +kernel
theorem dX12_line_117 : decode cX12_line 117 = .ok (.goto 7, 3) := by decide +kernel
theorem dX12_line_120 : decode cX12_line 120 = .ok (.aload_n 0, 1) := by decide +kernel
theorem dX12_line_121 : decode cX12_line 121 = .ok (.invokevirtual 160, 3) := by decide +kernel
theorem dX12_line_124 : decode cX12_line 124 = .ok (.aload_n 0, 1) := by decide +kernel
theorem dX12_line_125 : decode cX12_line 125 = .ok (.getfield 7, 3) := by decide +kernel
theorem dX12_line_128 : decode cX12_line 128 = .ok (.bipush 10, 2) := by decide +kernel
theorem dX12_line_130 : decode cX12_line 130 = .ok (.aload_n 0, 1) := by decide +kernel
theorem dX12_line_131 : decode cX12_line 131 = .ok (.getfield 7, 3) := by decide +kernel
theorem dX12_line_134 : decode cX12_line 134 = .ok (.bipush 10, 2) := by decide +kernel
theorem dX12_line_136 : decode cX12_line 136 = .ok (.iaload, 1) := by decide +kernel
theorem dX12_line_137 : decode cX12_line 137 = .ok (.iconst 1, 1) := by decide +kernel
theorem dX12_line_138 : decode cX12_line 138 = .ok (.iadd, 1) := by decide +kernel
theorem dX12_line_139 : decode cX12_line 139 = .ok (.iastore, 1) := by decide +kernel
theorem dX12_line_140 : decode cX12_line 140 = .ok (.return_, 1) := by decide +kernel
theorem dX12_text_0 : decode cX12_text 0 = .ok (.iload_n 1, 1) := by decide +kernel
theorem dX12_text_1 : decode cX12_text 1 = .ok (.ifCond .lt 11, 3) := by decide +kernel
theorem dX12_text_4 : decode cX12_text 4 = .ok (.iload_n 1, 1) := by decide +kernel
theorem dX12_text_5 : decode cX12_text 5 = .ok (.aload_n 0, 1) := by decide +kernel
theorem dX12_text_6 : decode cX12_text 6 = .ok (.getfield 88, 3) := by decide +kernel
theorem dX12_text_9 : decode cX12_text 9 = .ok (.if_icmp .le 6, 3) := by decide +kernel
theorem dX12_text_12 : decode cX12_text 12 = .ok (.bipush (-2), 2) := by decide +kernel
theorem dX12_text_14 : decode cX12_text 14 = .ok (.ireturn, 1) := by decide +kernel
theorem dX12_text_15 : decode cX12_text 15 = .ok (.aload_n 0, 1) := by decide +kernel
theorem dX12_text_16 : decode cX12_text 16 = .ok (.iload_n 1, 1) := by decide +kernel
theorem dX12_text_17 : decode cX12_text 17 = .ok (.putfield 107, 3) := by decide +kernel
theorem dX12_text_20 : decode cX12_text 20 = .ok (.aload_n 0, 1) := by decide +kernel
theorem dX12_text_21 : decode cX12_text 21 = .ok (.iconst 0, 1) := by decide +kernel
theorem dX12_text_22 : decode cX12_text 22 = .ok (.putfield 88, 3) := by decide +kernel
theorem dX12_text_25 : decode cX12_text 25 = .ok (.aload_n 0, 1) := by decide +kernel
theorem dX12_text_26 : decode cX12_text 26 = .ok (.iconst 0, 1) := by decide +kernel
theorem dX12_text_27 : decode cX12_text 27 = .ok (.putfield 110, 3) := by decide +kernel
theorem dX12_text_30 : decode cX12_text 30 = .ok (.aload_n 0, 1) := by decide +kernel
theorem dX12_text_31 : decode cX12_text 31 = .ok (.iconst 0, 1) := by decide +kernel
theorem dX12_text_32 : decode cX12_text 32 = .ok (.putfield 147, 3) := by decide +kernel
theorem dX12_text_35 : decode cX12_text 35 = .ok (.aload_n 0, 1) := by decide +kernel
theorem dX12_text_36 : decode cX12_text 36 = .ok (.iconst (-1), 1) := by decide +kernel
theorem dX12_text_37 : decode cX12_text 37 = .ok (.putfield 150, 3) := by decide +kernel
theorem dX12_text_40 : decode cX12_text 40 = .ok (.aload_n 0, 1) := by decide +kernel
theorem dX12_text_41 : decode cX12_text 41 = .ok (.invokevirtual 82, 3) := by decide +kernel
theorem dX12_text_44 : decode cX12_text 44 = .ok (.aload_n 0, 1) := by decide +kernel
theorem dX12_text_45 : decode cX12_text 45 = .ok (.invokevirtual 160, 3) := by decide +kernel
theorem dX12_text_48 : decode cX12_text 48 = .ok (.aload_n 0, 1) := by decide +kernel
theorem dX12_text_49 : decode cX12_text 49 = .ok (.getfield 147, 3) := by decide +kernel
theorem dX12_text_52 : decode cX12_text 52 = .ok (.ifCond .ne 18, 3) := by decide +kernel
theorem dX12_text_55 : decode cX12_text 55 = .ok (.aload_n 0, 1) := by decide +kernel
theorem dX12_text_56 : decode cX12_text 56 = .ok (.getfield 120, 3) := by decide +kernel
theorem dX12_text_59 : decode cX12_text 59 = .ok (.iconst 4, 1) := by decide +kernel
theorem dX12_text_60 : decode cX12_text 60 = .ok (.if_icmp .eq 10, 3) := by decide +kernel
theorem dX12_text_63 : decode cX12_text 63 = .ok (.aload_n 0, 1) := by decide +kernel
theorem dX12_text_64 : decode cX12_text 64 = .ok (.invokevirtual 240, 3) := by decide +kernel
theorem dX12_text_67 : decode cX12_text 67 = .ok (.goto (-19), 3) := by decide +kernel
theorem dX12_text_70 : decode cX12_text 70 = .ok (.aload_n 0, 1) := by decide +kernel
theorem dX12_text_71 : decode cX12_text 71 = .ok (.aload_n 0, 1) := by decide +kernel
theorem dX12_text_72 : decode cX12_text 72 = .ok (.getfield 147, 3) := by decide +kernel
theorem dX12_text_75 : decode cX12_text 75 = .ok (.putfield 243, 3) := by decide +kernel
theorem dX12_text_78 : decode cX12_text 78 = .ok (.aload_n 0, 1) := by decide +kernel
theorem dX12_text_79 : decode cX12_text 79 = .ok (.aload_n 0, 1) := by decide +kernel
theorem dX12_text_80 : decode cX12_text 80 = .ok (.getfield 150, 3) := by decide +kernel
theorem dX12_text_83 : decode cX12_text 83 = .ok (.putfield 26, 3) := by decide +kernel
theorem dX12_text_86 : decode cX12_text 86 = .ok (.aload_n 0, 1) := by decide +kernel
theorem dX12_text_87 : decode cX12_text 87 = .ok (.getfield 147, 3) := by decide +kernel
theorem dX12_text_90 : decode cX12_text 90 = .ok (.ifCond .le 5, 3) := by decide +kernel
theorem dX12_text_93 : decode cX12_text 93 = .ok (.iconst (-1), 1) := by decide +kernel
theorem dX12_text_94 : decode cX12_text 94 = .ok (.ireturn, 1) := by decide +kernel
theorem dX12_text_95 : decode cX12_text 95 = .ok (.aload_n 0, 1) := by decide +kernel
theorem dX12_text_96 : decode cX12_text 96 = .ok (.invokevirtual 85, 3) := by decide +kernel
theorem dX12_text_99 : decode cX12_text 99 = .ok (.aload_n 0, 1) := by decide +kernel
theorem dX12_text_100 : decode cX12_text 100 = .ok (.getfield 13, 3) := by decide +kernel
theorem dX12_text_103 : decode cX12_text 103 = .ok (.bipush 10, 2) := by decide +kernel
theorem dX12_text_105 : decode cX12_text 105 = .ok (.iaload, 1) := by decide +kernel
theorem dX12_text_106 : decode cX12_text 106 = .ok (.ireturn, 1) := by decide +kernel
theorem dX12_fault_0 : decode cX12_fault 0 = .ok (.iload_n 1, 1) := by decide +kernel
theorem dX12_fault_1 : decode cX12_fault 1 = .ok (.ifCond .ne 10, 3) := by decide +kernel
theorem dX12_fault_4 : decode cX12_fault 4 = .ok (.aload_n 0, 1) := by decide +kernel
theorem dX12_fault_5 : decode cX12_fault 5 = .ok (.getfield 243, 3) := by decide +kernel
theorem dX12_fault_8 : decode cX12_fault 8 = .ok (.goto 16, 3) := by decide +kernel
theorem dX12_fault_11 : decode cX12_fault 11 = .ok (.iload_n 1, 1) := by decide +kernel
theorem dX12_fault_12 : decode cX12_fault 12 = .ok (.iconst 1, 1) := by decide +kernel
theorem dX12_fault_13 : decode cX12_fault 13 = .ok (.if_icmp .ne 10, 3) := by decide +kernel
theorem dX12_fault_16 : decode cX12_fault 16 = .ok (.aload_n 0, 1) := by decide +kernel
theorem dX12_fault_17 : decode cX12_fault 17 = .ok (.getfield 26, 3) := by decide +kernel
theorem dX12_fault_20 : decode cX12_fault 20 = .ok (.goto 4, 3) := by decide +kernel
theorem dX12_fault_23 : decode cX12_fault 23 = .ok (.iconst (-1), 1) := by decide +kernel
theorem dX12_fault_24 : decode cX12_fault 24 = .ok (.ireturn, 1) := by decide +kernel
theorem dX12_stands_0 : decode cX12_stands 0 = .ok (.iconst 0, 1) := by decide +kernel
theorem dX12_stands_1 : decode cX12_stands 1 = .ok (.istore_n 1, 1) := by decide +kernel
theorem dX12_stands_2 : decode cX12_stands 2 = .ok (.iload_n 1, 1) := by decide +kernel
theorem dX12_stands_3 : decode cX12_stands 3 = .ok (.sipush 250, 3) := by decide +kernel
theorem dX12_stands_6 : decode cX12_stands 6 = .ok (.if_icmp .ge 21, 3) := by decide +kernel
theorem dX12_stands_9 : decode cX12_stands 9 = .ok (.aload_n 0, 1) := by decide +kernel
theorem dX12_stands_10 : decode cX12_stands 10 = .ok (.getfield 13, 3) := by decide +kernel
theorem dX12_stands_13 : decode cX12_stands 13 = .ok (.iload_n 1, 1) := by decide +kernel
theorem dX12_stands_14 : decode cX12_stands 14 = .ok (.aload_n 0, 1) := by decide +kernel
theorem dX12_stands_15 : decode cX12_stands 15 = .ok (.getfield 7, 3) := by decide +kernel
theorem dX12_stands_18 : decode cX12_stands 18 = .ok (.iload_n 1, 1) := by decide +kernel
theorem dX12_stands_19 : decode cX12_stands 19 = .ok (.iaload, 1) := by decide +kernel
theorem dX12_stands_20 : decode cX12_stands 20 = .ok (.iastore, 1) := by decide +kernel
theorem dX12_stands_21 : decode cX12_stands 21 = .ok (.iinc 1 1, 3) := by decide +kernel
theorem dX12_stands_24 : decode cX12_stands 24 = .ok (.goto (-22), 3) := by decide +kernel
theorem dX12_stands_27 : decode cX12_stands 27 = .ok (.iconst 0, 1) := by decide +kernel
theorem dX12_stands_28 : decode cX12_stands 28 = .ok (.istore_n 1, 1) := by decide +kernel
theorem dX12_stands_29 : decode cX12_stands 29 = .ok (.iload_n 1, 1) := by decide +kernel
theorem dX12_stands_30 : decode cX12_stands 30 = .ok (.bipush 14, 2) := by decide +kernel
theorem dX12_stands_32 : decode cX12_stands 32 = .ok (.if_icmp .ge 21, 3) := by decide +kernel
theorem dX12_stands_35 : decode cX12_stands 35 = .ok (.aload_n 0, 1) := by decide +kernel
theorem dX12_stands_36 : decode cX12_stands 36 = .ok (.getfield 20, 3) := by decide +kernel
theorem dX12_stands_39 : decode cX12_stands 39 = .ok (.iload_n 1, 1) := by decide +kernel
theorem dX12_stands_40 : decode cX12_stands 40 = .ok (.aload_n 0, 1) := by decide +kernel
theorem dX12_stands_41 : decode cX12_stands 41 = .ok (.getfield 16, 3) := by decide +kernel
theorem dX12_stands_44 : decode cX12_stands 44 = .ok (.iload_n 1, 1) := by decide +kernel
theorem dX12_stands_45 : decode cX12_stands 45 = .ok (.laload, 1) := by decide +kernel
theorem dX12_stands_46 : decode cX12_stands 46 = .ok (.lastore, 1) := by decide +kernel
theorem dX12_stands_47 : decode cX12_stands 47 = .ok (.iinc 1 1, 3) := by decide +kernel
theorem dX12_stands_50 : decode cX12_stands 50 = .ok (.goto (-21), 3) := by decide +kernel
theorem dX12_stands_53 : decode cX12_stands 53 = .ok (.iconst 0, 1) := by decide +kernel
theorem dX12_stands_54 : decode cX12_stands 54 = .ok (.istore_n 1, 1) := by decide +kernel
theorem dX12_stands_55 : decode cX12_stands 55 = .ok (.iload_n 1, 1) := by decide +kernel
theorem dX12_stands_56 : decode cX12_stands 56 = .ok (.sipush 999, 3) := by decide +kernel
theorem dX12_stands_59 : decode cX12_stands 59 = .ok (.if_icmp .gt 20, 3) := by decide +kernel
theorem dX12_stands_62 : decode cX12_stands 62 = .ok (.aload_n 0, 1) := by decide +kernel
theorem dX12_stands_63 : decode cX12_stands 63 = .ok (.getfield 30, 3) := by decide +kernel
theorem dX12_stands_66 : decode cX12_stands 66 = .ok (.iload_n 1, 1) := by decide +kernel
theorem dX12_stands_67 : decode cX12_stands 67 = .ok (.aload_n 0, 1) := by decide +kernel
theorem dX12_stands_68 : decode cX12_stands 68 = .ok (.iload_n 1, 1) := by decide +kernel
theorem dX12_stands_69 : decode cX12_stands 69 = .ok (.invokevirtual 246, 3) := by decide +kernel
theorem dX12_stands_72 : decode cX12_stands 72 = .ok (.iastore, 1) := by decide +kernel
theorem dX12_stands_73 : decode cX12_stands 73 = .ok (.iinc 1 1, 3) := by decide +kernel
theorem dX12_stands_76 : decode cX12_stands 76 = .ok (.goto (-21), 3) := by decide +kernel
theorem dX12_stands_79 : decode cX12_stands 79 = .ok (.iconst 0, 1) := by decide +kernel
theorem dX12_stands_80 : decode cX12_stands 80 = .ok (.istore_n 1, 1) := by decide +kernel
theorem dX12_stands_81 : decode cX12_stands 81 = .ok (.iload_n 1, 1) := by decide +kernel
theorem dX12_stands_82 : decode cX12_stands 82 = .ok (.sipush 336, 3) := by decide +kernel
theorem dX12_stands_85 : decode cX12_stands 85 = .ok (.if_icmp .ge 20, 3) := by decide +kernel
theorem dX12_stands_88 : decode cX12_stands 88 = .ok (.aload_n 0, 1) := by decide +kernel
theorem dX12_stands_89 : decode cX12_stands 89 = .ok (.getfield 33, 3) := by decide +kernel
theorem dX12_stands_92 : decode cX12_stands 92 = .ok (.iload_n 1, 1) := by decide +kernel
theorem dX12_stands_93 : decode cX12_stands 93 = .ok (.aload_n 0, 1) := by decide +kernel
theorem dX12_stands_94 : decode cX12_stands 94 = .ok (.iload_n 1, 1) := by decide +kernel
theorem dX12_stands_95 : decode cX12_stands 95 = .ok (.invokevirtual 249, 3) := by decide +kernel
theorem dX12_stands_98 : decode cX12_stands 98 = .ok (.iastore, 1) := by decide +kernel
theorem dX12_stands_99 : decode cX12_stands 99 = .ok (.iinc 1 1, 3) := by decide +kernel
theorem dX12_stands_102 : decode cX12_stands 102 = .ok (.goto (-21), 3) := by decide +kernel
theorem dX12_stands_105 : decode cX12_stands 105 = .ok (.iconst 0, 1) := by decide +kernel
theorem dX12_stands_106 : decode cX12_stands 106 = .ok (.istore_n 1, 1) := by decide +kernel
theorem dX12_stands_107 : decode cX12_stands 107 = .ok (.iload_n 1, 1) := by decide +kernel
theorem dX12_stands_108 : decode cX12_stands 108 = .ok (.bipush 14, 2) := by decide +kernel
theorem dX12_stands_110 : decode cX12_stands 110 = .ok (.if_icmp .ge 16, 3) := by decide +kernel
theorem dX12_stands_113 : decode cX12_stands 113 = .ok (.aload_n 0, 1) := by decide +kernel
theorem dX12_stands_114 : decode cX12_stands 114 = .ok (.getfield 42, 3) := by decide +kernel
theorem dX12_stands_117 : decode cX12_stands 117 = .ok (.iload_n 1, 1) := by decide +kernel
theorem dX12_stands_118 : decode cX12_stands 118 = .ok (.iconst 0, 1) := by decide +kernel
theorem dX12_stands_119 : decode cX12_stands 119 = .ok (.iastore, 1) := by decide +kernel
theorem dX12_stands_120 : decode cX12_stands 120 = .ok (.iinc 1 1, 3) := by decide +kernel
theorem dX12_stands_123 : decode cX12_stands 123 = .ok (.goto (-16), 3) := by decide +kernel
theorem dX12_stands_126 : decode cX12_stands 126 = .ok (.aload_n 0, 1) := by decide +kernel
theorem dX12_stands_127 : decode cX12_stands 127 = .ok (.iconst 0, 1) := by decide +kernel
theorem dX12_stands_128 : decode cX12_stands 128 = .ok (.putfield 252, 3) := by decide +kernel
theorem dX12_stands_131 : decode cX12_stands 131 = .ok (.iconst 0, 1) := by decide +kernel
theorem dX12_stands_132 : decode cX12_stands 132 = .ok (.istore_n 1, 1) := by decide +kernel
theorem dX12_stands_133 : decode cX12_stands 133 = .ok (.iload_n 1, 1) := by decide +kernel
theorem dX12_stands_134 : decode cX12_stands 134 = .ok (.iconst 4, 1) := by decide +kernel
theorem dX12_stands_135 : decode cX12_stands 135 = .ok (.if_icmp .ge 16, 3) := by decide +kernel
theorem dX12_stands_138 : decode cX12_stands 138 = .ok (.aload_n 0, 1) := by decide +kernel
theorem dX12_stands_139 : decode cX12_stands 139 = .ok (.getfield 60, 3) := by decide +kernel
theorem dX12_stands_142 : decode cX12_stands 142 = .ok (.iload_n 1, 1) := by decide +kernel
theorem dX12_stands_143 : decode cX12_stands 143 = .ok (.iconst 0, 1) := by decide +kernel
theorem dX12_stands_144 : decode cX12_stands 144 = .ok (.bastore, 1) := by decide +kernel
theorem dX12_stands_145 : decode cX12_stands 145 = .ok (.iinc 1 1, 3) := by decide +kernel
theorem dX12_stands_148 : decode cX12_stands 148 = .ok (.goto (-15), 3) := by decide +kernel
theorem dX12_stands_151 : decode cX12_stands 151 = .ok (.return_, 1) := by decide +kernel
theorem dX12_depthBy_0 : decode cX12_depthBy 0 = .ok (.iconst (-1), 1) := by decide +kernel
theorem dX12_depthBy_1 : decode cX12_depthBy 1 = .ok (.istore_n 2, 1) := by decide +kernel
theorem dX12_depthBy_2 : decode cX12_depthBy 2 = .ok (.bipush 100, 2) := by decide +kernel
theorem dX12_depthBy_4 : decode cX12_depthBy 4 = .ok (.istore_n 3, 1) := by decide +kernel
theorem dX12_depthBy_5 : decode cX12_depthBy 5 = .ok (.iconst 0, 1) := by decide +kernel
theorem dX12_depthBy_6 : decode cX12_depthBy 6 = .ok (.istore 4, 2) := by decide +kernel
theorem dX12_depthBy_8 : decode cX12_depthBy 8 = .ok (.iload 4, 2) := by decide +kernel
theorem dX12_depthBy_10 : decode cX12_depthBy 10 = .ok (.aload_n 0, 1) := by decide +kernel
theorem dX12_depthBy_11 : decode cX12_depthBy 11 = .ok (.getfield 13, 3) := by decide +kernel
theorem dX12_depthBy_14 : decode cX12_depthBy 14 = .ok (.bipush 6, 2) := by decide +kernel
theorem dX12_depthBy_16 : decode cX12_depthBy 16 = .ok (.iaload, 1) := by decide +kernel
theorem dX12_depthBy_17 : decode cX12_depthBy 17 = .ok (.if_icmp .ge 50, 3) := by decide +kernel
theorem dX12_depthBy_20 : decode cX12_depthBy 20 = .ok (.aload_n 0, 1) := by decide +kernel
theorem dX12_depthBy_21 : decode cX12_depthBy 21 = .ok (.getfield 13, 3) := by decide +kernel
theorem dX12_depthBy_24 : decode cX12_depthBy 24 = .ok (.bipush 11, 2) := by decide +kernel
theorem dX12_depthBy_26 : decode cX12_depthBy 26 = .ok (.iload 4, 2) := by decide +kernel
theorem dX12_depthBy_28 : decode cX12_depthBy 28 = .ok (.iadd, 1) := by decide +kernel
theorem dX12_depthBy_29 : decode cX12_depthBy 29 = .ok (.iaload, 1) := by decide +kernel
theorem dX12_depthBy_30 : decode cX12_depthBy 30 = .ok (.istore 5, 2) := by decide +kernel
theorem dX12_depthBy_32 : decode cX12_depthBy 32 = .ok (.iload 5, 2) := by decide +kernel
theorem dX12_depthBy_34 : decode cX12_depthBy 34 = .ok (.iload_n 1, 1) := by decide +kernel
theorem dX12_depthBy_35 : decode cX12_depthBy 35 = .ok (.if_icmp .gt 26, 3) := by decide +kernel
theorem dX12_depthBy_38 : decode cX12_depthBy 38 = .ok (.iload 5, 2) := by decide +kernel
theorem dX12_depthBy_40 : decode cX12_depthBy 40 = .ok (.iload_n 2, 1) := by decide +kernel
theorem dX12_depthBy_41 : decode cX12_depthBy 41 = .ok (.if_icmp .gt 6, 3) := by decide +kernel
theorem dX12_depthBy_44 : decode cX12_depthBy 44 = .ok (.goto 17, 3) := by decide +kernel
theorem dX12_depthBy_47 : decode cX12_depthBy 47 = .ok (.iload 5, 2) := by decide +kernel
theorem dX12_depthBy_49 : decode cX12_depthBy 49 = .ok (.istore_n 2, 1) := by decide +kernel
theorem dX12_depthBy_50 : decode cX12_depthBy 50 = .ok (.aload_n 0, 1) := by decide +kernel
theorem dX12_depthBy_51 : decode cX12_depthBy 51 = .ok (.getfield 13, 3) := by decide +kernel
theorem dX12_depthBy_54 : decode cX12_depthBy 54 = .ok (.bipush 19, 2) := by decide +kernel
theorem dX12_depthBy_56 : decode cX12_depthBy 56 = .ok (.iload 4, 2) := by decide +kernel
theorem dX12_depthBy_58 : decode cX12_depthBy 58 = .ok (.iadd, 1) := by decide +kernel
theorem dX12_depthBy_59 : decode cX12_depthBy 59 = .ok (.iaload, 1) := by decide +kernel
theorem dX12_depthBy_60 : decode cX12_depthBy 60 = .ok (.istore_n 3, 1) := by decide +kernel
theorem dX12_depthBy_61 : decode cX12_depthBy 61 = .ok (.iinc 4 1, 3) := by decide +kernel
theorem dX12_depthBy_64 : decode cX12_depthBy 64 = .ok (.goto (-56), 3) := by decide +kernel
theorem dX12_depthBy_67 : decode cX12_depthBy 67 = .ok (.iload_n 3, 1) := by decide +kernel
theorem dX12_depthBy_68 : decode cX12_depthBy 68 = .ok (.ireturn, 1) := by decide +kernel
theorem dX12_levelBy_0 : decode cX12_levelBy 0 = .ok (.iconst (-1), 1) := by decide +kernel
theorem dX12_levelBy_1 : decode cX12_levelBy 1 = .ok (.istore_n 2, 1) := by decide +kernel
theorem dX12_levelBy_2 : decode cX12_levelBy 2 = .ok (.iconst (-1), 1) := by decide +kernel
theorem dX12_levelBy_3 : decode cX12_levelBy 3 = .ok (.istore_n 3, 1) := by decide +kernel
theorem dX12_levelBy_4 : decode cX12_levelBy 4 = .ok (.iconst 0, 1) := by decide +kernel
theorem dX12_levelBy_5 : decode cX12_levelBy 5 = .ok (.istore 4, 2) := by decide +kernel
theorem dX12_levelBy_7 : decode cX12_levelBy 7 = .ok (.iload 4, 2) := by decide +kernel
theorem dX12_levelBy_9 : decode cX12_levelBy 9 = .ok (.aload_n 0, 1) := by decide +kernel
theorem dX12_levelBy_10 : decode cX12_levelBy 10 = .ok (.getfield 13, 3) := by decide +kernel
theorem dX12_levelBy_13 : decode cX12_levelBy 13 = .ok (.bipush 8, 2) := by decide +kernel
theorem dX12_levelBy_15 : decode cX12_levelBy 15 = .ok (.iaload, 1) := by decide +kernel
theorem dX12_levelBy_16 : decode cX12_levelBy 16 = .ok (.if_icmp .ge 77, 3) := by decide +kernel
theorem dX12_levelBy_19 : decode cX12_levelBy 19 = .ok (.aload_n 0, 1) := by decide +kernel
theorem dX12_levelBy_20 : decode cX12_levelBy 20 = .ok (.getfield 13, 3) := by decide +kernel
theorem dX12_levelBy_23 : decode cX12_levelBy 23 = .ok (.bipush 43, 2) := by decide +kernel
theorem dX12_levelBy_25 : decode cX12_levelBy 25 = .ok (.iload 4, 2) := by decide +kernel
theorem dX12_levelBy_27 : decode cX12_levelBy 27 = .ok (.iadd, 1) := by decide +kernel
theorem dX12_levelBy_28 : decode cX12_levelBy 28 = .ok (.iaload, 1) := by decide +kernel
theorem dX12_levelBy_29 : decode cX12_levelBy 29 = .ok (.istore 5, 2) := by decide +kernel
theorem dX12_levelBy_31 : decode cX12_levelBy 31 = .ok (.iload 5, 2) := by decide +kernel
theorem dX12_levelBy_33 : decode cX12_levelBy 33 = .ok (.iload_n 1, 1) := by decide +kernel
theorem dX12_levelBy_34 : decode cX12_levelBy 34 = .ok (.if_icmp .gt 25, 3) := by decide +kernel
theorem dX12_levelBy_37 : decode cX12_levelBy 37 = .ok (.iload_n 2, 1) := by decide +kernel
theorem dX12_levelBy_38 : decode cX12_levelBy 38 = .ok (.iconst (-1), 1) := by decide +kernel
theorem dX12_levelBy_39 : decode cX12_levelBy 39 = .ok (.if_icmp .eq 17, 3) := by decide +kernel
theorem dX12_levelBy_42 : decode cX12_levelBy 42 = .ok (.iload 5, 2) := by decide +kernel
theorem dX12_levelBy_44 : decode cX12_levelBy 44 = .ok (.aload_n 0, 1) := by decide +kernel
theorem dX12_levelBy_45 : decode cX12_levelBy 45 = .ok (.getfield 13, 3) := by decide +kernel
theorem dX12_levelBy_48 : decode cX12_levelBy 48 = .ok (.bipush 43, 2) := by decide +kernel
theorem dX12_levelBy_50 : decode cX12_levelBy 50 = .ok (.iload_n 2, 1) := by decide +kernel
theorem dX12_levelBy_51 : decode cX12_levelBy 51 = .ok (.iadd, 1) := by decide +kernel
theorem dX12_levelBy_52 : decode cX12_levelBy 52 = .ok (.iaload, 1) := by decide +kernel
theorem dX12_levelBy_53 : decode cX12_levelBy 53 = .ok (.if_icmp .le 6, 3) := by decide +kernel
theorem dX12_levelBy_56 : decode cX12_levelBy 56 = .ok (.iload 4, 2) := by decide +kernel
theorem dX12_levelBy_58 : decode cX12_levelBy 58 = .ok (.istore_n 2, 1) := by decide +kernel
theorem dX12_levelBy_59 : decode cX12_levelBy 59 = .ok (.iload 5, 2) := by decide +kernel
theorem dX12_levelBy_61 : decode cX12_levelBy 61 = .ok (.iload_n 1, 1) := by decide +kernel
theorem dX12_levelBy_62 : decode cX12_levelBy 62 = .ok (.if_icmp .le 25, 3) := by decide +kernel
theorem dX12_levelBy_65 : decode cX12_levelBy 65 = .ok (.iload_n 3, 1) := by decide +kernel
theorem dX12_levelBy_66 : decode cX12_levelBy 66 = .ok (.iconst (-1), 1) := by decide +kernel
theorem dX12_levelBy_67 : decode cX12_levelBy 67 = .ok (.if_icmp .eq 17, 3) := by decide +kernel
theorem dX12_levelBy_70 : decode cX12_levelBy 70 = .ok (.iload 5, 2) := by decide +kernel
theorem dX12_levelBy_72 : decode cX12_levelBy 72 = .ok (.aload_n 0, 1) := by decide +kernel
theorem dX12_levelBy_73 : decode cX12_levelBy 73 = .ok (.getfield 13, 3) := by decide +kernel
theorem dX12_levelBy_76 : decode cX12_levelBy 76 = .ok (.bipush 43, 2) := by decide +kernel
theorem dX12_levelBy_78 : decode cX12_levelBy 78 = .ok (.iload_n 3, 1) := by decide +kernel
theorem dX12_levelBy_79 : decode cX12_levelBy 79 = .ok (.iadd, 1) := by decide +kernel
theorem dX12_levelBy_80 : decode cX12_levelBy 80 = .ok (.iaload, 1) := by decide +kernel
theorem dX12_levelBy_81 : decode cX12_levelBy 81 = .ok (.if_icmp .ge 6, 3) := by decide +kernel
theorem dX12_levelBy_84 : decode cX12_levelBy 84 = .ok (.iload 4, 2) := by decide +kernel
theorem dX12_levelBy_86 : decode cX12_levelBy 86 = .ok (.istore_n 3, 1) := by decide +kernel
theorem dX12_levelBy_87 : decode cX12_levelBy 87 = .ok (.iinc 4 1, 3) := by decide +kernel
theorem dX12_levelBy_90 : decode cX12_levelBy 90 = .ok (.goto (-83), 3) := by decide +kernel
theorem dX12_levelBy_93 : decode cX12_levelBy 93 = .ok (.iload_n 2, 1) := by decide +kernel
theorem dX12_levelBy_94 : decode cX12_levelBy 94 = .ok (.iconst (-1), 1) := by decide +kernel
theorem dX12_levelBy_95 : decode cX12_levelBy 95 = .ok (.if_icmp .ne 22, 3) := by decide +kernel
theorem dX12_levelBy_98 : decode cX12_levelBy 98 = .ok (.iload_n 3, 1) := by decide +kernel
theorem dX12_levelBy_99 : decode cX12_levelBy 99 = .ok (.iconst (-1), 1) := by decide +kernel
theorem dX12_levelBy_100 : decode cX12_levelBy 100 = .ok (.if_icmp .ne 7, 3) := by decide +kernel
theorem dX12_levelBy_103 : decode cX12_levelBy 103 = .ok (.iconst 0, 1) := by decide +kernel
theorem dX12_levelBy_104 : decode cX12_levelBy 104 = .ok (.goto 12, 3) := by decide +kernel
theorem dX12_levelBy_107 : decode cX12_levelBy 107 = .ok (.aload_n 0, 1) := by decide +kernel
theorem dX12_levelBy_108 : decode cX12_levelBy 108 = .ok (.getfield 13, 3) := by decide +kernel
theorem dX12_levelBy_111 : decode cX12_levelBy 111 = .ok (.bipush 73, 2) := by decide +kernel
theorem dX12_levelBy_113 : decode cX12_levelBy 113 = .ok (.iload_n 3, 1) := by decide +kernel
theorem dX12_levelBy_114 : decode cX12_levelBy 114 = .ok (.iadd, 1) := by decide +kernel
theorem dX12_levelBy_115 : decode cX12_levelBy 115 = .ok (.iaload, 1) := by decide +kernel
theorem dX12_levelBy_116 : decode cX12_levelBy 116 = .ok (.ireturn, 1) := by decide +kernel
theorem dX12_levelBy_117 : decode cX12_levelBy 117 = .ok (.aload_n 0, 1) := by decide +kernel
theorem dX12_levelBy_118 : decode cX12_levelBy 118 = .ok (.getfield 13, 3) := by decide +kernel
theorem dX12_levelBy_121 : decode cX12_levelBy 121 = .ok (.bipush 73, 2) := by decide +kernel
theorem dX12_levelBy_123 : decode cX12_levelBy 123 = .ok (.iload_n 2, 1) := by decide +kernel
theorem dX12_levelBy_124 : decode cX12_levelBy 124 = .ok (.iadd, 1) := by decide +kernel
theorem dX12_levelBy_125 : decode cX12_levelBy 125 = .ok (.iaload, 1) := by decide +kernel
theorem dX12_levelBy_126 : decode cX12_levelBy 126 = .ok (.istore 4, 2) := by decide +kernel
theorem dX12_levelBy_128 : decode cX12_levelBy 128 = .ok (.iload_n 3, 1) := by decide +kernel
theorem dX12_levelBy_129 : decode cX12_levelBy 129 = .ok (.iconst (-1), 1) := by decide +kernel
theorem dX12_levelBy_130 : decode cX12_levelBy 130 = .ok (.if_icmp .ne 6, 3) := by decide +kernel
theorem dX12_levelBy_133 : decode cX12_levelBy 133 = .ok (.iload 4, 2) := by decide +kernel
theorem dX12_levelBy_135 : decode cX12_levelBy 135 = .ok (.ireturn, 1) := by decide +kernel
theorem dX12_levelBy_136 : decode cX12_levelBy 136 = .ok (.aload_n 0, 1) := by decide +kernel
theorem dX12_levelBy_137 : decode cX12_levelBy 137 = .ok (.getfield 13, 3) := by decide +kernel
theorem dX12_levelBy_140 : decode cX12_levelBy 140 = .ok (.bipush 43, 2) := by decide +kernel
theorem dX12_levelBy_142 : decode cX12_levelBy 142 = .ok (.iload_n 3, 1) := by decide +kernel
theorem dX12_levelBy_143 : decode cX12_levelBy 143 = .ok (.iadd, 1) := by decide +kernel
theorem dX12_levelBy_144 : decode cX12_levelBy 144 = .ok (.iaload, 1) := by decide +kernel
theorem dX12_levelBy_145 : decode cX12_levelBy 145 = .ok (.aload_n 0, 1) := by decide +kernel
theorem dX12_levelBy_146 : decode cX12_levelBy 146 = .ok (.getfield 13, 3) := by decide +kernel
theorem dX12_levelBy_149 : decode cX12_levelBy 149 = .ok (.bipush 43, 2) := by decide +kernel
theorem dX12_levelBy_151 : decode cX12_levelBy 151 = .ok (.iload_n 2, 1) := by decide +kernel
theorem dX12_levelBy_152 : decode cX12_levelBy 152 = .ok (.iadd, 1) := by decide +kernel
theorem dX12_levelBy_153 : decode cX12_levelBy 153 = .ok (.iaload, 1) := by decide +kernel
theorem dX12_levelBy_154 : decode cX12_levelBy 154 = .ok (.isub, 1) := by decide +kernel
theorem dX12_levelBy_155 : decode cX12_levelBy 155 = .ok (.istore 5, 2) := by decide +kernel
theorem dX12_levelBy_157 : decode cX12_levelBy 157 = .ok (.aload_n 0, 1) := by decide +kernel
theorem dX12_levelBy_158 : decode cX12_levelBy 158 = .ok (.getfield 13, 3) := by decide +kernel
theorem dX12_levelBy_161 : decode cX12_levelBy 161 = .ok (.bipush 73, 2) := by decide +kernel
theorem dX12_levelBy_163 : decode cX12_levelBy 163 = .ok (.iload_n 3, 1) := by decide +kernel
theorem dX12_levelBy_164 : decode cX12_levelBy 164 = .ok (.iadd, 1) := by decide +kernel
theorem dX12_levelBy_165 : decode cX12_levelBy 165 = .ok (.iaload, 1) := by decide +kernel
theorem dX12_levelBy_166 : decode cX12_levelBy 166 = .ok (.iload 4, 2) := by decide +kernel
theorem dX12_levelBy_168 : decode cX12_levelBy 168 = .ok (.isub, 1) := by decide +kernel
theorem dX12_levelBy_169 : decode cX12_levelBy 169 = .ok (.iload_n 1, 1) := by decide +kernel
theorem dX12_levelBy_170 : decode cX12_levelBy 170 = .ok (.aload_n 0, 1) := by decide +kernel
theorem dX12_levelBy_171 : decode cX12_levelBy 171 = .ok (.getfield 13, 3) := by decide +kernel
theorem dX12_levelBy_174 : decode cX12_levelBy 174 = .ok (.bipush 43, 2) := by decide +kernel
theorem dX12_levelBy_176 : decode cX12_levelBy 176 = .ok (.iload_n 2, 1) := by decide +kernel
theorem dX12_levelBy_177 : decode cX12_levelBy 177 = .ok (.iadd, 1) := by decide +kernel
theorem dX12_levelBy_178 : decode cX12_levelBy 178 = .ok (.iaload, 1) := by decide +kernel
theorem dX12_levelBy_179 : decode cX12_levelBy 179 = .ok (.isub, 1) := by decide +kernel
theorem dX12_levelBy_180 : decode cX12_levelBy 180 = .ok (.imul, 1) := by decide +kernel
theorem dX12_levelBy_181 : decode cX12_levelBy 181 = .ok (.istore 6, 2) := by decide +kernel
theorem dX12_levelBy_183 : decode cX12_levelBy 183 = .ok (.iload 6, 2) := by decide +kernel
theorem dX12_levelBy_185 : decode cX12_levelBy 185 = .ok (.iload 5, 2) := by decide +kernel
theorem dX12_levelBy_187 : decode cX12_levelBy 187 = .ok (.idiv, 1) := by decide +kernel
theorem dX12_levelBy_188 : decode cX12_levelBy 188 = .ok (.istore 7, 2) := by decide +kernel
theorem dX12_levelBy_190 : decode cX12_levelBy 190 = .ok (.iload 4, 2) := by decide +kernel
theorem dX12_levelBy_192 : decode cX12_levelBy 192 = .ok (.iload 7, 2) := by decide +kernel
theorem dX12_levelBy_194 : decode cX12_levelBy 194 = .ok (.iload 5, 2) := by decide +kernel
theorem dX12_levelBy_196 : decode cX12_levelBy 196 = .ok (.imul, 1) := by decide +kernel
theorem dX12_levelBy_197 : decode cX12_levelBy 197 = .ok (.iload 6, 2) := by decide +kernel
theorem dX12_levelBy_199 : decode cX12_levelBy 199 = .ok (.if_icmp .le 10, 3) := by decide +kernel
theorem dX12_levelBy_202 : decode cX12_levelBy 202 = .ok (.iload 7, 2) := by decide +kernel
theorem dX12_levelBy_204 : decode cX12_levelBy 204 = .ok (.iconst 1, 1) := by decide +kernel
theorem dX12_levelBy_205 : decode cX12_levelBy 205 = .ok (.isub, 1) := by decide +kernel
theorem dX12_levelBy_206 : decode cX12_levelBy 206 = .ok (.goto 5, 3) := by decide +kernel
theorem dX12_levelBy_209 : decode cX12_levelBy 209 = .ok (.iload 7, 2) := by decide +kernel
theorem dX12_levelBy_211 : decode cX12_levelBy 211 = .ok (.iadd, 1) := by decide +kernel
theorem dX12_levelBy_212 : decode cX12_levelBy 212 = .ok (.ireturn, 1) := by decide +kernel
theorem dX12_isShip_0 : decode cX12_isShip 0 = .ok (.iload_n 1, 1) := by decide +kernel
theorem dX12_isShip_1 : decode cX12_isShip 1 = .ok (.i2l, 1) := by decide +kernel
theorem dX12_isShip_2 : decode cX12_isShip 2 = .ok (.lconst 0, 1) := by decide +kernel
theorem dX12_isShip_3 : decode cX12_isShip 3 = .ok (.aload_n 0, 1) := by decide +kernel
theorem dX12_isShip_4 : decode cX12_isShip 4 = .ok (.getfield 13, 3) := by decide +kernel
theorem dX12_isShip_7 : decode cX12_isShip 7 = .ok (.bipush 9, 2) := by decide +kernel
theorem dX12_isShip_9 : decode cX12_isShip 9 = .ok (.iaload, 1) := by decide +kernel
theorem dX12_isShip_10 : decode cX12_isShip 10 = .ok (.iconst 1, 1) := by decide +kernel
theorem dX12_isShip_11 : decode cX12_isShip 11 = .ok (.isub, 1) := by decide +kernel
theorem dX12_isShip_12 : decode cX12_isShip 12 = .ok (.i2l, 1) := by decide +kernel
theorem dX12_isShip_13 : decode cX12_isShip 13 = .ok (.invokestatic 99, 3) := by decide +kernel
theorem dX12_isShip_16 : decode cX12_isShip 16 = .ok (.ireturn, 1) := by decide +kernel
theorem dX12_isSlot_0 : decode cX12_isSlot 0 = .ok (.iload_n 0, 1) := by decide +kernel
theorem dX12_isSlot_1 : decode cX12_isSlot 1 = .ok (.i2l, 1) := by decide +kernel
theorem dX12_isSlot_2 : decode cX12_isSlot 2 = .ok (.lconst 0, 1) := by decide +kernel
theorem dX12_isSlot_3 : decode cX12_isSlot 3 = .ok (.ldc2_w 255, 3) := by decide +kernel
theorem dX12_isSlot_6 : decode cX12_isSlot 6 = .ok (.invokestatic 99, 3) := by decide +kernel
theorem dX12_isSlot_9 : decode cX12_isSlot 9 = .ok (.ireturn, 1) := by decide +kernel
theorem dX12_isMetre_0 : decode cX12_isMetre 0 = .ok (.iload_n 1, 1) := by decide +kernel
theorem dX12_isMetre_1 : decode cX12_isMetre 1 = .ok (.i2l, 1) := by decide +kernel
theorem dX12_isMetre_2 : decode cX12_isMetre 2 = .ok (.lconst 0, 1) := by decide +kernel
theorem dX12_isMetre_3 : decode cX12_isMetre 3 = .ok (.aload_n 0, 1) := by decide +kernel
theorem dX12_isMetre_4 : decode cX12_isMetre 4 = .ok (.getfield 13, 3) := by decide +kernel
theorem dX12_isMetre_7 : decode cX12_isMetre 7 = .ok (.iconst 0, 1) := by decide +kernel
theorem dX12_isMetre_8 : decode cX12_isMetre 8 = .ok (.iaload, 1) := by decide +kernel
theorem dX12_isMetre_9 : decode cX12_isMetre 9 = .ok (.iconst 1, 1) := by decide +kernel
theorem dX12_isMetre_10 : decode cX12_isMetre 10 = .ok (.isub, 1) := by decide +kernel
theorem dX12_isMetre_11 : decode cX12_isMetre 11 = .ok (.i2l, 1) := by decide +kernel
theorem dX12_isMetre_12 : decode cX12_isMetre 12 = .ok (.invokestatic 99, 3) := by decide +kernel
theorem dX12_isMetre_15 : decode cX12_isMetre 15 = .ok (.ireturn, 1) := by decide +kernel
theorem dX12_isWater_0 : decode cX12_isWater 0 = .ok (.iload_n 0, 1) := by decide +kernel
theorem dX12_isWater_1 : decode cX12_isWater 1 = .ok (.i2l, 1) := by decide +kernel
theorem dX12_isWater_2 : decode cX12_isWater 2 = .ok (.lconst 0, 1) := by decide +kernel
theorem dX12_isWater_3 : decode cX12_isWater 3 = .ok (.ldc2_w 257, 3) := by decide +kernel
theorem dX12_isWater_6 : decode cX12_isWater 6 = .ok (.invokestatic 99, 3) := by decide +kernel
theorem dX12_isWater_9 : decode cX12_isWater 9 = .ok (.ireturn, 1) := by decide +kernel
theorem dX12_isShift_0 : decode cX12_isShift 0 = .ok (.iload_n 0, 1) := by decide +kernel
theorem dX12_isShift_1 : decode cX12_isShift 1 = .ok (.i2l, 1) := by decide +kernel
theorem dX12_isShift_2 : decode cX12_isShift 2 = .ok (.lconst 0, 1) := by decide +kernel
theorem dX12_isShift_3 : decode cX12_isShift 3 = .ok (.ldc2_w 259, 3) := by decide +kernel
theorem dX12_isShift_6 : decode cX12_isShift 6 = .ok (.invokestatic 99, 3) := by decide +kernel
theorem dX12_isShift_9 : decode cX12_isShift 9 = .ok (.ifCond .eq 19, 3) := by decide +kernel
theorem dX12_isShift_12 : decode cX12_isShift 12 = .ok (.iload_n 1, 1) := by decide +kernel
theorem dX12_isShift_13 : decode cX12_isShift 13 = .ok (.i2l, 1) := by decide +kernel
theorem dX12_isShift_14 : decode cX12_isShift 14 = .ok (.lconst 0, 1) := by decide +kernel
theorem dX12_isShift_15 : decode cX12_isShift 15 = .ok (.ldc2_w 261, 3) := by decide +kernel
theorem dX12_isShift_18 : decode cX12_isShift 18 = .ok (.invokestatic 99, 3) := by decide +kernel
theorem dX12_isShift_21 : decode cX12_isShift 21 = .ok (.ifCond .eq 7, 3) := by decide +kernel
theorem dX12_isShift_24 : decode cX12_isShift 24 = .ok (.iconst 1, 1) := by decide +kernel
theorem dX12_isShift_25 : decode cX12_isShift 25 = .ok (.goto 4, 3) := by decide +kernel
theorem dX12_isShift_28 : decode cX12_isShift 28 = .ok (.iconst 0, 1) := by decide +kernel
theorem dX12_isShift_29 : decode cX12_isShift 29 = .ok (.ireturn, 1) := by decide +kernel
theorem dX12_of_0 : decode cX12_of 0 = .ok (.aload_n 0, 1) := by decide +kernel
theorem dX12_of_1 : decode cX12_of 1 = .ok (.getfield 13, 3) := by decide +kernel
theorem dX12_of_4 : decode cX12_of 4 = .ok (.bipush 124, 2) := by decide +kernel
theorem dX12_of_6 : decode cX12_of 6 = .ok (.bipush 9, 2) := by decide +kernel
theorem dX12_of_8 : decode cX12_of 8 = .ok (.iload_n 1, 1) := by decide +kernel
theorem dX12_of_9 : decode cX12_of 9 = .ok (.imul, 1) := by decide +kernel
theorem dX12_of_10 : decode cX12_of 10 = .ok (.iadd, 1) := by decide +kernel
theorem dX12_of_11 : decode cX12_of 11 = .ok (.iload_n 2, 1) := by decide +kernel
theorem dX12_of_12 : decode cX12_of 12 = .ok (.iadd, 1) := by decide +kernel
theorem dX12_of_13 : decode cX12_of 13 = .ok (.iaload, 1) := by decide +kernel
theorem dX12_of_14 : decode cX12_of 14 = .ok (.ireturn, 1) := by decide +kernel
theorem dX12_count_0 : decode cX12_count 0 = .ok (.iload_n 1, 1) := by decide +kernel
theorem dX12_count_1 : decode cX12_count 1 = .ok (.tableswitch 69 10 15 #[39, 44, 49, 54, 59, 64], 39) := by decide +kernel
theorem dX12_count_40 : decode cX12_count 40 = .ok (.aload_n 0, 1) := by decide +kernel
theorem dX12_count_41 : decode cX12_count 41 = .ok (.invokevirtual 263, 3) := by decide +kernel
theorem dX12_count_44 : decode cX12_count 44 = .ok (.ireturn, 1) := by decide +kernel
theorem dX12_count_45 : decode cX12_count 45 = .ok (.aload_n 0, 1) := by decide +kernel
theorem dX12_count_46 : decode cX12_count 46 = .ok (.getfield 252, 3) := by decide +kernel
theorem dX12_count_49 : decode cX12_count 49 = .ok (.ireturn, 1) := by decide +kernel
theorem dX12_count_50 : decode cX12_count 50 = .ok (.aload_n 0, 1) := by decide +kernel
theorem dX12_count_51 : decode cX12_count 51 = .ok (.invokevirtual 266, 3) := by decide +kernel
theorem dX12_count_54 : decode cX12_count 54 = .ok (.ireturn, 1) := by decide +kernel
theorem dX12_count_55 : decode cX12_count 55 = .ok (.aload_n 0, 1) := by decide +kernel
theorem dX12_count_56 : decode cX12_count 56 = .ok (.getfield 88, 3) := by decide +kernel
theorem dX12_count_59 : decode cX12_count 59 = .ok (.ireturn, 1) := by decide +kernel
theorem dX12_count_60 : decode cX12_count 60 = .ok (.aload_n 0, 1) := by decide +kernel
theorem dX12_count_61 : decode cX12_count 61 = .ok (.invokevirtual 269, 3) := by decide +kernel
theorem dX12_count_64 : decode cX12_count 64 = .ok (.ireturn, 1) := by decide +kernel
theorem dX12_count_65 : decode cX12_count 65 = .ok (.aload_n 0, 1) := by decide +kernel
theorem dX12_count_66 : decode cX12_count 66 = .ok (.invokevirtual 272, 3) := by decide +kernel
theorem dX12_count_69 : decode cX12_count 69 = .ok (.ireturn, 1) := by decide +kernel
theorem dX12_count_70 : decode cX12_count 70 = .ok (.iload_n 1, 1) := by decide +kernel
theorem dX12_count_71 : decode cX12_count 71 = .ok (.i2l, 1) := by decide +kernel
theorem dX12_count_72 : decode cX12_count 72 = .ok (.lconst 0, 1) := by decide +kernel
theorem dX12_count_73 : decode cX12_count 73 = .ok (.ldc2_w 275, 3) := by decide +kernel
theorem dX12_count_76 : decode cX12_count 76 = .ok (.invokestatic 99, 3) := by decide +kernel
theorem dX12_count_79 : decode cX12_count 79 = .ok (.ifCond .eq 12, 3) := by decide +kernel
theorem dX12_count_82 : decode cX12_count 82 = .ok (.aload_n 0, 1) := by decide +kernel
theorem dX12_count_83 : decode cX12_count 83 = .ok (.getfield 13, 3) := by decide +kernel
theorem dX12_count_86 : decode cX12_count 86 = .ok (.iload_n 1, 1) := by decide +kernel
theorem dX12_count_87 : decode cX12_count 87 = .ok (.iaload, 1) := by decide +kernel
theorem dX12_count_88 : decode cX12_count 88 = .ok (.goto 4, 3) := by decide +kernel
theorem dX12_count_91 : decode cX12_count 91 = .ok (.iconst (-1), 1) := by decide +kernel
theorem dX12_count_92 : decode cX12_count 92 = .ok (.ireturn, 1) := by decide +kernel
theorem dX12_depth_0 : decode cX12_depth 0 = .ok (.aload_n 0, 1) := by decide +kernel
theorem dX12_depth_1 : decode cX12_depth 1 = .ok (.iload_n 1, 1) := by decide +kernel
theorem dX12_depth_2 : decode cX12_depth 2 = .ok (.invokevirtual 277, 3) := by decide +kernel
theorem dX12_depth_5 : decode cX12_depth 5 = .ok (.ifCond .eq 12, 3) := by decide +kernel
theorem dX12_depth_8 : decode cX12_depth 8 = .ok (.aload_n 0, 1) := by decide +kernel
theorem dX12_depth_9 : decode cX12_depth 9 = .ok (.getfield 30, 3) := by decide +kernel
theorem dX12_depth_12 : decode cX12_depth 12 = .ok (.iload_n 1, 1) := by decide +kernel
theorem dX12_depth_13 : decode cX12_depth 13 = .ok (.iaload, 1) := by decide +kernel
theorem dX12_depth_14 : decode cX12_depth 14 = .ok (.goto 4, 3) := by decide +kernel
theorem dX12_depth_17 : decode cX12_depth 17 = .ok (.iconst (-1), 1) := by decide +kernel
theorem dX12_depth_18 : decode cX12_depth 18 = .ok (.ireturn, 1) := by decide +kernel
theorem dX12_leastDepth_0 : decode cX12_leastDepth 0 = .ok (.aload_n 0, 1) := by decide +kernel
theorem dX12_leastDepth_1 : decode cX12_leastDepth 1 = .ok (.getfield 30, 3) := by decide +kernel
theorem dX12_leastDepth_4 : decode cX12_leastDepth 4 = .ok (.iload_n 1, 1) := by decide +kernel
theorem dX12_leastDepth_5 : decode cX12_leastDepth 5 = .ok (.iaload, 1) := by decide +kernel
theorem dX12_leastDepth_6 : decode cX12_leastDepth 6 = .ok (.istore_n 3, 1) := by decide +kernel
theorem dX12_leastDepth_7 : decode cX12_leastDepth 7 = .ok (.iload_n 1, 1) := by decide +kernel
theorem dX12_leastDepth_8 : decode cX12_leastDepth 8 = .ok (.iconst 1, 1) := by decide +kernel
theorem dX12_leastDepth_9 : decode cX12_leastDepth 9 = .ok (.iadd, 1) := by decide +kernel
theorem dX12_leastDepth_10 : decode cX12_leastDepth 10 = .ok (.istore 4, 2) := by decide +kernel
theorem dX12_leastDepth_12 : decode cX12_leastDepth 12 = .ok (.iload 4, 2) := by decide +kernel
theorem dX12_leastDepth_14 : decode cX12_leastDepth 14 = .ok (.iload_n 2, 1) := by decide +kernel
theorem dX12_leastDepth_15 : decode cX12_leastDepth 15 = .ok (.if_icmp .gt 32, 3) := by decide +kernel
theorem dX12_leastDepth_18 : decode cX12_leastDepth 18 = .ok (.aload_n 0, 1) := by decide +kernel
theorem dX12_leastDepth_19 : decode cX12_leastDepth 19 = .ok (.getfield 30, 3) := by decide +kernel
theorem dX12_leastDepth_22 : decode cX12_leastDepth 22 = .ok (.iload 4, 2) := by decide +kernel
theorem dX12_leastDepth_24 : decode cX12_leastDepth 24 = .ok (.iaload, 1) := by decide +kernel
theorem dX12_leastDepth_25 : decode cX12_leastDepth 25 = .ok (.iload_n 3, 1) := by decide +kernel
theorem dX12_leastDepth_26 : decode cX12_leastDepth 26 = .ok (.if_icmp .ge 13, 3) := by decide +kernel
theorem dX12_leastDepth_29 : decode cX12_leastDepth 29 = .ok (.aload_n 0, 1) := by decide +kernel
theorem dX12_leastDepth_30 : decode cX12_leastDepth 30 = .ok (.getfield 30, 3) := by decide +kernel
theorem dX12_leastDepth_33 : decode cX12_leastDepth 33 = .ok (.iload 4, 2) := by decide +kernel
theorem dX12_leastDepth_35 : decode cX12_leastDepth 35 = .ok (.iaload, 1) := by decide +kernel
theorem dX12_leastDepth_36 : decode cX12_leastDepth 36 = .ok (.goto 4, 3) := by decide +kernel
theorem dX12_leastDepth_39 : decode cX12_leastDepth 39 = .ok (.iload_n 3, 1) := by decide +kernel
theorem dX12_leastDepth_40 : decode cX12_leastDepth 40 = .ok (.istore_n 3, 1) := by decide +kernel
theorem dX12_leastDepth_41 : decode cX12_leastDepth 41 = .ok (.iinc 4 1, 3) := by decide +kernel
theorem dX12_leastDepth_44 : decode cX12_leastDepth 44 = .ok (.goto (-32), 3) := by decide +kernel
theorem dX12_leastDepth_47 : decode cX12_leastDepth 47 = .ok (.iload_n 3, 1) := by decide +kernel
theorem dX12_leastDepth_48 : decode cX12_leastDepth 48 = .ok (.ireturn, 1) := by decide +kernel
theorem dX12_shallow_0 : decode cX12_shallow 0 = .ok (.aload_n 0, 1) := by decide +kernel
theorem dX12_shallow_1 : decode cX12_shallow 1 = .ok (.iload_n 1, 1) := by decide +kernel
theorem dX12_shallow_2 : decode cX12_shallow 2 = .ok (.invokevirtual 277, 3) := by decide +kernel
theorem dX12_shallow_5 : decode cX12_shallow 5 = .ok (.ifCond .eq 16, 3) := by decide +kernel
theorem dX12_shallow_8 : decode cX12_shallow 8 = .ok (.aload_n 0, 1) := by decide +kernel
theorem dX12_shallow_9 : decode cX12_shallow 9 = .ok (.iload_n 2, 1) := by decide +kernel
theorem dX12_shallow_10 : decode cX12_shallow 10 = .ok (.invokevirtual 277, 3) := by decide +kernel
theorem dX12_shallow_13 : decode cX12_shallow 13 = .ok (.ifCond .eq 8, 3) := by decide +kernel
theorem dX12_shallow_16 : decode cX12_shallow 16 = .ok (.iload_n 2, 1) := by decide +kernel
theorem dX12_shallow_17 : decode cX12_shallow 17 = .ok (.iload_n 1, 1) := by decide +kernel
theorem dX12_shallow_18 : decode cX12_shallow 18 = .ok (.if_icmp .ge 5, 3) := by decide +kernel
theorem dX12_shallow_21 : decode cX12_shallow 21 = .ok (.iconst (-1), 1) := by decide +kernel
theorem dX12_shallow_22 : decode cX12_shallow 22 = .ok (.ireturn, 1) := by decide +kernel
theorem dX12_shallow_23 : decode cX12_shallow 23 = .ok (.aload_n 0, 1) := by decide +kernel
theorem dX12_shallow_24 : decode cX12_shallow 24 = .ok (.iload_n 1, 1) := by decide +kernel
theorem dX12_shallow_25 : decode cX12_shallow 25 = .ok (.iload_n 2, 1) := by decide +kernel
theorem dX12_shallow_26 : decode cX12_shallow 26 = .ok (.invokevirtual 280, 3) := by decide +kernel
theorem dX12_shallow_29 : decode cX12_shallow 29 = .ok (.ireturn, 1) := by decide +kernel
theorem dX12_level_0 : decode cX12_level 0 = .ok (.iload_n 1, 1) := by decide +kernel
theorem dX12_level_1 : decode cX12_level 1 = .ok (.invokestatic 283, 3) := by decide +kernel
theorem dX12_level_4 : decode cX12_level 4 = .ok (.ifCond .eq 12, 3) := by decide +kernel
theorem dX12_level_7 : decode cX12_level 7 = .ok (.aload_n 0, 1) := by decide +kernel
theorem dX12_level_8 : decode cX12_level 8 = .ok (.getfield 33, 3) := by decide +kernel
theorem dX12_level_11 : decode cX12_level 11 = .ok (.iload_n 1, 1) := by decide +kernel
theorem dX12_level_12 : decode cX12_level 12 = .ok (.iaload, 1) := by decide +kernel
theorem dX12_level_13 : decode cX12_level 13 = .ok (.goto 4, 3) := by decide +kernel
theorem dX12_level_16 : decode cX12_level 16 = .ok (.iconst (-1), 1) := by decide +kernel
theorem dX12_level_17 : decode cX12_level 17 = .ok (.ireturn, 1) := by decide +kernel
theorem dX12_gangsBy_0 : decode cX12_gangsBy 0 = .ok (.aload_n 0, 1) := by decide +kernel
theorem dX12_gangsBy_1 : decode cX12_gangsBy 1 = .ok (.getfield 13, 3) := by decide +kernel
theorem dX12_gangsBy_4 : decode cX12_gangsBy 4 = .ok (.bipush 103, 2) := by decide +kernel
theorem dX12_gangsBy_6 : decode cX12_gangsBy 6 = .ok (.iload_n 1, 1) := by decide +kernel
theorem dX12_gangsBy_7 : decode cX12_gangsBy 7 = .ok (.iadd, 1) := by decide +kernel
theorem dX12_gangsBy_8 : decode cX12_gangsBy 8 = .ok (.iaload, 1) := by decide +kernel
theorem dX12_gangsBy_9 : decode cX12_gangsBy 9 = .ok (.istore_n 2, 1) := by decide +kernel
theorem dX12_gangsBy_10 : decode cX12_gangsBy 10 = .ok (.iload_n 2, 1) := by decide +kernel
theorem dX12_gangsBy_11 : decode cX12_gangsBy 11 = .ok (.iconst (-1), 1) := by decide +kernel
theorem dX12_gangsBy_12 : decode cX12_gangsBy 12 = .ok (.if_icmp .ne 13, 3) := by decide +kernel
theorem dX12_gangsBy_15 : decode cX12_gangsBy 15 = .ok (.aload_n 0, 1) := by decide +kernel
theorem dX12_gangsBy_16 : decode cX12_gangsBy 16 = .ok (.getfield 13, 3) := by decide +kernel
theorem dX12_gangsBy_19 : decode cX12_gangsBy 19 = .ok (.bipush 7, 2) := by decide +kernel
theorem dX12_gangsBy_21 : decode cX12_gangsBy 21 = .ok (.iaload, 1) := by decide +kernel
theorem dX12_gangsBy_22 : decode cX12_gangsBy 22 = .ok (.goto 4, 3) := by decide +kernel
theorem dX12_gangsBy_25 : decode cX12_gangsBy 25 = .ok (.iload_n 2, 1) := by decide +kernel
theorem dX12_gangsBy_26 : decode cX12_gangsBy 26 = .ok (.ireturn, 1) := by decide +kernel
theorem dX12_gangs_0 : decode cX12_gangs 0 = .ok (.iload_n 1, 1) := by decide +kernel
theorem dX12_gangs_1 : decode cX12_gangs 1 = .ok (.iload_n 2, 1) := by decide +kernel
theorem dX12_gangs_2 : decode cX12_gangs 2 = .ok (.invokestatic 286, 3) := by decide +kernel
theorem dX12_gangs_5 : decode cX12_gangs 5 = .ok (.ifCond .eq 15, 3) := by decide +kernel
theorem dX12_gangs_8 : decode cX12_gangs 8 = .ok (.aload_n 0, 1) := by decide +kernel
theorem dX12_gangs_9 : decode cX12_gangs 9 = .ok (.iconst 3, 1) := by decide +kernel
theorem dX12_gangs_10 : decode cX12_gangs 10 = .ok (.iload_n 1, 1) := by decide +kernel
theorem dX12_gangs_11 : decode cX12_gangs 11 = .ok (.imul, 1) := by decide +kernel
theorem dX12_gangs_12 : decode cX12_gangs 12 = .ok (.iload_n 2, 1) := by decide +kernel
theorem dX12_gangs_13 : decode cX12_gangs 13 = .ok (.iadd, 1) := by decide +kernel
theorem dX12_gangs_14 : decode cX12_gangs 14 = .ok (.invokevirtual 289, 3) := by decide +kernel
theorem dX12_gangs_17 : decode cX12_gangs 17 = .ok (.goto 4, 3) := by decide +kernel
theorem dX12_gangs_20 : decode cX12_gangs 20 = .ok (.iconst (-1), 1) := by decide +kernel
theorem dX12_gangs_21 : decode cX12_gangs 21 = .ok (.ireturn, 1) := by decide +kernel
theorem dX12_crane_0 : decode cX12_crane 0 = .ok (.iload_n 1, 1) := by decide +kernel
theorem dX12_crane_1 : decode cX12_crane 1 = .ok (.i2l, 1) := by decide +kernel
theorem dX12_crane_2 : decode cX12_crane 2 = .ok (.lconst 0, 1) := by decide +kernel
theorem dX12_crane_3 : decode cX12_crane 3 = .ok (.aload_n 0, 1) := by decide +kernel
theorem dX12_crane_4 : decode cX12_crane 4 = .ok (.getfield 13, 3) := by decide +kernel
theorem dX12_crane_7 : decode cX12_crane 7 = .ok (.bipush 7, 2) := by decide +kernel
theorem dX12_crane_9 : decode cX12_crane 9 = .ok (.iaload, 1) := by decide +kernel
theorem dX12_crane_10 : decode cX12_crane 10 = .ok (.iconst 1, 1) := by decide +kernel
theorem dX12_crane_11 : decode cX12_crane 11 = .ok (.isub, 1) := by decide +kernel
theorem dX12_crane_12 : decode cX12_crane 12 = .ok (.i2l, 1) := by decide +kernel
theorem dX12_crane_13 : decode cX12_crane 13 = .ok (.invokestatic 99, 3) := by decide +kernel
theorem dX12_crane_16 : decode cX12_crane 16 = .ok (.ifCond .eq 13, 3) := by decide +kernel
theorem dX12_crane_19 : decode cX12_crane 19 = .ok (.iload_n 2, 1) := by decide +kernel
theorem dX12_crane_20 : decode cX12_crane 20 = .ok (.i2l, 1) := by decide +kernel
theorem dX12_crane_21 : decode cX12_crane 21 = .ok (.lconst 0, 1) := by decide +kernel
theorem dX12_crane_22 : decode cX12_crane 22 = .ok (.lconst 1, 1) := by decide +kernel
theorem dX12_crane_23 : decode cX12_crane 23 = .ok (.invokestatic 99, 3) := by decide +kernel
theorem dX12_crane_26 : decode cX12_crane 26 = .ok (.ifCond .ne 5, 3) := by decide +kernel
theorem dX12_crane_29 : decode cX12_crane 29 = .ok (.iconst (-1), 1) := by decide +kernel
theorem dX12_crane_30 : decode cX12_crane 30 = .ok (.ireturn, 1) := by decide +kernel
theorem dX12_crane_31 : decode cX12_crane 31 = .ok (.iload_n 2, 1) := by decide +kernel
theorem dX12_crane_32 : decode cX12_crane 32 = .ok (.ifCond .ne 15, 3) := by decide +kernel
theorem dX12_crane_35 : decode cX12_crane 35 = .ok (.aload_n 0, 1) := by decide +kernel
theorem dX12_crane_36 : decode cX12_crane 36 = .ok (.getfield 13, 3) := by decide +kernel
theorem dX12_crane_39 : decode cX12_crane 39 = .ok (.bipush 27, 2) := by decide +kernel
theorem dX12_crane_41 : decode cX12_crane 41 = .ok (.iload_n 1, 1) := by decide +kernel
theorem dX12_crane_42 : decode cX12_crane 42 = .ok (.iadd, 1) := by decide +kernel
theorem dX12_crane_43 : decode cX12_crane 43 = .ok (.iaload, 1) := by decide +kernel
theorem dX12_crane_44 : decode cX12_crane 44 = .ok (.goto 12, 3) := by decide +kernel
theorem dX12_crane_47 : decode cX12_crane 47 = .ok (.aload_n 0, 1) := by decide +kernel
theorem dX12_crane_48 : decode cX12_crane 48 = .ok (.getfield 13, 3) := by decide +kernel
theorem dX12_crane_51 : decode cX12_crane 51 = .ok (.bipush 35, 2) := by decide +kernel
theorem dX12_crane_53 : decode cX12_crane 53 = .ok (.iload_n 1, 1) := by decide +kernel
theorem dX12_crane_54 : decode cX12_crane 54 = .ok (.iadd, 1) := by decide +kernel
theorem dX12_crane_55 : decode cX12_crane 55 = .ok (.iaload, 1) := by decide +kernel
theorem dX12_crane_56 : decode cX12_crane 56 = .ok (.ireturn, 1) := by decide +kernel
theorem dX12_movesBy_0 : decode cX12_movesBy 0 = .ok (.iload_n 1, 1) := by decide +kernel
theorem dX12_movesBy_1 : decode cX12_movesBy 1 = .ok (.aload_n 0, 1) := by decide +kernel
theorem dX12_movesBy_2 : decode cX12_movesBy 2 = .ok (.getfield 13, 3) := by decide +kernel
theorem dX12_movesBy_5 : decode cX12_movesBy 5 = .ok (.iconst 4, 1) := by decide +kernel
theorem dX12_movesBy_6 : decode cX12_movesBy 6 = .ok (.iaload, 1) := by decide +kernel
theorem dX12_movesBy_7 : decode cX12_movesBy 7 = .ok (.imul, 1) := by decide +kernel
theorem dX12_movesBy_8 : decode cX12_movesBy 8 = .ok (.bipush 100, 2) := by decide +kernel
theorem dX12_movesBy_10 : decode cX12_movesBy 10 = .ok (.aload_n 0, 1) := by decide +kernel
theorem dX12_movesBy_11 : decode cX12_movesBy 11 = .ok (.getfield 13, 3) := by decide +kernel
theorem dX12_movesBy_14 : decode cX12_movesBy 14 = .ok (.iconst 5, 1) := by decide +kernel
theorem dX12_movesBy_15 : decode cX12_movesBy 15 = .ok (.iaload, 1) := by decide +kernel
theorem dX12_movesBy_16 : decode cX12_movesBy 16 = .ok (.iload_n 1, 1) := by decide +kernel
theorem dX12_movesBy_17 : decode cX12_movesBy 17 = .ok (.iconst 1, 1) := by decide +kernel
theorem dX12_movesBy_18 : decode cX12_movesBy 18 = .ok (.isub, 1) := by decide +kernel
theorem dX12_movesBy_19 : decode cX12_movesBy 19 = .ok (.imul, 1) := by decide +kernel
theorem dX12_movesBy_20 : decode cX12_movesBy 20 = .ok (.isub, 1) := by decide +kernel
theorem dX12_movesBy_21 : decode cX12_movesBy 21 = .ok (.imul, 1) := by decide +kernel
theorem dX12_movesBy_22 : decode cX12_movesBy 22 = .ok (.bipush 100, 2) := by decide +kernel
theorem dX12_movesBy_24 : decode cX12_movesBy 24 = .ok (.idiv, 1) := by decide +kernel
theorem dX12_movesBy_25 : decode cX12_movesBy 25 = .ok (.istore_n 2, 1) := by decide +kernel
theorem dX12_movesBy_26 : decode cX12_movesBy 26 = .ok (.iload_n 2, 1) := by decide +kernel
theorem dX12_movesBy_27 : decode cX12_movesBy 27 = .ok (.iload_n 1, 1) := by decide +kernel
theorem dX12_movesBy_28 : decode cX12_movesBy 28 = .ok (.if_icmp .ge 7, 3) := by decide +kernel
theorem dX12_movesBy_31 : decode cX12_movesBy 31 = .ok (.iload_n 1, 1) := by decide +kernel
theorem dX12_movesBy_32 : decode cX12_movesBy 32 = .ok (.goto 4, 3) := by decide +kernel
theorem dX12_movesBy_35 : decode cX12_movesBy 35 = .ok (.iload_n 2, 1) := by decide +kernel
theorem dX12_movesBy_36 : decode cX12_movesBy 36 = .ok (.ireturn, 1) := by decide +kernel
theorem dX12_moves_0 : decode cX12_moves 0 = .ok (.iload_n 1, 1) := by decide +kernel
theorem dX12_moves_1 : decode cX12_moves 1 = .ok (.i2l, 1) := by decide +kernel
theorem dX12_moves_2 : decode cX12_moves 2 = .ok (.lconst 1, 1) := by decide +kernel
theorem dX12_moves_3 : decode cX12_moves 3 = .ok (.ldc2_w 292, 3) := by decide +kernel
theorem dX12_moves_6 : decode cX12_moves 6 = .ok (.invokestatic 99, 3) := by decide +kernel
theorem dX12_moves_9 : decode cX12_moves 9 = .ok (.ifCond .eq 11, 3) := by decide +kernel
theorem dX12_moves_12 : decode cX12_moves 12 = .ok (.aload_n 0, 1) := by decide +kernel
theorem dX12_moves_13 : decode cX12_moves 13 = .ok (.iload_n 1, 1) := by decide +kernel
theorem dX12_moves_14 : decode cX12_moves 14 = .ok (.invokevirtual 294, 3) := by decide +kernel
theorem dX12_moves_17 : decode cX12_moves 17 = .ok (.goto 4, 3) := by decide +kernel
theorem dX12_moves_20 : decode cX12_moves 20 = .ok (.iconst (-1), 1) := by decide +kernel
theorem dX12_moves_21 : decode cX12_moves 21 = .ok (.ireturn, 1) := by decide +kernel
theorem dX12_letter_0 : decode cX12_letter 0 = .ok (.aload_n 0, 1) := by decide +kernel
theorem dX12_letter_1 : decode cX12_letter 1 = .ok (.iload_n 1, 1) := by decide +kernel
theorem dX12_letter_2 : decode cX12_letter 2 = .ok (.invokevirtual 297, 3) := by decide +kernel
theorem dX12_letter_5 : decode cX12_letter 5 = .ok (.ifCond .eq 15, 3) := by decide +kernel
theorem dX12_letter_8 : decode cX12_letter 8 = .ok (.iload_n 2, 1) := by decide +kernel
theorem dX12_letter_9 : decode cX12_letter 9 = .ok (.i2l, 1) := by decide +kernel
theorem dX12_letter_10 : decode cX12_letter 10 = .ok (.lconst 0, 1) := by decide +kernel
theorem dX12_letter_11 : decode cX12_letter 11 = .ok (.ldc2_w 300, 3) := by decide +kernel
theorem dX12_letter_14 : decode cX12_letter 14 = .ok (.invokestatic 99, 3) := by decide +kernel
theorem dX12_letter_17 : decode cX12_letter 17 = .ok (.ifCond .ne 5, 3) := by decide +kernel
theorem dX12_letter_20 : decode cX12_letter 20 = .ok (.iconst (-1), 1) := by decide +kernel
theorem dX12_letter_21 : decode cX12_letter 21 = .ok (.ireturn, 1) := by decide +kernel
theorem dX12_letter_22 : decode cX12_letter 22 = .ok (.aload_n 0, 1) := by decide +kernel
theorem dX12_letter_23 : decode cX12_letter 23 = .ok (.iload_n 1, 1) := by decide +kernel
theorem dX12_letter_24 : decode cX12_letter 24 = .ok (.invokevirtual 302, 3) := by decide +kernel
theorem dX12_letter_27 : decode cX12_letter 27 = .ok (.istore_n 3, 1) := by decide +kernel
theorem dX12_letter_28 : decode cX12_letter 28 = .ok (.iload_n 2, 1) := by decide +kernel
theorem dX12_letter_29 : decode cX12_letter 29 = .ok (.iload_n 3, 1) := by decide +kernel
theorem dX12_letter_30 : decode cX12_letter 30 = .ok (.if_icmp .lt 5, 3) := by decide +kernel
theorem dX12_letter_33 : decode cX12_letter 33 = .ok (.iconst 0, 1) := by decide +kernel
theorem dX12_letter_34 : decode cX12_letter 34 = .ok (.ireturn, 1) := by decide +kernel
theorem dX12_letter_35 : decode cX12_letter 35 = .ok (.aload_n 0, 1) := by decide +kernel
theorem dX12_letter_36 : decode cX12_letter 36 = .ok (.getfield 20, 3) := by decide +kernel
theorem dX12_letter_39 : decode cX12_letter 39 = .ok (.iload_n 1, 1) := by decide +kernel
theorem dX12_letter_40 : decode cX12_letter 40 = .ok (.laload, 1) := by decide +kernel
theorem dX12_letter_41 : decode cX12_letter 41 = .ok (.lstore 4, 2) := by decide +kernel
theorem dX12_letter_43 : decode cX12_letter 43 = .ok (.iload_n 3, 1) := by decide +kernel
theorem dX12_letter_44 : decode cX12_letter 44 = .ok (.iconst 1, 1) := by decide +kernel
theorem dX12_letter_45 : decode cX12_letter 45 = .ok (.isub, 1) := by decide +kernel
theorem dX12_letter_46 : decode cX12_letter 46 = .ok (.istore 6, 2) := by decide +kernel
theorem dX12_letter_48 : decode cX12_letter 48 = .ok (.iload 6, 2) := by decide +kernel
theorem dX12_letter_50 : decode cX12_letter 50 = .ok (.iload_n 2, 1) := by decide +kernel
theorem dX12_letter_51 : decode cX12_letter 51 = .ok (.if_icmp .le 17, 3) := by decide +kernel
theorem dX12_letter_54 : decode cX12_letter 54 = .ok (.lload 4, 2) := by decide +kernel
theorem dX12_letter_56 : decode cX12_letter 56 = .ok (.ldc2_w 140, 3) := by decide +kernel
theorem dX12_letter_59 : decode cX12_letter 59 = .ok (.ldiv, 1) := by decide +kernel
theorem dX12_letter_60 : decode cX12_letter 60 = .ok (.lstore 4, 2) := by decide +kernel
theorem dX12_letter_62 : decode cX12_letter 62 = .ok (.iinc 6 (-1), 3) := by decide +kernel
theorem dX12_letter_65 : decode cX12_letter 65 = .ok (.goto (-17), 3) := by decide +kernel
theorem dX12_letter_68 : decode cX12_letter 68 = .ok (.lload 4, 2) := by decide +kernel
theorem dX12_letter_70 : decode cX12_letter 70 = .ok (.ldc2_w 140, 3) := by decide +kernel
theorem dX12_letter_73 : decode cX12_letter 73 = .ok (.lrem, 1) := by decide +kernel
theorem dX12_letter_74 : decode cX12_letter 74 = .ok (.l2i, 1) := by decide +kernel
theorem dX12_letter_75 : decode cX12_letter 75 = .ok (.ireturn, 1) := by decide +kernel
theorem dX12_lettersOf_0 : decode cX12_lettersOf 0 = .ok (.iconst 0, 1) := by decide +kernel
theorem dX12_lettersOf_1 : decode cX12_lettersOf 1 = .ok (.istore_n 2, 1) := by decide +kernel
theorem dX12_lettersOf_2 : decode cX12_lettersOf 2 = .ok (.aload_n 0, 1) := by decide +kernel
theorem dX12_lettersOf_3 : decode cX12_lettersOf 3 = .ok (.getfield 20, 3) := by decide +kernel
theorem dX12_lettersOf_6 : decode cX12_lettersOf 6 = .ok (.iload_n 1, 1) := by decide +kernel
theorem dX12_lettersOf_7 : decode cX12_lettersOf 7 = .ok (.laload, 1) := by decide +kernel
theorem dX12_lettersOf_8 : decode cX12_lettersOf 8 = .ok (.lstore_n 3, 1) := by decide +kernel
theorem dX12_lettersOf_9 : decode cX12_lettersOf 9 = .ok (.lload_n 3, 1) := by decide +kernel
theorem dX12_lettersOf_10 : decode cX12_lettersOf 10 = .ok (.lconst 0, 1) := by decide +kernel
theorem dX12_lettersOf_11 : decode cX12_lettersOf 11 = .ok (.lcmp, 1) := by decide +kernel
theorem dX12_lettersOf_12 : decode cX12_lettersOf 12 = .ok (.ifCond .le 16, 3) := by decide +kernel
theorem dX12_lettersOf_15 : decode cX12_lettersOf 15 = .ok (.iload_n 2, 1) := by decide +kernel
theorem dX12_lettersOf_16 : decode cX12_lettersOf 16 = .ok (.iconst 1, 1) := by decide +kernel
theorem dX12_lettersOf_17 : decode cX12_lettersOf 17 = .ok (.iadd, 1) := by decide +kernel
theorem dX12_lettersOf_18 : decode cX12_lettersOf 18 = .ok (.istore_n 2, 1) := by decide +kernel
theorem dX12_lettersOf_19 : decode cX12_lettersOf 19 = .ok (.lload_n 3, 1) := by decide +kernel
theorem dX12_lettersOf_20 : decode cX12_lettersOf 20 = .ok (.ldc2_w 140, 3) := by decide +kernel
theorem dX12_lettersOf_23 : decode cX12_lettersOf 23 = .ok (.ldiv, 1) := by decide +kernel
theorem dX12_lettersOf_24 : decode cX12_lettersOf 24 = .ok (.lstore_n 3, 1) := by decide +kernel
theorem dX12_lettersOf_25 : decode cX12_lettersOf 25 = .ok (.goto (-16), 3) := by decide +kernel
theorem dX12_lettersOf_28 : decode cX12_lettersOf 28 = .ok (.iload_n 2, 1) := by decide +kernel
theorem dX12_lettersOf_29 : decode cX12_lettersOf 29 = .ok (.ireturn, 1) := by decide +kernel
theorem dX12_isOpen_0 : decode cX12_isOpen 0 = .ok (.aload_n 0, 1) := by decide +kernel
theorem dX12_isOpen_1 : decode cX12_isOpen 1 = .ok (.getfield 13, 3) := by decide +kernel
theorem dX12_isOpen_4 : decode cX12_isOpen 4 = .ok (.iconst 3, 1) := by decide +kernel
theorem dX12_isOpen_5 : decode cX12_isOpen 5 = .ok (.iaload, 1) := by decide +kernel
theorem dX12_isOpen_6 : decode cX12_isOpen 6 = .ok (.aload_n 0, 1) := by decide +kernel
theorem dX12_isOpen_7 : decode cX12_isOpen 7 = .ok (.getfield 33, 3) := by decide +kernel
theorem dX12_isOpen_10 : decode cX12_isOpen 10 = .ok (.iload_n 2, 1) := by decide +kernel
theorem dX12_isOpen_11 : decode cX12_isOpen 11 = .ok (.iaload, 1) := by decide +kernel
theorem dX12_isOpen_12 : decode cX12_isOpen 12 = .ok (.iadd, 1) := by decide +kernel
theorem dX12_isOpen_13 : decode cX12_isOpen 13 = .ok (.iload_n 1, 1) := by decide +kernel
theorem dX12_isOpen_14 : decode cX12_isOpen 14 = .ok (.aload_n 0, 1) := by decide +kernel
theorem dX12_isOpen_15 : decode cX12_isOpen 15 = .ok (.getfield 13, 3) := by decide +kernel
theorem dX12_isOpen_18 : decode cX12_isOpen 18 = .ok (.iconst 2, 1) := by decide +kernel
theorem dX12_isOpen_19 : decode cX12_isOpen 19 = .ok (.iaload, 1) := by decide +kernel
theorem dX12_isOpen_20 : decode cX12_isOpen 20 = .ok (.iadd, 1) := by decide +kernel
theorem dX12_isOpen_21 : decode cX12_isOpen 21 = .ok (.if_icmp .lt 7, 3) := by decide +kernel
theorem dX12_isOpen_24 : decode cX12_isOpen 24 = .ok (.iconst 1, 1) := by decide +kernel
theorem dX12_isOpen_25 : decode cX12_isOpen 25 = .ok (.goto 4, 3) := by decide +kernel
theorem dX12_isOpen_28 : decode cX12_isOpen 28 = .ok (.iconst 0, 1) := by decide +kernel
theorem dX12_isOpen_29 : decode cX12_isOpen 29 = .ok (.ireturn, 1) := by decide +kernel
theorem dX12_open_0 : decode cX12_open 0 = .ok (.iload_n 1, 1) := by decide +kernel
theorem dX12_open_1 : decode cX12_open 1 = .ok (.invokestatic 305, 3) := by decide +kernel
theorem dX12_open_4 : decode cX12_open 4 = .ok (.ifCond .eq 10, 3) := by decide +kernel
theorem dX12_open_7 : decode cX12_open 7 = .ok (.iload_n 2, 1) := by decide +kernel
theorem dX12_open_8 : decode cX12_open 8 = .ok (.invokestatic 283, 3) := by decide +kernel
theorem dX12_open_11 : decode cX12_open 11 = .ok (.ifCond .ne 5, 3) := by decide +kernel
theorem dX12_open_14 : decode cX12_open 14 = .ok (.iconst (-1), 1) := by decide +kernel
theorem dX12_open_15 : decode cX12_open 15 = .ok (.ireturn, 1) := by decide +kernel
theorem dX12_open_16 : decode cX12_open 16 = .ok (.aload_n 0, 1) := by decide +kernel
theorem dX12_open_17 : decode cX12_open 17 = .ok (.iload_n 1, 1) := by decide +kernel
theorem dX12_open_18 : decode cX12_open 18 = .ok (.iload_n 2, 1) := by decide +kernel
theorem dX12_open_19 : decode cX12_open 19 = .ok (.invokevirtual 308, 3) := by decide +kernel
theorem dX12_open_22 : decode cX12_open 22 = .ok (.ifCond .eq 7, 3) := by decide +kernel
theorem dX12_open_25 : decode cX12_open 25 = .ok (.iconst 1, 1) := by decide +kernel
theorem dX12_open_26 : decode cX12_open 26 = .ok (.goto 4, 3) := by decide +kernel
theorem dX12_open_29 : decode cX12_open 29 = .ok (.iconst 0, 1) := by decide +kernel
theorem dX12_open_30 : decode cX12_open 30 = .ok (.ireturn, 1) := by decide +kernel
theorem dX12_nextOpen_0 : decode cX12_nextOpen 0 = .ok (.iload_n 2, 1) := by decide +kernel
theorem dX12_nextOpen_1 : decode cX12_nextOpen 1 = .ok (.istore_n 3, 1) := by decide +kernel
theorem dX12_nextOpen_2 : decode cX12_nextOpen 2 = .ok (.iload_n 3, 1) := by decide +kernel
theorem dX12_nextOpen_3 : decode cX12_nextOpen 3 = .ok (.sipush 336, 3) := by decide +kernel
theorem dX12_nextOpen_6 : decode cX12_nextOpen 6 = .ok (.if_icmp .ge 20, 3) := by decide +kernel
theorem dX12_nextOpen_9 : decode cX12_nextOpen 9 = .ok (.aload_n 0, 1) := by decide +kernel
theorem dX12_nextOpen_10 : decode cX12_nextOpen 10 = .ok (.iload_n 1, 1) := by decide +kernel
theorem dX12_nextOpen_11 : decode cX12_nextOpen 11 = .ok (.iload_n 3, 1) := by decide +kernel
theorem dX12_nextOpen_12 : decode cX12_nextOpen 12 = .ok (.invokevirtual 308, 3) := by decide +kernel
theorem dX12_nextOpen_15 : decode cX12_nextOpen 15 = .ok (.ifCond .eq 5, 3) := by decide +kernel
theorem dX12_nextOpen_18 : decode cX12_nextOpen 18 = .ok (.iload_n 3, 1) := by decide +kernel
theorem dX12_nextOpen_19 : decode cX12_nextOpen 19 = .ok (.ireturn, 1) := by decide +kernel
theorem dX12_nextOpen_20 : decode cX12_nextOpen 20 = .ok (.iinc 3 1, 3) := by decide +kernel
theorem dX12_nextOpen_23 : decode cX12_nextOpen 23 = .ok (.goto (-21), 3) := by decide +kernel
theorem dX12_nextOpen_26 : decode cX12_nextOpen 26 = .ok (.iconst (-1), 1) := by decide +kernel
theorem dX12_nextOpen_27 : decode cX12_nextOpen 27 = .ok (.ireturn, 1) := by decide +kernel
theorem dX12_next_0 : decode cX12_next 0 = .ok (.iload_n 1, 1) := by decide +kernel
theorem dX12_next_1 : decode cX12_next 1 = .ok (.invokestatic 305, 3) := by decide +kernel
theorem dX12_next_4 : decode cX12_next 4 = .ok (.ifCond .eq 10, 3) := by decide +kernel
theorem dX12_next_7 : decode cX12_next 7 = .ok (.iload_n 2, 1) := by decide +kernel
theorem dX12_next_8 : decode cX12_next 8 = .ok (.invokestatic 283, 3) := by decide +kernel
theorem dX12_next_11 : decode cX12_next 11 = .ok (.ifCond .ne 5, 3) := by decide +kernel
theorem dX12_next_14 : decode cX12_next 14 = .ok (.iconst (-1), 1) := by decide +kernel
theorem dX12_next_15 : decode cX12_next 15 = .ok (.ireturn, 1) := by decide +kernel
theorem dX12_next_16 : decode cX12_next 16 = .ok (.aload_n 0, 1) := by decide +kernel
theorem dX12_next_17 : decode cX12_next 17 = .ok (.iload_n 1, 1) := by decide +kernel
theorem dX12_next_18 : decode cX12_next 18 = .ok (.iload_n 2, 1) := by decide +kernel
theorem dX12_next_19 : decode cX12_next 19 = .ok (.invokevirtual 311, 3) := by decide +kernel
theorem dX12_next_22 : decode cX12_next 22 = .ok (.istore_n 3, 1) := by decide +kernel
theorem dX12_next_23 : decode cX12_next 23 = .ok (.iload_n 3, 1) := by decide +kernel
theorem dX12_next_24 : decode cX12_next 24 = .ok (.iconst (-1), 1) := by decide +kernel
theorem dX12_next_25 : decode cX12_next 25 = .ok (.if_icmp .ne 8, 3) := by decide +kernel
theorem dX12_next_28 : decode cX12_next 28 = .ok (.bipush (-2), 2) := by decide +kernel
theorem dX12_next_30 : decode cX12_next 30 = .ok (.goto 4, 3) := by decide +kernel
theorem dX12_next_33 : decode cX12_next 33 = .ok (.iload_n 3, 1) := by decide +kernel
theorem dX12_next_34 : decode cX12_next 34 = .ok (.ireturn, 1) := by decide +kernel
theorem dX12_shut_0 : decode cX12_shut 0 = .ok (.iload_n 1, 1) := by decide +kernel
theorem dX12_shut_1 : decode cX12_shut 1 = .ok (.invokestatic 305, 3) := by decide +kernel
theorem dX12_shut_4 : decode cX12_shut 4 = .ok (.ifCond .eq 13, 3) := by decide +kernel
theorem dX12_shut_7 : decode cX12_shut 7 = .ok (.iload_n 2, 1) := by decide +kernel
theorem dX12_shut_8 : decode cX12_shut 8 = .ok (.i2l, 1) := by decide +kernel
theorem dX12_shut_9 : decode cX12_shut 9 = .ok (.lconst 0, 1) := by decide +kernel
theorem dX12_shut_10 : decode cX12_shut 10 = .ok (.lconst 1, 1) := by decide +kernel
theorem dX12_shut_11 : decode cX12_shut 11 = .ok (.invokestatic 99, 3) := by decide +kernel
theorem dX12_shut_14 : decode cX12_shut 14 = .ok (.ifCond .ne 5, 3) := by decide +kernel
theorem dX12_shut_17 : decode cX12_shut 17 = .ok (.iconst (-1), 1) := by decide +kernel
theorem dX12_shut_18 : decode cX12_shut 18 = .ok (.ireturn, 1) := by decide +kernel
theorem dX12_shut_19 : decode cX12_shut 19 = .ok (.iconst 0, 1) := by decide +kernel
theorem dX12_shut_20 : decode cX12_shut 20 = .ok (.istore_n 3, 1) := by decide +kernel
theorem dX12_shut_21 : decode cX12_shut 21 = .ok (.bipush (-2), 2) := by decide +kernel
theorem dX12_shut_23 : decode cX12_shut 23 = .ok (.istore 4, 2) := by decide +kernel
theorem dX12_shut_25 : decode cX12_shut 25 = .ok (.iconst 0, 1) := by decide +kernel
theorem dX12_shut_26 : decode cX12_shut 26 = .ok (.istore 5, 2) := by decide +kernel
theorem dX12_shut_28 : decode cX12_shut 28 = .ok (.iconst 0, 1) := by decide +kernel
theorem dX12_shut_29 : decode cX12_shut 29 = .ok (.istore 6, 2) := by decide +kernel
theorem dX12_shut_31 : decode cX12_shut 31 = .ok (.iload 6, 2) := by decide +kernel
theorem dX12_shut_33 : decode cX12_shut 33 = .ok (.sipush 336, 3) := by decide +kernel
theorem dX12_shut_36 : decode cX12_shut 36 = .ok (.if_icmp .ge 50, 3) := by decide +kernel
theorem dX12_shut_39 : decode cX12_shut 39 = .ok (.aload_n 0, 1) := by decide +kernel
theorem dX12_shut_40 : decode cX12_shut 40 = .ok (.iload_n 1, 1) := by decide +kernel
theorem dX12_shut_41 : decode cX12_shut 41 = .ok (.iload 6, 2) := by decide +kernel
theorem dX12_shut_43 : decode cX12_shut 43 = .ok (.invokevirtual 308, 3) := by decide +kernel
theorem dX12_shut_46 : decode cX12_shut 46 = .ok (.ifCond .eq 7, 3) := by decide +kernel
theorem dX12_shut_49 : decode cX12_shut 49 = .ok (.iconst 0, 1) := by decide +kernel
theorem dX12_shut_50 : decode cX12_shut 50 = .ok (.goto 7, 3) := by decide +kernel
theorem dX12_shut_53 : decode cX12_shut 53 = .ok (.iload 5, 2) := by decide +kernel
theorem dX12_shut_55 : decode cX12_shut 55 = .ok (.iconst 1, 1) := by decide +kernel
theorem dX12_shut_56 : decode cX12_shut 56 = .ok (.iadd, 1) := by decide +kernel
theorem dX12_shut_57 : decode cX12_shut 57 = .ok (.istore 5, 2) := by decide +kernel
theorem dX12_shut_59 : decode cX12_shut 59 = .ok (.iload 5, 2) := by decide +kernel
theorem dX12_shut_61 : decode cX12_shut 61 = .ok (.iload_n 3, 1) := by decide +kernel
theorem dX12_shut_62 : decode cX12_shut 62 = .ok (.if_icmp .gt 6, 3) := by decide +kernel
theorem dX12_shut_65 : decode cX12_shut 65 = .ok (.goto 15, 3) := by decide +kernel
theorem dX12_shut_68 : decode cX12_shut 68 = .ok (.iload 5, 2) := by decide +kernel
theorem dX12_shut_70 : decode cX12_shut 70 = .ok (.istore_n 3, 1) := by decide +kernel
theorem dX12_shut_71 : decode cX12_shut 71 = .ok (.iload 6, 2) := by decide +kernel
theorem dX12_shut_73 : decode cX12_shut 73 = .ok (.iload 5, 2) := by decide +kernel
theorem dX12_shut_75 : decode cX12_shut 75 = .ok (.isub, 1) := by decide +kernel
theorem dX12_shut_76 : decode cX12_shut 76 = .ok (.iconst 1, 1) := by decide +kernel
theorem dX12_shut_77 : decode cX12_shut 77 = .ok (.iadd, 1) := by decide +kernel
theorem dX12_shut_78 : decode cX12_shut 78 = .ok (.istore 4, 2) := by decide +kernel
theorem dX12_shut_80 : decode cX12_shut 80 = .ok (.iinc 6 1, 3) := by decide +kernel
theorem dX12_shut_83 : decode cX12_shut 83 = .ok (.goto (-52), 3) := by decide +kernel
theorem dX12_shut_86 : decode cX12_shut 86 = .ok (.iload_n 2, 1) := by decide +kernel
theorem dX12_shut_87 : decode cX12_shut 87 = .ok (.ifCond .ne 7, 3) := by decide +kernel
theorem dX12_shut_90 : decode cX12_shut 90 = .ok (.iload_n 3, 1) := by decide +kernel
theorem dX12_shut_91 : decode cX12_shut 91 = .ok (.goto 5, 3) := by decide +kernel
theorem dX12_shut_94 : decode cX12_shut 94 = .ok (.iload 4, 2) := by decide +kernel
theorem dX12_shut_96 : decode cX12_shut 96 = .ok (.ireturn, 1) := by decide +kernel
theorem dX12_tide_0 : decode cX12_tide 0 = .ok (.iload_n 1, 1) := by decide +kernel
theorem dX12_tide_1 : decode cX12_tide 1 = .ok (.invokestatic 283, 3) := by decide +kernel
theorem dX12_tide_4 : decode cX12_tide 4 = .ok (.ifCond .eq 27, 3) := by decide +kernel
theorem dX12_tide_7 : decode cX12_tide 7 = .ok (.iload_n 2, 1) := by decide +kernel
theorem dX12_tide_8 : decode cX12_tide 8 = .ok (.invokestatic 283, 3) := by decide +kernel
theorem dX12_tide_11 : decode cX12_tide 11 = .ok (.ifCond .eq 20, 3) := by decide +kernel
theorem dX12_tide_14 : decode cX12_tide 14 = .ok (.iload_n 2, 1) := by decide +kernel
theorem dX12_tide_15 : decode cX12_tide 15 = .ok (.iload_n 1, 1) := by decide +kernel
theorem dX12_tide_16 : decode cX12_tide 16 = .ok (.if_icmp .lt 15, 3) := by decide +kernel
theorem dX12_tide_19 : decode cX12_tide 19 = .ok (.iload_n 3, 1) := by decide +kernel
theorem dX12_tide_20 : decode cX12_tide 20 = .ok (.i2l, 1) := by decide +kernel
theorem dX12_tide_21 : decode cX12_tide 21 = .ok (.lconst 0, 1) := by decide +kernel
theorem dX12_tide_22 : decode cX12_tide 22 = .ok (.ldc2_w 314, 3) := by decide +kernel
theorem dX12_tide_25 : decode cX12_tide 25 = .ok (.invokestatic 99, 3) := by decide +kernel
theorem dX12_tide_28 : decode cX12_tide 28 = .ok (.ifCond .ne 5, 3) := by decide +kernel
theorem dX12_tide_31 : decode cX12_tide 31 = .ok (.iconst (-1), 1) := by decide +kernel
theorem dX12_tide_32 : decode cX12_tide 32 = .ok (.ireturn, 1) := by decide +kernel
theorem dX12_tide_33 : decode cX12_tide 33 = .ok (.iload_n 1, 1) := by decide +kernel
theorem dX12_tide_34 : decode cX12_tide 34 = .ok (.istore 4, 2) := by decide +kernel
theorem dX12_tide_36 : decode cX12_tide 36 = .ok (.iload_n 1, 1) := by decide +kernel
theorem dX12_tide_37 : decode cX12_tide 37 = .ok (.istore 5, 2) := by decide +kernel
theorem dX12_tide_39 : decode cX12_tide 39 = .ok (.iload_n 1, 1) := by decide +kernel
theorem dX12_tide_40 : decode cX12_tide 40 = .ok (.istore 6, 2) := by decide +kernel
theorem dX12_tide_42 : decode cX12_tide 42 = .ok (.iload 6, 2) := by decide +kernel
theorem dX12_tide_44 : decode cX12_tide 44 = .ok (.iload_n 2, 1) := by decide +kernel
theorem dX12_tide_45 : decode cX12_tide 45 = .ok (.if_icmp .gt 61, 3) := by decide +kernel
theorem dX12_tide_48 : decode cX12_tide 48 = .ok (.aload_n 0, 1) := by decide +kernel
theorem dX12_tide_49 : decode cX12_tide 49 = .ok (.getfield 33, 3) := by decide +kernel
theorem dX12_tide_52 : decode cX12_tide 52 = .ok (.iload 6, 2) := by decide +kernel
theorem dX12_tide_54 : decode cX12_tide 54 = .ok (.iaload, 1) := by decide +kernel
theorem dX12_tide_55 : decode cX12_tide 55 = .ok (.aload_n 0, 1) := by decide +kernel
theorem dX12_tide_56 : decode cX12_tide 56 = .ok (.getfield 33, 3) := by decide +kernel
theorem dX12_tide_59 : decode cX12_tide 59 = .ok (.iload 4, 2) := by decide +kernel
theorem dX12_tide_61 : decode cX12_tide 61 = .ok (.iaload, 1) := by decide +kernel
theorem dX12_tide_62 : decode cX12_tide 62 = .ok (.if_icmp .le 8, 3) := by decide +kernel
theorem dX12_tide_65 : decode cX12_tide 65 = .ok (.iload 6, 2) := by decide +kernel
theorem dX12_tide_67 : decode cX12_tide 67 = .ok (.goto 5, 3) := by decide +kernel
theorem dX12_tide_70 : decode cX12_tide 70 = .ok (.iload 4, 2) := by decide +kernel
theorem dX12_tide_72 : decode cX12_tide 72 = .ok (.istore 4, 2) := by decide +kernel
theorem dX12_tide_74 : decode cX12_tide 74 = .ok (.aload_n 0, 1) := by decide +kernel
theorem dX12_tide_75 : decode cX12_tide 75 = .ok (.getfield 33, 3) := by decide +kernel
theorem dX12_tide_78 : decode cX12_tide 78 = .ok (.iload 6, 2) := by decide +kernel
theorem dX12_tide_80 : decode cX12_tide 80 = .ok (.iaload, 1) := by decide +kernel
theorem dX12_tide_81 : decode cX12_tide 81 = .ok (.aload_n 0, 1) := by decide +kernel
theorem dX12_tide_82 : decode cX12_tide 82 = .ok (.getfield 33, 3) := by decide +kernel
theorem dX12_tide_85 : decode cX12_tide 85 = .ok (.iload 5, 2) := by decide +kernel
theorem dX12_tide_87 : decode cX12_tide 87 = .ok (.iaload, 1) := by decide +kernel
theorem dX12_tide_88 : decode cX12_tide 88 = .ok (.if_icmp .ge 8, 3) := by decide +kernel
theorem dX12_tide_91 : decode cX12_tide 91 = .ok (.iload 6, 2) := by decide +kernel
theorem dX12_tide_93 : decode cX12_tide 93 = .ok (.goto 5, 3) := by decide +kernel
theorem dX12_tide_96 : decode cX12_tide 96 = .ok (.iload 5, 2) := by decide +kernel
theorem dX12_tide_98 : decode cX12_tide 98 = .ok (.istore 5, 2) := by decide +kernel
theorem dX12_tide_100 : decode cX12_tide 100 = .ok (.iinc 6 1, 3) := by decide +kernel
theorem dX12_tide_103 : decode cX12_tide 103 = .ok (.goto (-61), 3) := by decide +kernel
theorem dX12_tide_106 : decode cX12_tide 106 = .ok (.iload_n 3, 1) := by decide +kernel
theorem dX12_tide_107 : decode cX12_tide 107 = .ok (.tableswitch 44 0 2 #[25, 33, 36], 25) := by decide +kernel
theorem dX12_tide_132 : decode cX12_tide 132 = .ok (.aload_n 0, 1) := by decide +kernel
theorem dX12_tide_133 : decode cX12_tide 133 = .ok (.getfield 33, 3) := by decide +kernel
theorem dX12_tide_136 : decode cX12_tide 136 = .ok (.iload 4, 2) := by decide +kernel
theorem dX12_tide_138 : decode cX12_tide 138 = .ok (.iaload, 1) := by decide +kernel
theorem dX12_tide_139 : decode cX12_tide 139 = .ok (.ireturn, 1) := by decide +kernel
theorem dX12_tide_140 : decode cX12_tide 140 = .ok (.iload 4, 2) := by decide +kernel
theorem dX12_tide_142 : decode cX12_tide 142 = .ok (.ireturn, 1) := by decide +kernel
theorem dX12_tide_143 : decode cX12_tide 143 = .ok (.aload_n 0, 1) := by decide +kernel
theorem dX12_tide_144 : decode cX12_tide 144 = .ok (.getfield 33, 3) := by decide +kernel
theorem dX12_tide_147 : decode cX12_tide 147 = .ok (.iload 5, 2) := by decide +kernel
theorem dX12_tide_149 : decode cX12_tide 149 = .ok (.iaload, 1) := by decide +kernel
theorem dX12_tide_150 : decode cX12_tide 150 = .ok (.ireturn, 1) := by decide +kernel
theorem dX12_tide_151 : decode cX12_tide 151 = .ok (.iload 5, 2) := by decide +kernel
theorem dX12_tide_153 : decode cX12_tide 153 = .ok (.ireturn, 1) := by decide +kernel
theorem dX12_stays_0 : decode cX12_stays 0 = .ok (.aload_n 0, 1) := by decide +kernel
theorem dX12_stays_1 : decode cX12_stays 1 = .ok (.getfield 42, 3) := by decide +kernel
theorem dX12_stays_4 : decode cX12_stays 4 = .ok (.iload_n 1, 1) := by decide +kernel
theorem dX12_stays_5 : decode cX12_stays 5 = .ok (.iaload, 1) := by decide +kernel
theorem dX12_stays_6 : decode cX12_stays 6 = .ok (.ifCond .le 7, 3) := by decide +kernel
theorem dX12_stays_9 : decode cX12_stays 9 = .ok (.iconst 1, 1) := by decide +kernel
theorem dX12_stays_10 : decode cX12_stays 10 = .ok (.goto 4, 3) := by decide +kernel
theorem dX12_stays_13 : decode cX12_stays 13 = .ok (.iconst 0, 1) := by decide +kernel
theorem dX12_stays_14 : decode cX12_stays 14 = .ok (.ireturn, 1) := by decide +kernel
theorem dX12_workBy_0 : decode cX12_workBy 0 = .ok (.aload_n 0, 1) := by decide +kernel
theorem dX12_workBy_1 : decode cX12_workBy 1 = .ok (.iload_n 2, 1) := by decide +kernel
theorem dX12_workBy_2 : decode cX12_workBy 2 = .ok (.invokevirtual 294, 3) := by decide +kernel
theorem dX12_workBy_5 : decode cX12_workBy 5 = .ok (.istore_n 3, 1) := by decide +kernel
theorem dX12_workBy_6 : decode cX12_workBy 6 = .ok (.aload_n 0, 1) := by decide +kernel
theorem dX12_workBy_7 : decode cX12_workBy 7 = .ok (.iload_n 1, 1) := by decide +kernel
theorem dX12_workBy_8 : decode cX12_workBy 8 = .ok (.iconst 3, 1) := by decide +kernel
theorem dX12_workBy_9 : decode cX12_workBy 9 = .ok (.invokevirtual 316, 3) := by decide +kernel
theorem dX12_workBy_12 : decode cX12_workBy 12 = .ok (.iload_n 3, 1) := by decide +kernel
theorem dX12_workBy_13 : decode cX12_workBy 13 = .ok (.iadd, 1) := by decide +kernel
theorem dX12_workBy_14 : decode cX12_workBy 14 = .ok (.iconst 1, 1) := by decide +kernel
theorem dX12_workBy_15 : decode cX12_workBy 15 = .ok (.isub, 1) := by decide +kernel
theorem dX12_workBy_16 : decode cX12_workBy 16 = .ok (.iload_n 3, 1) := by decide +kernel
theorem dX12_workBy_17 : decode cX12_workBy 17 = .ok (.idiv, 1) := by decide +kernel
theorem dX12_workBy_18 : decode cX12_workBy 18 = .ok (.istore 4, 2) := by decide +kernel
theorem dX12_workBy_20 : decode cX12_workBy 20 = .ok (.iload 4, 2) := by decide +kernel
theorem dX12_workBy_22 : decode cX12_workBy 22 = .ok (.iconst 1, 1) := by decide +kernel
theorem dX12_workBy_23 : decode cX12_workBy 23 = .ok (.if_icmp .ge 7, 3) := by decide +kernel
theorem dX12_workBy_26 : decode cX12_workBy 26 = .ok (.iconst 1, 1) := by decide +kernel
theorem dX12_workBy_27 : decode cX12_workBy 27 = .ok (.goto 5, 3) := by decide +kernel
theorem dX12_workBy_30 : decode cX12_workBy 30 = .ok (.iload 4, 2) := by decide +kernel
theorem dX12_workBy_32 : decode cX12_workBy 32 = .ok (.ireturn, 1) := by decide +kernel
theorem dX12_leaveBy_0 : decode cX12_leaveBy 0 = .ok (.aload_n 0, 1) := by decide +kernel
theorem dX12_leaveBy_1 : decode cX12_leaveBy 1 = .ok (.aload_n 0, 1) := by decide +kernel
theorem dX12_leaveBy_2 : decode cX12_leaveBy 2 = .ok (.iload_n 1, 1) := by decide +kernel
theorem dX12_leaveBy_3 : decode cX12_leaveBy 3 = .ok (.iconst 2, 1) := by decide +kernel
theorem dX12_leaveBy_4 : decode cX12_leaveBy 4 = .ok (.invokevirtual 316, 3) := by decide +kernel
theorem dX12_leaveBy_7 : decode cX12_leaveBy 7 = .ok (.iload_n 2, 1) := by decide +kernel
theorem dX12_leaveBy_8 : decode cX12_leaveBy 8 = .ok (.aload_n 0, 1) := by decide +kernel
theorem dX12_leaveBy_9 : decode cX12_leaveBy 9 = .ok (.iload_n 1, 1) := by decide +kernel
theorem dX12_leaveBy_10 : decode cX12_leaveBy 10 = .ok (.iload_n 3, 1) := by decide +kernel
theorem dX12_leaveBy_11 : decode cX12_leaveBy 11 = .ok (.invokevirtual 319, 3) := by decide +kernel
theorem dX12_leaveBy_14 : decode cX12_leaveBy 14 = .ok (.iadd, 1) := by decide +kernel
theorem dX12_leaveBy_15 : decode cX12_leaveBy 15 = .ok (.invokevirtual 311, 3) := by decide +kernel
theorem dX12_leaveBy_18 : decode cX12_leaveBy 18 = .ok (.ireturn, 1) := by decide +kernel
theorem dX12_lay_0 : decode cX12_lay 0 = .ok (.aload_n 0, 1) := by decide +kernel
theorem dX12_lay_1 : decode cX12_lay 1 = .ok (.getfield 36, 3) := by decide +kernel
theorem dX12_lay_4 : decode cX12_lay 4 = .ok (.iload_n 1, 1) := by decide +kernel
theorem dX12_lay_5 : decode cX12_lay 5 = .ok (.iload_n 2, 1) := by decide +kernel
theorem dX12_lay_6 : decode cX12_lay 6 = .ok (.iastore, 1) := by decide +kernel
theorem dX12_lay_7 : decode cX12_lay 7 = .ok (.aload_n 0, 1) := by decide +kernel
theorem dX12_lay_8 : decode cX12_lay 8 = .ok (.getfield 39, 3) := by decide +kernel
theorem dX12_lay_11 : decode cX12_lay 11 = .ok (.iload_n 1, 1) := by decide +kernel
theorem dX12_lay_12 : decode cX12_lay 12 = .ok (.iload_n 3, 1) := by decide +kernel
theorem dX12_lay_13 : decode cX12_lay 13 = .ok (.iastore, 1) := by decide +kernel
theorem dX12_lay_14 : decode cX12_lay 14 = .ok (.aload_n 0, 1) := by decide +kernel
theorem dX12_lay_15 : decode cX12_lay 15 = .ok (.getfield 42, 3) := by decide +kernel
theorem dX12_lay_18 : decode cX12_lay 18 = .ok (.iload_n 1, 1) := by decide +kernel
theorem dX12_lay_19 : decode cX12_lay 19 = .ok (.iload 4, 2) := by decide +kernel
theorem dX12_lay_21 : decode cX12_lay 21 = .ok (.iastore, 1) := by decide +kernel
theorem dX12_lay_22 : decode cX12_lay 22 = .ok (.aload_n 0, 1) := by decide +kernel
theorem dX12_lay_23 : decode cX12_lay 23 = .ok (.getfield 45, 3) := by decide +kernel
theorem dX12_lay_26 : decode cX12_lay 26 = .ok (.iload_n 1, 1) := by decide +kernel
theorem dX12_lay_27 : decode cX12_lay 27 = .ok (.iload 4, 2) := by decide +kernel
theorem dX12_lay_29 : decode cX12_lay 29 = .ok (.ifCond .ne 7, 3) := by decide +kernel
theorem dX12_lay_32 : decode cX12_lay 32 = .ok (.iconst 0, 1) := by decide +kernel
theorem dX12_lay_33 : decode cX12_lay 33 = .ok (.goto 10, 3) := by decide +kernel
theorem dX12_lay_36 : decode cX12_lay 36 = .ok (.aload_n 0, 1) := by decide +kernel
theorem dX12_lay_37 : decode cX12_lay 37 = .ok (.iload_n 1, 1) := by decide +kernel
theorem dX12_lay_38 : decode cX12_lay 38 = .ok (.iload 4, 2) := by decide +kernel
theorem dX12_lay_40 : decode cX12_lay 40 = .ok (.invokevirtual 319, 3) := by decide +kernel
theorem dX12_lay_43 : decode cX12_lay 43 = .ok (.iastore, 1) := by decide +kernel
theorem dX12_lay_44 : decode cX12_lay 44 = .ok (.aload_n 0, 1) := by decide +kernel
theorem dX12_lay_45 : decode cX12_lay 45 = .ok (.getfield 48, 3) := by decide +kernel
theorem dX12_lay_48 : decode cX12_lay 48 = .ok (.iload_n 1, 1) := by decide +kernel
theorem dX12_lay_49 : decode cX12_lay 49 = .ok (.iload 4, 2) := by decide +kernel
theorem dX12_lay_51 : decode cX12_lay 51 = .ok (.ifCond .ne 7, 3) := by decide +kernel
theorem dX12_lay_54 : decode cX12_lay 54 = .ok (.iconst 0, 1) := by decide +kernel
theorem dX12_lay_55 : decode cX12_lay 55 = .ok (.goto 11, 3) := by decide +kernel
theorem dX12_lay_58 : decode cX12_lay 58 = .ok (.aload_n 0, 1) := by decide +kernel
theorem dX12_lay_59 : decode cX12_lay 59 = .ok (.iload_n 1, 1) := by decide +kernel
theorem dX12_lay_60 : decode cX12_lay 60 = .ok (.iload_n 3, 1) := by decide +kernel
theorem dX12_lay_61 : decode cX12_lay 61 = .ok (.iload 4, 2) := by decide +kernel
theorem dX12_lay_63 : decode cX12_lay 63 = .ok (.invokevirtual 322, 3) := by decide +kernel
theorem dX12_lay_66 : decode cX12_lay 66 = .ok (.iastore, 1) := by decide +kernel
theorem dX12_lay_67 : decode cX12_lay 67 = .ok (.return_, 1) := by decide +kernel
theorem dX12_staying_0 : decode cX12_staying 0 = .ok (.iconst 0, 1) := by decide +kernel
theorem dX12_staying_1 : decode cX12_staying 1 = .ok (.istore_n 1, 1) := by decide +kernel
theorem dX12_staying_2 : decode cX12_staying 2 = .ok (.iconst 0, 1) := by decide +kernel
theorem dX12_staying_3 : decode cX12_staying 3 = .ok (.istore_n 2, 1) := by decide +kernel
theorem dX12_staying_4 : decode cX12_staying 4 = .ok (.iload_n 2, 1) := by decide +kernel
theorem dX12_staying_5 : decode cX12_staying 5 = .ok (.aload_n 0, 1) := by decide +kernel
theorem dX12_staying_6 : decode cX12_staying 6 = .ok (.getfield 13, 3) := by decide +kernel
theorem dX12_staying_9 : decode cX12_staying 9 = .ok (.bipush 9, 2) := by decide +kernel
theorem dX12_staying_11 : decode cX12_staying 11 = .ok (.iaload, 1) := by decide +kernel
theorem dX12_staying_12 : decode cX12_staying 12 = .ok (.if_icmp .ge 25, 3) := by decide +kernel
theorem dX12_staying_15 : decode cX12_staying 15 = .ok (.aload_n 0, 1) := by decide +kernel
theorem dX12_staying_16 : decode cX12_staying 16 = .ok (.iload_n 2, 1) := by decide +kernel
theorem dX12_staying_17 : decode cX12_staying 17 = .ok (.invokevirtual 326, 3) := by decide +kernel
theorem dX12_staying_20 : decode cX12_staying 20 = .ok (.ifCond .eq 9, 3) := by decide +kernel
theorem dX12_staying_23 : decode cX12_staying 23 = .ok (.iload_n 1, 1) := by decide +kernel
theorem dX12_staying_24 : decode cX12_staying 24 = .ok (.iconst 1, 1) := by decide +kernel
theorem dX12_staying_25 : decode cX12_staying 25 = .ok (.iadd, 1) := by decide +kernel
theorem dX12_staying_26 : decode cX12_staying 26 = .ok (.goto 4, 3) := by decide +kernel
theorem dX12_staying_29 : decode cX12_staying 29 = .ok (.iload_n 1, 1) := by decide +kernel
theorem dX12_staying_30 : decode cX12_staying 30 = .ok (.istore_n 1, 1) := by decide +kernel
theorem dX12_staying_31 : decode cX12_staying 31 = .ok (.iinc 2 1, 3) := by decide +kernel
theorem dX12_staying_34 : decode cX12_staying 34 = .ok (.goto (-30), 3) := by decide +kernel
theorem dX12_staying_37 : decode cX12_staying 37 = .ok (.iload_n 1, 1) := by decide +kernel
theorem dX12_staying_38 : decode cX12_staying 38 = .ok (.ireturn, 1) := by decide +kernel
theorem dX12_lateOf_0 : decode cX12_lateOf 0 = .ok (.aload_n 0, 1) := by decide +kernel
theorem dX12_lateOf_1 : decode cX12_lateOf 1 = .ok (.getfield 48, 3) := by decide +kernel
theorem dX12_lateOf_4 : decode cX12_lateOf 4 = .ok (.iload_n 1, 1) := by decide +kernel
theorem dX12_lateOf_5 : decode cX12_lateOf 5 = .ok (.iaload, 1) := by decide +kernel
theorem dX12_lateOf_6 : decode cX12_lateOf 6 = .ok (.aload_n 0, 1) := by decide +kernel
theorem dX12_lateOf_7 : decode cX12_lateOf 7 = .ok (.iload_n 1, 1) := by decide +kernel
theorem dX12_lateOf_8 : decode cX12_lateOf 8 = .ok (.iconst 5, 1) := by decide +kernel
theorem dX12_lateOf_9 : decode cX12_lateOf 9 = .ok (.invokevirtual 316, 3) := by decide +kernel
theorem dX12_lateOf_12 : decode cX12_lateOf 12 = .ok (.isub, 1) := by decide +kernel
theorem dX12_lateOf_13 : decode cX12_lateOf 13 = .ok (.istore_n 2, 1) := by decide +kernel
theorem dX12_lateOf_14 : decode cX12_lateOf 14 = .ok (.iload_n 2, 1) := by decide +kernel
theorem dX12_lateOf_15 : decode cX12_lateOf 15 = .ok (.ifCond .ge 7, 3) := by decide +kernel
theorem dX12_lateOf_18 : decode cX12_lateOf 18 = .ok (.iconst 0, 1) := by decide +kernel
theorem dX12_lateOf_19 : decode cX12_lateOf 19 = .ok (.goto 4, 3) := by decide +kernel
theorem dX12_lateOf_22 : decode cX12_lateOf 22 = .ok (.iload_n 2, 1) := by decide +kernel
theorem dX12_lateOf_23 : decode cX12_lateOf 23 = .ok (.ireturn, 1) := by decide +kernel
theorem dX12_costOf_0 : decode cX12_costOf 0 = .ok (.aload_n 0, 1) := by decide +kernel
theorem dX12_costOf_1 : decode cX12_costOf 1 = .ok (.iload_n 1, 1) := by decide +kernel
theorem dX12_costOf_2 : decode cX12_costOf 2 = .ok (.invokevirtual 329, 3) := by decide +kernel
theorem dX12_costOf_5 : decode cX12_costOf 5 = .ok (.bipush 8, 2) := by decide +kernel
theorem dX12_costOf_7 : decode cX12_costOf 7 = .ok (.aload_n 0, 1) := by decide +kernel
theorem dX12_costOf_8 : decode cX12_costOf 8 = .ok (.iload_n 1, 1) := by decide +kernel
theorem dX12_costOf_9 : decode cX12_costOf 9 = .ok (.bipush 6, 2) := by decide +kernel
theorem dX12_costOf_11 : decode cX12_costOf 11 = .ok (.invokevirtual 316, 3) := by decide +kernel
theorem dX12_costOf_14 : decode cX12_costOf 14 = .ok (.ishr, 1) := by decide +kernel
theorem dX12_costOf_15 : decode cX12_costOf 15 = .ok (.imul, 1) := by decide +kernel
theorem dX12_costOf_16 : decode cX12_costOf 16 = .ok (.ireturn, 1) := by decide +kernel
theorem dX12_costOfAll_0 : decode cX12_costOfAll 0 = .ok (.iconst 0, 1) := by decide +kernel
theorem dX12_costOfAll_1 : decode cX12_costOfAll 1 = .ok (.istore_n 1, 1) := by decide +kernel
theorem dX12_costOfAll_2 : decode cX12_costOfAll 2 = .ok (.iconst 0, 1) := by decide +kernel
theorem dX12_costOfAll_3 : decode cX12_costOfAll 3 = .ok (.istore_n 2, 1) := by decide +kernel
theorem dX12_costOfAll_4 : decode cX12_costOfAll 4 = .ok (.iload_n 2, 1) := by decide +kernel
theorem dX12_costOfAll_5 : decode cX12_costOfAll 5 = .ok (.aload_n 0, 1) := by decide +kernel
theorem dX12_costOfAll_6 : decode cX12_costOfAll 6 = .ok (.getfield 13, 3) := by decide +kernel
theorem dX12_costOfAll_9 : decode cX12_costOfAll 9 = .ok (.bipush 9, 2) := by decide +kernel
theorem dX12_costOfAll_11 : decode cX12_costOfAll 11 = .ok (.iaload, 1) := by decide +kernel
theorem dX12_costOfAll_12 : decode cX12_costOfAll 12 = .ok (.if_icmp .ge 29, 3) := by decide +kernel
theorem dX12_costOfAll_15 : decode cX12_costOfAll 15 = .ok (.aload_n 0, 1) := by decide +kernel
theorem dX12_costOfAll_16 : decode cX12_costOfAll 16 = .ok (.iload_n 2, 1) := by decide +kernel
theorem dX12_costOfAll_17 : decode cX12_costOfAll 17 = .ok (.invokevirtual 326, 3) := by decide +kernel
theorem dX12_costOfAll_20 : decode cX12_costOfAll 20 = .ok (.ifCond .eq 13, 3) := by decide +kernel
theorem dX12_costOfAll_23 : decode cX12_costOfAll 23 = .ok (.iload_n 1, 1) := by decide +kernel
theorem dX12_costOfAll_24 : decode cX12_costOfAll 24 = .ok (.aload_n 0, 1) := by decide +kernel
theorem dX12_costOfAll_25 : decode cX12_costOfAll 25 = .ok (.iload_n 2, 1) := by decide +kernel
theorem dX12_costOfAll_26 : decode cX12_costOfAll 26 = .ok (.invokevirtual 332, 3) := by decide +kernel
theorem dX12_costOfAll_29 : decode cX12_costOfAll 29 = .ok (.iadd, 1) := by decide +kernel
theorem dX12_costOfAll_30 : decode cX12_costOfAll 30 = .ok (.goto 4, 3) := by decide +kernel
theorem dX12_costOfAll_33 : decode cX12_costOfAll 33 = .ok (.iload_n 1, 1) := by decide +kernel
theorem dX12_costOfAll_34 : decode cX12_costOfAll 34 = .ok (.istore_n 1, 1) := by decide +kernel
theorem dX12_costOfAll_35 : decode cX12_costOfAll 35 = .ok (.iinc 2 1, 3) := by decide +kernel
theorem dX12_costOfAll_38 : decode cX12_costOfAll 38 = .ok (.goto (-34), 3) := by decide +kernel
theorem dX12_costOfAll_41 : decode cX12_costOfAll 41 = .ok (.iload_n 1, 1) := by decide +kernel
theorem dX12_costOfAll_42 : decode cX12_costOfAll 42 = .ok (.ireturn, 1) := by decide +kernel
theorem dX12_workOfAll_0 : decode cX12_workOfAll 0 = .ok (.iconst 0, 1) := by decide +kernel
theorem dX12_workOfAll_1 : decode cX12_workOfAll 1 = .ok (.istore_n 1, 1) := by decide +kernel
theorem dX12_workOfAll_2 : decode cX12_workOfAll 2 = .ok (.iconst 0, 1) := by decide +kernel
theorem dX12_workOfAll_3 : decode cX12_workOfAll 3 = .ok (.istore_n 2, 1) := by decide +kernel
theorem dX12_workOfAll_4 : decode cX12_workOfAll 4 = .ok (.iload_n 2, 1) := by decide +kernel
theorem dX12_workOfAll_5 : decode cX12_workOfAll 5 = .ok (.aload_n 0, 1) := by decide +kernel
theorem dX12_workOfAll_6 : decode cX12_workOfAll 6 = .ok (.getfield 13, 3) := by decide +kernel
theorem dX12_workOfAll_9 : decode cX12_workOfAll 9 = .ok (.bipush 9, 2) := by decide +kernel
theorem dX12_workOfAll_11 : decode cX12_workOfAll 11 = .ok (.iaload, 1) := by decide +kernel
theorem dX12_workOfAll_12 : decode cX12_workOfAll 12 = .ok (.if_icmp .ge 37, 3) := by decide +kernel
theorem dX12_workOfAll_15 : decode cX12_workOfAll 15 = .ok (.aload_n 0, 1) := by decide +kernel
theorem dX12_workOfAll_16 : decode cX12_workOfAll 16 = .ok (.iload_n 2, 1) := by decide +kernel
theorem dX12_workOfAll_17 : decode cX12_workOfAll 17 = .ok (.invokevirtual 326, 3) := by decide +kernel
theorem dX12_workOfAll_20 : decode cX12_workOfAll 20 = .ok (.ifCond .eq 21, 3) := by decide +kernel
theorem dX12_workOfAll_23 : decode cX12_workOfAll 23 = .ok (.iload_n 1, 1) := by decide +kernel
theorem dX12_workOfAll_24 : decode cX12_workOfAll 24 = .ok (.aload_n 0, 1) := by decide +kernel
theorem dX12_workOfAll_25 : decode cX12_workOfAll 25 = .ok (.getfield 42, 3) := by decide +kernel
theorem dX12_workOfAll_28 : decode cX12_workOfAll 28 = .ok (.iload_n 2, 1) := by decide +kernel
theorem dX12_workOfAll_29 : decode cX12_workOfAll 29 = .ok (.iaload, 1) := by decide +kernel
theorem dX12_workOfAll_30 : decode cX12_workOfAll 30 = .ok (.aload_n 0, 1) := by decide +kernel
theorem dX12_workOfAll_31 : decode cX12_workOfAll 31 = .ok (.getfield 45, 3) := by decide +kernel
theorem dX12_workOfAll_34 : decode cX12_workOfAll 34 = .ok (.iload_n 2, 1) := by decide +kernel
theorem dX12_workOfAll_35 : decode cX12_workOfAll 35 = .ok (.iaload, 1) := by decide +kernel
theorem dX12_workOfAll_36 : decode cX12_workOfAll 36 = .ok (.imul, 1) := by decide +kernel
theorem dX12_workOfAll_37 : decode cX12_workOfAll 37 = .ok (.iadd, 1) := by decide +kernel
theorem dX12_workOfAll_38 : decode cX12_workOfAll 38 = .ok (.goto 4, 3) := by decide +kernel
theorem dX12_workOfAll_41 : decode cX12_workOfAll 41 = .ok (.iload_n 1, 1) := by decide +kernel
theorem dX12_workOfAll_42 : decode cX12_workOfAll 42 = .ok (.istore_n 1, 1) := by decide +kernel
theorem dX12_workOfAll_43 : decode cX12_workOfAll 43 = .ok (.iinc 2 1, 3) := by decide +kernel
theorem dX12_workOfAll_46 : decode cX12_workOfAll 46 = .ok (.goto (-42), 3) := by decide +kernel
theorem dX12_workOfAll_49 : decode cX12_workOfAll 49 = .ok (.iload_n 1, 1) := by decide +kernel
theorem dX12_workOfAll_50 : decode cX12_workOfAll 50 = .ok (.ireturn, 1) := by decide +kernel
theorem dX12_ship_0 : decode cX12_ship 0 = .ok (.aload_n 0, 1) := by decide +kernel
theorem dX12_ship_1 : decode cX12_ship 1 = .ok (.iload_n 1, 1) := by decide +kernel
theorem dX12_ship_2 : decode cX12_ship 2 = .ok (.invokevirtual 297, 3) := by decide +kernel
theorem dX12_ship_5 : decode cX12_ship 5 = .ok (.ifCond .eq 15, 3) := by decide +kernel
theorem dX12_ship_8 : decode cX12_ship 8 = .ok (.iload_n 2, 1) := by decide +kernel
theorem dX12_ship_9 : decode cX12_ship 9 = .ok (.i2l, 1) := by decide +kernel
theorem dX12_ship_10 : decode cX12_ship 10 = .ok (.lconst 0, 1) := by decide +kernel
theorem dX12_ship_11 : decode cX12_ship 11 = .ok (.ldc2_w 335, 3) := by decide +kernel
theorem dX12_ship_14 : decode cX12_ship 14 = .ok (.invokestatic 99, 3) := by decide +kernel
theorem dX12_ship_17 : decode cX12_ship 17 = .ok (.ifCond .ne 5, 3) := by decide +kernel
theorem dX12_ship_20 : decode cX12_ship 20 = .ok (.iconst (-1), 1) := by decide +kernel
theorem dX12_ship_21 : decode cX12_ship 21 = .ok (.ireturn, 1) := by decide +kernel
theorem dX12_ship_22 : decode cX12_ship 22 = .ok (.iload_n 2, 1) := by decide +kernel
theorem dX12_ship_23 : decode cX12_ship 23 = .ok (.bipush 9, 2) := by decide +kernel
theorem dX12_ship_25 : decode cX12_ship 25 = .ok (.if_icmp .ge 10, 3) := by decide +kernel
theorem dX12_ship_28 : decode cX12_ship 28 = .ok (.aload_n 0, 1) := by decide +kernel
theorem dX12_ship_29 : decode cX12_ship 29 = .ok (.iload_n 1, 1) := by decide +kernel
theorem dX12_ship_30 : decode cX12_ship 30 = .ok (.iload_n 2, 1) := by decide +kernel
theorem dX12_ship_31 : decode cX12_ship 31 = .ok (.invokevirtual 316, 3) := by decide +kernel
theorem dX12_ship_34 : decode cX12_ship 34 = .ok (.ireturn, 1) := by decide +kernel
theorem dX12_ship_35 : decode cX12_ship 35 = .ok (.aload_n 0, 1) := by decide +kernel
theorem dX12_ship_36 : decode cX12_ship 36 = .ok (.iload_n 1, 1) := by decide +kernel
theorem dX12_ship_37 : decode cX12_ship 37 = .ok (.invokevirtual 326, 3) := by decide +kernel
theorem dX12_ship_40 : decode cX12_ship 40 = .ok (.ifCond .ne 6, 3) := by decide +kernel
theorem dX12_ship_43 : decode cX12_ship 43 = .ok (.bipush (-2), 2) := by decide +kernel
theorem dX12_ship_45 : decode cX12_ship 45 = .ok (.ireturn, 1) := by decide +kernel
theorem dX12_ship_46 : decode cX12_ship 46 = .ok (.iload_n 2, 1) := by decide +kernel
theorem dX12_ship_47 : decode cX12_ship 47 = .ok (.tableswitch 121 9 16 #[45, 52, 59, 66, 73, 80, 94, 115], 45) := by decide +kernel
theorem dX12_ship_92 : decode cX12_ship 92 = .ok (.aload_n 0, 1) := by decide +kernel
theorem dX12_ship_93 : decode cX12_ship 93 = .ok (.getfield 36, 3) := by decide +kernel
theorem dX12_ship_96 : decode cX12_ship 96 = .ok (.iload_n 1, 1) := by decide +kernel
theorem dX12_ship_97 : decode cX12_ship 97 = .ok (.iaload, 1) := by decide +kernel
theorem dX12_ship_98 : decode cX12_ship 98 = .ok (.ireturn, 1) := by decide +kernel
theorem dX12_ship_99 : decode cX12_ship 99 = .ok (.aload_n 0, 1) := by decide +kernel
theorem dX12_ship_100 : decode cX12_ship 100 = .ok (.getfield 39, 3) := by decide +kernel
theorem dX12_ship_103 : decode cX12_ship 103 = .ok (.iload_n 1, 1) := by decide +kernel
theorem dX12_ship_104 : decode cX12_ship 104 = .ok (.iaload, 1) := by decide +kernel
theorem dX12_ship_105 : decode cX12_ship 105 = .ok (.ireturn, 1) := by decide +kernel
theorem dX12_ship_106 : decode cX12_ship 106 = .ok (.aload_n 0, 1) := by decide +kernel
theorem dX12_ship_107 : decode cX12_ship 107 = .ok (.getfield 42, 3) := by decide +kernel
theorem dX12_ship_110 : decode cX12_ship 110 = .ok (.iload_n 1, 1) := by decide +kernel
theorem dX12_ship_111 : decode cX12_ship 111 = .ok (.iaload, 1) := by decide +kernel
theorem dX12_ship_112 : decode cX12_ship 112 = .ok (.ireturn, 1) := by decide +kernel
theorem dX12_ship_113 : decode cX12_ship 113 = .ok (.aload_n 0, 1) := by decide +kernel
theorem dX12_ship_114 : decode cX12_ship 114 = .ok (.getfield 45, 3) := by decide +kernel
theorem dX12_ship_117 : decode cX12_ship 117 = .ok (.iload_n 1, 1) := by decide +kernel
theorem dX12_ship_118 : decode cX12_ship 118 = .ok (.iaload, 1) := by decide +kernel
theorem dX12_ship_119 : decode cX12_ship 119 = .ok (.ireturn, 1) := by decide +kernel
theorem dX12_ship_120 : decode cX12_ship 120 = .ok (.aload_n 0, 1) := by decide +kernel
theorem dX12_ship_121 : decode cX12_ship 121 = .ok (.getfield 48, 3) := by decide +kernel
theorem dX12_ship_124 : decode cX12_ship 124 = .ok (.iload_n 1, 1) := by decide +kernel
theorem dX12_ship_125 : decode cX12_ship 125 = .ok (.iaload, 1) := by decide +kernel
theorem dX12_ship_126 : decode cX12_ship 126 = .ok (.ireturn, 1) := by decide +kernel
theorem dX12_ship_127 : decode cX12_ship 127 = .ok (.aload_n 0, 1) := by decide +kernel
theorem dX12_ship_128 : decode cX12_ship 128 = .ok (.getfield 39, 3) := by decide +kernel
theorem dX12_ship_131 : decode cX12_ship 131 = .ok (.iload_n 1, 1) := by decide +kernel
theorem dX12_ship_132 : decode cX12_ship 132 = .ok (.iaload, 1) := by decide +kernel
theorem dX12_ship_133 : decode cX12_ship 133 = .ok (.aload_n 0, 1) := by decide +kernel
theorem dX12_ship_134 : decode cX12_ship 134 = .ok (.iload_n 1, 1) := by decide +kernel
theorem dX12_ship_135 : decode cX12_ship 135 = .ok (.iconst 4, 1) := by decide +kernel
theorem dX12_ship_136 : decode cX12_ship 136 = .ok (.invokevirtual 316, 3) := by decide +kernel
theorem dX12_ship_139 : decode cX12_ship 139 = .ok (.isub, 1) := by decide +kernel
theorem dX12_ship_140 : decode cX12_ship 140 = .ok (.ireturn, 1) := by decide +kernel
theorem dX12_ship_141 : decode cX12_ship 141 = .ok (.aload_n 0, 1) := by decide +kernel
theorem dX12_ship_142 : decode cX12_ship 142 = .ok (.getfield 48, 3) := by decide +kernel
theorem dX12_ship_145 : decode cX12_ship 145 = .ok (.iload_n 1, 1) := by decide +kernel
theorem dX12_ship_146 : decode cX12_ship 146 = .ok (.iaload, 1) := by decide +kernel
theorem dX12_ship_147 : decode cX12_ship 147 = .ok (.aload_n 0, 1) := by decide +kernel
theorem dX12_ship_148 : decode cX12_ship 148 = .ok (.getfield 39, 3) := by decide +kernel
theorem dX12_ship_151 : decode cX12_ship 151 = .ok (.iload_n 1, 1) := by decide +kernel
theorem dX12_ship_152 : decode cX12_ship 152 = .ok (.iaload, 1) := by decide +kernel
theorem dX12_ship_153 : decode cX12_ship 153 = .ok (.isub, 1) := by decide +kernel
theorem dX12_ship_154 : decode cX12_ship 154 = .ok (.aload_n 0, 1) := by decide +kernel
theorem dX12_ship_155 : decode cX12_ship 155 = .ok (.getfield 45, 3) := by decide +kernel
theorem dX12_ship_158 : decode cX12_ship 158 = .ok (.iload_n 1, 1) := by decide +kernel
theorem dX12_ship_159 : decode cX12_ship 159 = .ok (.iaload, 1) := by decide +kernel
theorem dX12_ship_160 : decode cX12_ship 160 = .ok (.isub, 1) := by decide +kernel
theorem dX12_ship_161 : decode cX12_ship 161 = .ok (.ireturn, 1) := by decide +kernel
theorem dX12_ship_162 : decode cX12_ship 162 = .ok (.aload_n 0, 1) := by decide +kernel
theorem dX12_ship_163 : decode cX12_ship 163 = .ok (.iload_n 1, 1) := by decide +kernel
theorem dX12_ship_164 : decode cX12_ship 164 = .ok (.invokevirtual 329, 3) := by decide +kernel
theorem dX12_ship_167 : decode cX12_ship 167 = .ok (.ireturn, 1) := by decide +kernel
theorem dX12_ship_168 : decode cX12_ship 168 = .ok (.aload_n 0, 1) := by decide +kernel
theorem dX12_ship_169 : decode cX12_ship 169 = .ok (.iload_n 1, 1) := by decide +kernel
theorem dX12_ship_170 : decode cX12_ship 170 = .ok (.invokevirtual 332, 3) := by decide +kernel
theorem dX12_ship_173 : decode cX12_ship 173 = .ok (.ireturn, 1) := by decide +kernel
theorem dX12_isAtWork_0 : decode cX12_isAtWork 0 = .ok (.aload_n 0, 1) := by decide +kernel
theorem dX12_isAtWork_1 : decode cX12_isAtWork 1 = .ok (.iload_n 1, 1) := by decide +kernel
theorem dX12_isAtWork_2 : decode cX12_isAtWork 2 = .ok (.invokevirtual 326, 3) := by decide +kernel
theorem dX12_isAtWork_5 : decode cX12_isAtWork 5 = .ok (.ifCond .eq 34, 3) := by decide +kernel
theorem dX12_isAtWork_8 : decode cX12_isAtWork 8 = .ok (.iload_n 2, 1) := by decide +kernel
theorem dX12_isAtWork_9 : decode cX12_isAtWork 9 = .ok (.aload_n 0, 1) := by decide +kernel
theorem dX12_isAtWork_10 : decode cX12_isAtWork 10 = .ok (.getfield 39, 3) := by decide +kernel
theorem dX12_isAtWork_13 : decode cX12_isAtWork 13 = .ok (.iload_n 1, 1) := by decide +kernel
theorem dX12_isAtWork_14 : decode cX12_isAtWork 14 = .ok (.iaload, 1) := by decide +kernel
theorem dX12_isAtWork_15 : decode cX12_isAtWork 15 = .ok (.if_icmp .lt 24, 3) := by decide +kernel
theorem dX12_isAtWork_18 : decode cX12_isAtWork 18 = .ok (.iload_n 2, 1) := by decide +kernel
theorem dX12_isAtWork_19 : decode cX12_isAtWork 19 = .ok (.aload_n 0, 1) := by decide +kernel
theorem dX12_isAtWork_20 : decode cX12_isAtWork 20 = .ok (.getfield 39, 3) := by decide +kernel
theorem dX12_isAtWork_23 : decode cX12_isAtWork 23 = .ok (.iload_n 1, 1) := by decide +kernel
theorem dX12_isAtWork_24 : decode cX12_isAtWork 24 = .ok (.iaload, 1) := by decide +kernel
theorem dX12_isAtWork_25 : decode cX12_isAtWork 25 = .ok (.aload_n 0, 1) := by decide +kernel
theorem dX12_isAtWork_26 : decode cX12_isAtWork 26 = .ok (.getfield 45, 3) := by decide +kernel
theorem dX12_isAtWork_29 : decode cX12_isAtWork 29 = .ok (.iload_n 1, 1) := by decide +kernel
theorem dX12_isAtWork_30 : decode cX12_isAtWork 30 = .ok (.iaload, 1) := by decide +kernel
theorem dX12_isAtWork_31 : decode cX12_isAtWork 31 = .ok (.iadd, 1) := by decide +kernel
theorem dX12_isAtWork_32 : decode cX12_isAtWork 32 = .ok (.if_icmp .ge 7, 3) := by decide +kernel
theorem dX12_isAtWork_35 : decode cX12_isAtWork 35 = .ok (.iconst 1, 1) := by decide +kernel
theorem dX12_isAtWork_36 : decode cX12_isAtWork 36 = .ok (.goto 4, 3) := by decide +kernel
theorem dX12_isAtWork_39 : decode cX12_isAtWork 39 = .ok (.iconst 0, 1) := by decide +kernel
theorem dX12_isAtWork_40 : decode cX12_isAtWork 40 = .ok (.ireturn, 1) := by decide +kernel
theorem dX12_isLying_0 : decode cX12_isLying 0 = .ok (.aload_n 0, 1) := by decide +kernel
theorem dX12_isLying_1 : decode cX12_isLying 1 = .ok (.iload_n 1, 1) := by decide +kernel
theorem dX12_isLying_2 : decode cX12_isLying 2 = .ok (.invokevirtual 326, 3) := by decide +kernel
theorem dX12_isLying_5 : decode cX12_isLying 5 = .ok (.ifCond .eq 27, 3) := by decide +kernel
theorem dX12_isLying_8 : decode cX12_isLying 8 = .ok (.iload_n 2, 1) := by decide +kernel
theorem dX12_isLying_9 : decode cX12_isLying 9 = .ok (.aload_n 0, 1) := by decide +kernel
theorem dX12_isLying_10 : decode cX12_isLying 10 = .ok (.getfield 39, 3) := by decide +kernel
theorem dX12_isLying_13 : decode cX12_isLying 13 = .ok (.iload_n 1, 1) := by decide +kernel
theorem dX12_isLying_14 : decode cX12_isLying 14 = .ok (.iaload, 1) := by decide +kernel
theorem dX12_isLying_15 : decode cX12_isLying 15 = .ok (.if_icmp .lt 17, 3) := by decide +kernel
theorem dX12_isLying_18 : decode cX12_isLying 18 = .ok (.iload_n 2, 1) := by decide +kernel
theorem dX12_isLying_19 : decode cX12_isLying 19 = .ok (.aload_n 0, 1) := by decide +kernel
theorem dX12_isLying_20 : decode cX12_isLying 20 = .ok (.getfield 48, 3) := by decide +kernel
theorem dX12_isLying_23 : decode cX12_isLying 23 = .ok (.iload_n 1, 1) := by decide +kernel
theorem dX12_isLying_24 : decode cX12_isLying 24 = .ok (.iaload, 1) := by decide +kernel
theorem dX12_isLying_25 : decode cX12_isLying 25 = .ok (.if_icmp .ge 7, 3) := by decide +kernel
theorem dX12_isLying_28 : decode cX12_isLying 28 = .ok (.iconst 1, 1) := by decide +kernel
theorem dX12_isLying_29 : decode cX12_isLying 29 = .ok (.goto 4, 3) := by decide +kernel
theorem dX12_isLying_32 : decode cX12_isLying 32 = .ok (.iconst 0, 1) := by decide +kernel
theorem dX12_isLying_33 : decode cX12_isLying 33 = .ok (.ireturn, 1) := by decide +kernel
theorem dX12_nextAtWork_0 : decode cX12_nextAtWork 0 = .ok (.iconst (-1), 1) := by decide +kernel
theorem dX12_nextAtWork_1 : decode cX12_nextAtWork 1 = .ok (.istore_n 3, 1) := by decide +kernel
theorem dX12_nextAtWork_2 : decode cX12_nextAtWork 2 = .ok (.iconst 0, 1) := by decide +kernel
theorem dX12_nextAtWork_3 : decode cX12_nextAtWork 3 = .ok (.istore 4, 2) := by decide +kernel
theorem dX12_nextAtWork_5 : decode cX12_nextAtWork 5 = .ok (.iload 4, 2) := by decide +kernel
theorem dX12_nextAtWork_7 : decode cX12_nextAtWork 7 = .ok (.aload_n 0, 1) := by decide +kernel
theorem dX12_nextAtWork_8 : decode cX12_nextAtWork 8 = .ok (.getfield 13, 3) := by decide +kernel
theorem dX12_nextAtWork_11 : decode cX12_nextAtWork 11 = .ok (.bipush 9, 2) := by decide +kernel
theorem dX12_nextAtWork_13 : decode cX12_nextAtWork 13 = .ok (.iaload, 1) := by decide +kernel
theorem dX12_nextAtWork_14 : decode cX12_nextAtWork 14 = .ok (.if_icmp .ge 61, 3) := by decide +kernel
theorem dX12_nextAtWork_17 : decode cX12_nextAtWork 17 = .ok (.aload_n 0, 1) := by decide +kernel
theorem dX12_nextAtWork_18 : decode cX12_nextAtWork 18 = .ok (.iload 4, 2) := by decide +kernel
theorem dX12_nextAtWork_20 : decode cX12_nextAtWork 20 = .ok (.iload_n 1, 1) := by decide +kernel
theorem dX12_nextAtWork_21 : decode cX12_nextAtWork 21 = .ok (.invokevirtual 337, 3) := by decide +kernel
theorem dX12_nextAtWork_24 : decode cX12_nextAtWork 24 = .ok (.ifCond .eq 45, 3) := by decide +kernel
theorem dX12_nextAtWork_27 : decode cX12_nextAtWork 27 = .ok (.aload_n 0, 1) := by decide +kernel
theorem dX12_nextAtWork_28 : decode cX12_nextAtWork 28 = .ok (.getfield 36, 3) := by decide +kernel
theorem dX12_nextAtWork_31 : decode cX12_nextAtWork 31 = .ok (.iload 4, 2) := by decide +kernel
theorem dX12_nextAtWork_33 : decode cX12_nextAtWork 33 = .ok (.iaload, 1) := by decide +kernel
theorem dX12_nextAtWork_34 : decode cX12_nextAtWork 34 = .ok (.iload_n 2, 1) := by decide +kernel
theorem dX12_nextAtWork_35 : decode cX12_nextAtWork 35 = .ok (.if_icmp .gt 6, 3) := by decide +kernel
theorem dX12_nextAtWork_38 : decode cX12_nextAtWork 38 = .ok (.goto 31, 3) := by decide +kernel
theorem dX12_nextAtWork_41 : decode cX12_nextAtWork 41 = .ok (.iload_n 3, 1) := by decide +kernel
theorem dX12_nextAtWork_42 : decode cX12_nextAtWork 42 = .ok (.iconst (-1), 1) := by decide +kernel
theorem dX12_nextAtWork_43 : decode cX12_nextAtWork 43 = .ok (.if_icmp .eq 19, 3) := by decide +kernel
theorem dX12_nextAtWork_46 : decode cX12_nextAtWork 46 = .ok (.aload_n 0, 1) := by decide +kernel
theorem dX12_nextAtWork_47 : decode cX12_nextAtWork 47 = .ok (.getfield 36, 3) := by decide +kernel
theorem dX12_nextAtWork_50 : decode cX12_nextAtWork 50 = .ok (.iload 4, 2) := by decide +kernel
theorem dX12_nextAtWork_52 : decode cX12_nextAtWork 52 = .ok (.iaload, 1) := by decide +kernel
theorem dX12_nextAtWork_53 : decode cX12_nextAtWork 53 = .ok (.aload_n 0, 1) := by decide +kernel
theorem dX12_nextAtWork_54 : decode cX12_nextAtWork 54 = .ok (.getfield 36, 3) := by decide +kernel
theorem dX12_nextAtWork_57 : decode cX12_nextAtWork 57 = .ok (.iload_n 3, 1) := by decide +kernel
theorem dX12_nextAtWork_58 : decode cX12_nextAtWork 58 = .ok (.iaload, 1) := by decide +kernel
theorem dX12_nextAtWork_59 : decode cX12_nextAtWork 59 = .ok (.if_icmp .ge 8, 3) := by decide +kernel
theorem dX12_nextAtWork_62 : decode cX12_nextAtWork 62 = .ok (.iload 4, 2) := by decide +kernel
theorem dX12_nextAtWork_64 : decode cX12_nextAtWork 64 = .ok (.goto 4, 3) := by decide +kernel
theorem dX12_nextAtWork_67 : decode cX12_nextAtWork 67 = .ok (.iload_n 3, 1) := by decide +kernel
theorem dX12_nextAtWork_68 : decode cX12_nextAtWork 68 = .ok (.istore_n 3, 1) := by decide +kernel
theorem dX12_nextAtWork_69 : decode cX12_nextAtWork 69 = .ok (.iinc 4 1, 3) := by decide +kernel
theorem dX12_nextAtWork_72 : decode cX12_nextAtWork 72 = .ok (.goto (-67), 3) := by decide +kernel
theorem dX12_nextAtWork_75 : decode cX12_nextAtWork 75 = .ok (.iload_n 3, 1) := by decide +kernel
theorem dX12_nextAtWork_76 : decode cX12_nextAtWork 76 = .ok (.ireturn, 1) := by decide +kernel
theorem dX12_reaches_0 : decode cX12_reaches 0 = .ok (.aload_n 0, 1) := by decide +kernel
theorem dX12_reaches_1 : decode cX12_reaches 1 = .ok (.getfield 13, 3) := by decide +kernel
theorem dX12_reaches_4 : decode cX12_reaches 4 = .ok (.bipush 27, 2) := by decide +kernel
theorem dX12_reaches_6 : decode cX12_reaches 6 = .ok (.iload_n 1, 1) := by decide +kernel
theorem dX12_reaches_7 : decode cX12_reaches 7 = .ok (.iadd, 1) := by decide +kernel
theorem dX12_reaches_8 : decode cX12_reaches 8 = .ok (.iaload, 1) := by decide +kernel
theorem dX12_reaches_9 : decode cX12_reaches 9 = .ok (.aload_n 0, 1) := by decide +kernel
theorem dX12_reaches_10 : decode cX12_reaches 10 = .ok (.getfield 36, 3) := by decide +kernel
theorem dX12_reaches_13 : decode cX12_reaches 13 = .ok (.iload_n 2, 1) := by decide +kernel
theorem dX12_reaches_14 : decode cX12_reaches 14 = .ok (.iaload, 1) := by decide +kernel
theorem dX12_reaches_15 : decode cX12_reaches 15 = .ok (.aload_n 0, 1) := by decide +kernel
theorem dX12_reaches_16 : decode cX12_reaches 16 = .ok (.iload_n 2, 1) := by decide +kernel
theorem dX12_reaches_17 : decode cX12_reaches 17 = .ok (.iconst 0, 1) := by decide +kernel
theorem dX12_reaches_18 : decode cX12_reaches 18 = .ok (.invokevirtual 316, 3) := by decide +kernel
theorem dX12_reaches_21 : decode cX12_reaches 21 = .ok (.iadd, 1) := by decide +kernel
theorem dX12_reaches_22 : decode cX12_reaches 22 = .ok (.iconst 1, 1) := by decide +kernel
theorem dX12_reaches_23 : decode cX12_reaches 23 = .ok (.isub, 1) := by decide +kernel
theorem dX12_reaches_24 : decode cX12_reaches 24 = .ok (.if_icmp .gt 25, 3) := by decide +kernel
theorem dX12_reaches_27 : decode cX12_reaches 27 = .ok (.aload_n 0, 1) := by decide +kernel
theorem dX12_reaches_28 : decode cX12_reaches 28 = .ok (.getfield 13, 3) := by decide +kernel
theorem dX12_reaches_31 : decode cX12_reaches 31 = .ok (.bipush 35, 2) := by decide +kernel
theorem dX12_reaches_33 : decode cX12_reaches 33 = .ok (.iload_n 1, 1) := by decide +kernel
theorem dX12_reaches_34 : decode cX12_reaches 34 = .ok (.iadd, 1) := by decide +kernel
theorem dX12_reaches_35 : decode cX12_reaches 35 = .ok (.iaload, 1) := by decide +kernel
theorem dX12_reaches_36 : decode cX12_reaches 36 = .ok (.aload_n 0, 1) := by decide +kernel
theorem dX12_reaches_37 : decode cX12_reaches 37 = .ok (.getfield 36, 3) := by decide +kernel
theorem dX12_reaches_40 : decode cX12_reaches 40 = .ok (.iload_n 2, 1) := by decide +kernel
theorem dX12_reaches_41 : decode cX12_reaches 41 = .ok (.iaload, 1) := by decide +kernel
theorem dX12_reaches_42 : decode cX12_reaches 42 = .ok (.if_icmp .lt 7, 3) := by decide +kernel
theorem dX12_reaches_45 : decode cX12_reaches 45 = .ok (.iconst 1, 1) := by decide +kernel
theorem dX12_reaches_46 : decode cX12_reaches 46 = .ok (.goto 4, 3) := by decide +kernel
theorem dX12_reaches_49 : decode cX12_reaches 49 = .ok (.iconst 0, 1) := by decide +kernel
theorem dX12_reaches_50 : decode cX12_reaches 50 = .ok (.ireturn, 1) := by decide +kernel
theorem dX12_takesCranes_0 : decode cX12_takesCranes 0 = .ok (.aload_n 0, 1) := by decide +kernel
theorem dX12_takesCranes_1 : decode cX12_takesCranes 1 = .ok (.getfield 42, 3) := by decide +kernel
theorem dX12_takesCranes_4 : decode cX12_takesCranes 4 = .ok (.iload_n 1, 1) := by decide +kernel
theorem dX12_takesCranes_5 : decode cX12_takesCranes 5 = .ok (.iaload, 1) := by decide +kernel
theorem dX12_takesCranes_6 : decode cX12_takesCranes 6 = .ok (.istore 4, 2) := by decide +kernel
theorem dX12_takesCranes_8 : decode cX12_takesCranes 8 = .ok (.iload_n 2, 1) := by decide +kernel
theorem dX12_takesCranes_9 : decode cX12_takesCranes 9 = .ok (.istore 5, 2) := by decide +kernel
theorem dX12_takesCranes_11 : decode cX12_takesCranes 11 = .ok (.iload 5, 2) := by decide +kernel
theorem dX12_takesCranes_13 : decode cX12_takesCranes 13 = .ok (.aload_n 0, 1) := by decide +kernel
theorem dX12_takesCranes_14 : decode cX12_takesCranes 14 = .ok (.getfield 13, 3) := by decide +kernel
theorem dX12_takesCranes_17 : decode cX12_takesCranes 17 = .ok (.bipush 7, 2) := by decide +kernel
theorem dX12_takesCranes_19 : decode cX12_takesCranes 19 = .ok (.iaload, 1) := by decide +kernel
theorem dX12_takesCranes_20 : decode cX12_takesCranes 20 = .ok (.if_icmp .ge 52, 3) := by decide +kernel
theorem dX12_takesCranes_23 : decode cX12_takesCranes 23 = .ok (.iload 5, 2) := by decide +kernel
theorem dX12_takesCranes_25 : decode cX12_takesCranes 25 = .ok (.iload_n 3, 1) := by decide +kernel
theorem dX12_takesCranes_26 : decode cX12_takesCranes 26 = .ok (.if_icmp .eq 40, 3) := by decide +kernel
theorem dX12_takesCranes_29 : decode cX12_takesCranes 29 = .ok (.aload_n 0, 1) := by decide +kernel
theorem dX12_takesCranes_30 : decode cX12_takesCranes 30 = .ok (.iload 5, 2) := by decide +kernel
theorem dX12_takesCranes_32 : decode cX12_takesCranes 32 = .ok (.iload_n 1, 1) := by decide +kernel
theorem dX12_takesCranes_33 : decode cX12_takesCranes 33 = .ok (.invokevirtual 340, 3) := by decide +kernel
theorem dX12_takesCranes_36 : decode cX12_takesCranes 36 = .ok (.ifCond .ne 6, 3) := by decide +kernel
theorem dX12_takesCranes_39 : decode cX12_takesCranes 39 = .ok (.goto 27, 3) := by decide +kernel
theorem dX12_takesCranes_42 : decode cX12_takesCranes 42 = .ok (.aload_n 0, 1) := by decide +kernel
theorem dX12_takesCranes_43 : decode cX12_takesCranes 43 = .ok (.getfield 51, 3) := by decide +kernel
theorem dX12_takesCranes_46 : decode cX12_takesCranes 46 = .ok (.iload 5, 2) := by decide +kernel
theorem dX12_takesCranes_48 : decode cX12_takesCranes 48 = .ok (.iload_n 1, 1) := by decide +kernel
theorem dX12_takesCranes_49 : decode cX12_takesCranes 49 = .ok (.iastore, 1) := by decide +kernel
theorem dX12_takesCranes_50 : decode cX12_takesCranes 50 = .ok (.iload 4, 2) := by decide +kernel
theorem dX12_takesCranes_52 : decode cX12_takesCranes 52 = .ok (.iconst 1, 1) := by decide +kernel
theorem dX12_takesCranes_53 : decode cX12_takesCranes 53 = .ok (.isub, 1) := by decide +kernel
theorem dX12_takesCranes_54 : decode cX12_takesCranes 54 = .ok (.istore 4, 2) := by decide +kernel
theorem dX12_takesCranes_56 : decode cX12_takesCranes 56 = .ok (.iload 4, 2) := by decide +kernel
theorem dX12_takesCranes_58 : decode cX12_takesCranes 58 = .ok (.ifCond .ne 8, 3) := by decide +kernel
theorem dX12_takesCranes_61 : decode cX12_takesCranes 61 = .ok (.iload 5, 2) := by decide +kernel
theorem dX12_takesCranes_63 : decode cX12_takesCranes 63 = .ok (.iconst 1, 1) := by decide +kernel
theorem dX12_takesCranes_64 : decode cX12_takesCranes 64 = .ok (.iadd, 1) := by decide +kernel
theorem dX12_takesCranes_65 : decode cX12_takesCranes 65 = .ok (.ireturn, 1) := by decide +kernel
theorem dX12_takesCranes_66 : decode cX12_takesCranes 66 = .ok (.iinc 5 1, 3) := by decide +kernel
theorem dX12_takesCranes_69 : decode cX12_takesCranes 69 = .ok (.goto (-58), 3) := by decide +kernel
theorem dX12_takesCranes_72 : decode cX12_takesCranes 72 = .ok (.iconst (-1), 1) := by decide +kernel
theorem dX12_takesCranes_73 : decode cX12_takesCranes 73 = .ok (.ireturn, 1) := by decide +kernel
theorem dX12_deals_0 : decode cX12_deals 0 = .ok (.iconst 0, 1) := by decide +kernel
theorem dX12_deals_1 : decode cX12_deals 1 = .ok (.istore_n 3, 1) := by decide +kernel
theorem dX12_deals_2 : decode cX12_deals 2 = .ok (.iload_n 3, 1) := by decide +kernel
theorem dX12_deals_3 : decode cX12_deals 3 = .ok (.bipush 8, 2) := by decide +kernel
theorem dX12_deals_5 : decode cX12_deals 5 = .ok (.if_icmp .ge 16, 3) := by decide +kernel
theorem dX12_deals_8 : decode cX12_deals 8 = .ok (.aload_n 0, 1) := by decide +kernel
theorem dX12_deals_9 : decode cX12_deals 9 = .ok (.getfield 51, 3) := by decide +kernel
theorem dX12_deals_12 : decode cX12_deals 12 = .ok (.iload_n 3, 1) := by decide +kernel
theorem dX12_deals_13 : decode cX12_deals 13 = .ok (.iconst (-1), 1) := by decide +kernel
theorem dX12_deals_14 : decode cX12_deals 14 = .ok (.iastore, 1) := by decide +kernel
theorem dX12_deals_15 : decode cX12_deals 15 = .ok (.iinc 3 1, 3) := by decide +kernel
theorem dX12_deals_18 : decode cX12_deals 18 = .ok (.goto (-16), 3) := by decide +kernel
theorem dX12_deals_21 : decode cX12_deals 21 = .ok (.iconst 0, 1) := by decide +kernel
theorem dX12_deals_22 : decode cX12_deals 22 = .ok (.istore_n 3, 1) := by decide +kernel
theorem dX12_deals_23 : decode cX12_deals 23 = .ok (.aload_n 0, 1) := by decide +kernel
theorem dX12_deals_24 : decode cX12_deals 24 = .ok (.iload_n 1, 1) := by decide +kernel
theorem dX12_deals_25 : decode cX12_deals 25 = .ok (.iconst (-1), 1) := by decide +kernel
theorem dX12_deals_26 : decode cX12_deals 26 = .ok (.invokevirtual 343, 3) := by decide +kernel
theorem dX12_deals_29 : decode cX12_deals 29 = .ok (.istore 4, 2) := by decide +kernel
theorem dX12_deals_31 : decode cX12_deals 31 = .ok (.iload 4, 2) := by decide +kernel
theorem dX12_deals_33 : decode cX12_deals 33 = .ok (.iconst (-1), 1) := by decide +kernel
theorem dX12_deals_34 : decode cX12_deals 34 = .ok (.if_icmp .eq 36, 3) := by decide +kernel
theorem dX12_deals_37 : decode cX12_deals 37 = .ok (.aload_n 0, 1) := by decide +kernel
theorem dX12_deals_38 : decode cX12_deals 38 = .ok (.iload 4, 2) := by decide +kernel
theorem dX12_deals_40 : decode cX12_deals 40 = .ok (.iload_n 3, 1) := by decide +kernel
theorem dX12_deals_41 : decode cX12_deals 41 = .ok (.iload_n 2, 1) := by decide +kernel
theorem dX12_deals_42 : decode cX12_deals 42 = .ok (.invokevirtual 346, 3) := by decide +kernel
theorem dX12_deals_45 : decode cX12_deals 45 = .ok (.istore_n 3, 1) := by decide +kernel
theorem dX12_deals_46 : decode cX12_deals 46 = .ok (.iload_n 3, 1) := by decide +kernel
theorem dX12_deals_47 : decode cX12_deals 47 = .ok (.iconst (-1), 1) := by decide +kernel
theorem dX12_deals_48 : decode cX12_deals 48 = .ok (.if_icmp .ne 5, 3) := by decide +kernel
theorem dX12_deals_51 : decode cX12_deals 51 = .ok (.iconst 0, 1) := by decide +kernel
theorem dX12_deals_52 : decode cX12_deals 52 = .ok (.ireturn, 1) := by decide +kernel
theorem dX12_deals_53 : decode cX12_deals 53 = .ok (.aload_n 0, 1) := by decide +kernel
theorem dX12_deals_54 : decode cX12_deals 54 = .ok (.iload_n 1, 1) := by decide +kernel
theorem dX12_deals_55 : decode cX12_deals 55 = .ok (.aload_n 0, 1) := by decide +kernel
theorem dX12_deals_56 : decode cX12_deals 56 = .ok (.getfield 36, 3) := by decide +kernel
theorem dX12_deals_59 : decode cX12_deals 59 = .ok (.iload 4, 2) := by decide +kernel
theorem dX12_deals_61 : decode cX12_deals 61 = .ok (.iaload, 1) := by decide +kernel
theorem dX12_deals_62 : decode cX12_deals 62 = .ok (.invokevirtual 343, 3) := by decide +kernel
theorem dX12_deals_65 : decode cX12_deals 65 = .ok (.istore 4, 2) := by decide +kernel
theorem dX12_deals_67 : decode cX12_deals 67 = .ok (.goto (-36), 3) := by decide +kernel
theorem dX12_deals_70 : decode cX12_deals 70 = .ok (.iconst 1, 1) := by decide +kernel
theorem dX12_deals_71 : decode cX12_deals 71 = .ok (.ireturn, 1) := by decide +kernel
theorem dX12_cranesIn_0 : decode cX12_cranesIn 0 = .ok (.iconst 0, 1) := by decide +kernel
theorem dX12_cranesIn_1 : decode cX12_cranesIn 1 = .ok (.istore_n 2, 1) := by decide +kernel
theorem dX12_cranesIn_2 : decode cX12_cranesIn 2 = .ok (.iconst 0, 1) := by decide +kernel
theorem dX12_cranesIn_3 : decode cX12_cranesIn 3 = .ok (.istore_n 3, 1) := by decide +kernel
theorem dX12_cranesIn_4 : decode cX12_cranesIn 4 = .ok (.iload_n 3, 1) := by decide +kernel
theorem dX12_cranesIn_5 : decode cX12_cranesIn 5 = .ok (.aload_n 0, 1) := by decide +kernel
theorem dX12_cranesIn_6 : decode cX12_cranesIn 6 = .ok (.getfield 13, 3) := by decide +kernel
theorem dX12_cranesIn_9 : decode cX12_cranesIn 9 = .ok (.bipush 9, 2) := by decide +kernel
theorem dX12_cranesIn_11 : decode cX12_cranesIn 11 = .ok (.iaload, 1) := by decide +kernel
theorem dX12_cranesIn_12 : decode cX12_cranesIn 12 = .ok (.if_icmp .ge 31, 3) := by decide +kernel
theorem dX12_cranesIn_15 : decode cX12_cranesIn 15 = .ok (.aload_n 0, 1) := by decide +kernel
theorem dX12_cranesIn_16 : decode cX12_cranesIn 16 = .ok (.iload_n 3, 1) := by decide +kernel
theorem dX12_cranesIn_17 : decode cX12_cranesIn 17 = .ok (.iload_n 1, 1) := by decide +kernel
theorem dX12_cranesIn_18 : decode cX12_cranesIn 18 = .ok (.invokevirtual 337, 3) := by decide +kernel
theorem dX12_cranesIn_21 : decode cX12_cranesIn 21 = .ok (.ifCond .eq 14, 3) := by decide +kernel
theorem dX12_cranesIn_24 : decode cX12_cranesIn 24 = .ok (.iload_n 2, 1) := by decide +kernel
theorem dX12_cranesIn_25 : decode cX12_cranesIn 25 = .ok (.aload_n 0, 1) := by decide +kernel
theorem dX12_cranesIn_26 : decode cX12_cranesIn 26 = .ok (.getfield 42, 3) := by decide +kernel
theorem dX12_cranesIn_29 : decode cX12_cranesIn 29 = .ok (.iload_n 3, 1) := by decide +kernel
theorem dX12_cranesIn_30 : decode cX12_cranesIn 30 = .ok (.iaload, 1) := by decide +kernel
theorem dX12_cranesIn_31 : decode cX12_cranesIn 31 = .ok (.iadd, 1) := by decide +kernel
theorem dX12_cranesIn_32 : decode cX12_cranesIn 32 = .ok (.goto 4, 3) := by decide +kernel
theorem dX12_cranesIn_35 : decode cX12_cranesIn 35 = .ok (.iload_n 2, 1) := by decide +kernel
theorem dX12_cranesIn_36 : decode cX12_cranesIn 36 = .ok (.istore_n 2, 1) := by decide +kernel
theorem dX12_cranesIn_37 : decode cX12_cranesIn 37 = .ok (.iinc 3 1, 3) := by decide +kernel
theorem dX12_cranesIn_40 : decode cX12_cranesIn 40 = .ok (.goto (-36), 3) := by decide +kernel
theorem dX12_cranesIn_43 : decode cX12_cranesIn 43 = .ok (.iload_n 2, 1) := by decide +kernel
theorem dX12_cranesIn_44 : decode cX12_cranesIn 44 = .ok (.ireturn, 1) := by decide +kernel
theorem dX12_earlyLaw_0 : decode cX12_earlyLaw 0 = .ok (.lload_n 2, 1) := by decide +kernel
theorem dX12_earlyLaw_1 : decode cX12_earlyLaw 1 = .ok (.lconst 0, 1) := by decide +kernel
theorem dX12_earlyLaw_2 : decode cX12_earlyLaw 2 = .ok (.lcmp, 1) := by decide +kernel
theorem dX12_earlyLaw_3 : decode cX12_earlyLaw 3 = .ok (.ifCond .lt 23, 3) := by decide +kernel
theorem dX12_earlyLaw_6 : decode cX12_earlyLaw 6 = .ok (.lload_n 2, 1) := by decide +kernel
theorem dX12_earlyLaw_7 : decode cX12_earlyLaw 7 = .ok (.aload_n 0, 1) := by decide +kernel
theorem dX12_earlyLaw_8 : decode cX12_earlyLaw 8 = .ok (.iload_n 1, 1) := by decide +kernel
theorem dX12_earlyLaw_9 : decode cX12_earlyLaw 9 = .ok (.iconst 0, 1) := by decide +kernel
theorem dX12_earlyLaw_10 : decode cX12_earlyLaw 10 = .ok (.invokevirtual 316, 3) := by decide +kernel
theorem dX12_earlyLaw_13 : decode cX12_earlyLaw 13 = .ok (.i2l, 1) := by decide +kernel
theorem dX12_earlyLaw_14 : decode cX12_earlyLaw 14 = .ok (.ladd, 1) := by decide +kernel
theorem dX12_earlyLaw_15 : decode cX12_earlyLaw 15 = .ok (.aload_n 0, 1) := by decide +kernel
theorem dX12_earlyLaw_16 : decode cX12_earlyLaw 16 = .ok (.getfield 13, 3) := by decide +kernel
theorem dX12_earlyLaw_19 : decode cX12_earlyLaw 19 = .ok (.iconst 0, 1) := by decide +kernel
theorem dX12_earlyLaw_20 : decode cX12_earlyLaw 20 = .ok (.iaload, 1) := by decide +kernel
theorem dX12_earlyLaw_21 : decode cX12_earlyLaw 21 = .ok (.i2l, 1) := by decide +kernel
theorem dX12_earlyLaw_22 : decode cX12_earlyLaw 22 = .ok (.lcmp, 1) := by decide +kernel
theorem dX12_earlyLaw_23 : decode cX12_earlyLaw 23 = .ok (.ifCond .le 5, 3) := by decide +kernel
theorem dX12_earlyLaw_26 : decode cX12_earlyLaw 26 = .ok (.iconst 1, 1) := by decide +kernel
theorem dX12_earlyLaw_27 : decode cX12_earlyLaw 27 = .ok (.ireturn, 1) := by decide +kernel
theorem dX12_earlyLaw_28 : decode cX12_earlyLaw 28 = .ok (.lload 4, 2) := by decide +kernel
theorem dX12_earlyLaw_30 : decode cX12_earlyLaw 30 = .ok (.aload_n 0, 1) := by decide +kernel
theorem dX12_earlyLaw_31 : decode cX12_earlyLaw 31 = .ok (.iload_n 1, 1) := by decide +kernel
theorem dX12_earlyLaw_32 : decode cX12_earlyLaw 32 = .ok (.iconst 4, 1) := by decide +kernel
theorem dX12_earlyLaw_33 : decode cX12_earlyLaw 33 = .ok (.invokevirtual 316, 3) := by decide +kernel
theorem dX12_earlyLaw_36 : decode cX12_earlyLaw 36 = .ok (.i2l, 1) := by decide +kernel
theorem dX12_earlyLaw_37 : decode cX12_earlyLaw 37 = .ok (.lcmp, 1) := by decide +kernel
theorem dX12_earlyLaw_38 : decode cX12_earlyLaw 38 = .ok (.ifCond .ge 5, 3) := by decide +kernel
theorem dX12_earlyLaw_41 : decode cX12_earlyLaw 41 = .ok (.iconst 2, 1) := by decide +kernel
theorem dX12_earlyLaw_42 : decode cX12_earlyLaw 42 = .ok (.ireturn, 1) := by decide +kernel
theorem dX12_earlyLaw_43 : decode cX12_earlyLaw 43 = .ok (.iload 6, 2) := by decide +kernel
theorem dX12_earlyLaw_45 : decode cX12_earlyLaw 45 = .ok (.aload_n 0, 1) := by decide +kernel
theorem dX12_earlyLaw_46 : decode cX12_earlyLaw 46 = .ok (.iload_n 1, 1) := by decide +kernel
theorem dX12_earlyLaw_47 : decode cX12_earlyLaw 47 = .ok (.bipush 7, 2) := by decide +kernel
theorem dX12_earlyLaw_49 : decode cX12_earlyLaw 49 = .ok (.invokevirtual 316, 3) := by decide +kernel
theorem dX12_earlyLaw_52 : decode cX12_earlyLaw 52 = .ok (.if_icmp .lt 15, 3) := by decide +kernel
theorem dX12_earlyLaw_55 : decode cX12_earlyLaw 55 = .ok (.iload 6, 2) := by decide +kernel
theorem dX12_earlyLaw_57 : decode cX12_earlyLaw 57 = .ok (.aload_n 0, 1) := by decide +kernel
theorem dX12_earlyLaw_58 : decode cX12_earlyLaw 58 = .ok (.iload_n 1, 1) := by decide +kernel
theorem dX12_earlyLaw_59 : decode cX12_earlyLaw 59 = .ok (.bipush 8, 2) := by decide +kernel
theorem dX12_earlyLaw_61 : decode cX12_earlyLaw 61 = .ok (.invokevirtual 316, 3) := by decide +kernel
theorem dX12_earlyLaw_64 : decode cX12_earlyLaw 64 = .ok (.if_icmp .le 5, 3) := by decide +kernel
theorem dX12_earlyLaw_67 : decode cX12_earlyLaw 67 = .ok (.iconst 3, 1) := by decide +kernel
theorem dX12_earlyLaw_68 : decode cX12_earlyLaw 68 = .ok (.ireturn, 1) := by decide +kernel
theorem dX12_earlyLaw_69 : decode cX12_earlyLaw 69 = .ok (.lload 4, 2) := by decide +kernel
theorem dX12_earlyLaw_71 : decode cX12_earlyLaw 71 = .ok (.ldc2_w 255, 3) := by decide +kernel
theorem dX12_earlyLaw_74 : decode cX12_earlyLaw 74 = .ok (.lcmp, 1) := by decide +kernel
theorem dX12_earlyLaw_75 : decode cX12_earlyLaw 75 = .ok (.ifCond .gt 19, 3) := by decide +kernel
theorem dX12_earlyLaw_78 : decode cX12_earlyLaw 78 = .ok (.aload_n 0, 1) := by decide +kernel
theorem dX12_earlyLaw_79 : decode cX12_earlyLaw 79 = .ok (.aload_n 0, 1) := by decide +kernel
theorem dX12_earlyLaw_80 : decode cX12_earlyLaw 80 = .ok (.iload_n 1, 1) := by decide +kernel
theorem dX12_earlyLaw_81 : decode cX12_earlyLaw 81 = .ok (.iconst 1, 1) := by decide +kernel
theorem dX12_earlyLaw_82 : decode cX12_earlyLaw 82 = .ok (.invokevirtual 316, 3) := by decide +kernel
theorem dX12_earlyLaw_85 : decode cX12_earlyLaw 85 = .ok (.lload 4, 2) := by decide +kernel
theorem dX12_earlyLaw_87 : decode cX12_earlyLaw 87 = .ok (.l2i, 1) := by decide +kernel
theorem dX12_earlyLaw_88 : decode cX12_earlyLaw 88 = .ok (.invokevirtual 308, 3) := by decide +kernel
theorem dX12_earlyLaw_91 : decode cX12_earlyLaw 91 = .ok (.ifCond .ne 5, 3) := by decide +kernel
theorem dX12_earlyLaw_94 : decode cX12_earlyLaw 94 = .ok (.iconst 4, 1) := by decide +kernel
theorem dX12_earlyLaw_95 : decode cX12_earlyLaw 95 = .ok (.ireturn, 1) := by decide +kernel
theorem dX12_earlyLaw_96 : decode cX12_earlyLaw 96 = .ok (.aload_n 0, 1) := by decide +kernel
theorem dX12_earlyLaw_97 : decode cX12_earlyLaw 97 = .ok (.iload_n 1, 1) := by decide +kernel
theorem dX12_earlyLaw_98 : decode cX12_earlyLaw 98 = .ok (.lload 4, 2) := by decide +kernel
theorem dX12_earlyLaw_100 : decode cX12_earlyLaw 100 = .ok (.l2i, 1) := by decide +kernel
theorem dX12_earlyLaw_101 : decode cX12_earlyLaw 101 = .ok (.iload 6, 2) := by decide +kernel
theorem dX12_earlyLaw_103 : decode cX12_earlyLaw 103 = .ok (.invokevirtual 322, 3) := by decide +kernel
theorem dX12_earlyLaw_106 : decode cX12_earlyLaw 106 = .ok (.iconst (-1), 1) := by decide +kernel
theorem dX12_earlyLaw_107 : decode cX12_earlyLaw 107 = .ok (.if_icmp .ne 7, 3) := by decide +kernel
theorem dX12_earlyLaw_110 : decode cX12_earlyLaw 110 = .ok (.iconst 5, 1) := by decide +kernel
theorem dX12_earlyLaw_111 : decode cX12_earlyLaw 111 = .ok (.goto 4, 3) := by decide +kernel
theorem dX12_earlyLaw_114 : decode cX12_earlyLaw 114 = .ok (.iconst 0, 1) := by decide +kernel
theorem dX12_earlyLaw_115 : decode cX12_earlyLaw 115 = .ok (.ireturn, 1) := by decide +kernel
theorem dX12_lowestIn_0 : decode cX12_lowestIn 0 = .ok (.aload_n 0, 1) := by decide +kernel
theorem dX12_lowestIn_1 : decode cX12_lowestIn 1 = .ok (.getfield 33, 3) := by decide +kernel
theorem dX12_lowestIn_4 : decode cX12_lowestIn 4 = .ok (.aload_n 0, 1) := by decide +kernel
theorem dX12_lowestIn_5 : decode cX12_lowestIn 5 = .ok (.getfield 39, 3) := by decide +kernel
theorem dX12_lowestIn_8 : decode cX12_lowestIn 8 = .ok (.iload_n 1, 1) := by decide +kernel
theorem dX12_lowestIn_9 : decode cX12_lowestIn 9 = .ok (.iaload, 1) := by decide +kernel
theorem dX12_lowestIn_10 : decode cX12_lowestIn 10 = .ok (.iaload, 1) := by decide +kernel
theorem dX12_lowestIn_11 : decode cX12_lowestIn 11 = .ok (.istore_n 2, 1) := by decide +kernel
theorem dX12_lowestIn_12 : decode cX12_lowestIn 12 = .ok (.aload_n 0, 1) := by decide +kernel
theorem dX12_lowestIn_13 : decode cX12_lowestIn 13 = .ok (.getfield 39, 3) := by decide +kernel
theorem dX12_lowestIn_16 : decode cX12_lowestIn 16 = .ok (.iload_n 1, 1) := by decide +kernel
theorem dX12_lowestIn_17 : decode cX12_lowestIn 17 = .ok (.iaload, 1) := by decide +kernel
theorem dX12_lowestIn_18 : decode cX12_lowestIn 18 = .ok (.istore_n 3, 1) := by decide +kernel
theorem dX12_lowestIn_19 : decode cX12_lowestIn 19 = .ok (.iload_n 3, 1) := by decide +kernel
theorem dX12_lowestIn_20 : decode cX12_lowestIn 20 = .ok (.aload_n 0, 1) := by decide +kernel
theorem dX12_lowestIn_21 : decode cX12_lowestIn 21 = .ok (.getfield 48, 3) := by decide +kernel
theorem dX12_lowestIn_24 : decode cX12_lowestIn 24 = .ok (.iload_n 1, 1) := by decide +kernel
theorem dX12_lowestIn_25 : decode cX12_lowestIn 25 = .ok (.iaload, 1) := by decide +kernel
theorem dX12_lowestIn_26 : decode cX12_lowestIn 26 = .ok (.if_icmp .ge 30, 3) := by decide +kernel
theorem dX12_lowestIn_29 : decode cX12_lowestIn 29 = .ok (.aload_n 0, 1) := by decide +kernel
theorem dX12_lowestIn_30 : decode cX12_lowestIn 30 = .ok (.getfield 33, 3) := by decide +kernel
theorem dX12_lowestIn_33 : decode cX12_lowestIn 33 = .ok (.iload_n 3, 1) := by decide +kernel
theorem dX12_lowestIn_34 : decode cX12_lowestIn 34 = .ok (.iaload, 1) := by decide +kernel
theorem dX12_lowestIn_35 : decode cX12_lowestIn 35 = .ok (.iload_n 2, 1) := by decide +kernel
theorem dX12_lowestIn_36 : decode cX12_lowestIn 36 = .ok (.if_icmp .ge 12, 3) := by decide +kernel
theorem dX12_lowestIn_39 : decode cX12_lowestIn 39 = .ok (.aload_n 0, 1) := by decide +kernel
theorem dX12_lowestIn_40 : decode cX12_lowestIn 40 = .ok (.getfield 33, 3) := by decide +kernel
theorem dX12_lowestIn_43 : decode cX12_lowestIn 43 = .ok (.iload_n 3, 1) := by decide +kernel
theorem dX12_lowestIn_44 : decode cX12_lowestIn 44 = .ok (.iaload, 1) := by decide +kernel
theorem dX12_lowestIn_45 : decode cX12_lowestIn 45 = .ok (.goto 4, 3) := by decide +kernel
theorem dX12_lowestIn_48 : decode cX12_lowestIn 48 = .ok (.iload_n 2, 1) := by decide +kernel
theorem dX12_lowestIn_49 : decode cX12_lowestIn 49 = .ok (.istore_n 2, 1) := by decide +kernel
theorem dX12_lowestIn_50 : decode cX12_lowestIn 50 = .ok (.iinc 3 1, 3) := by decide +kernel
theorem dX12_lowestIn_53 : decode cX12_lowestIn 53 = .ok (.goto (-34), 3) := by decide +kernel
theorem dX12_lowestIn_56 : decode cX12_lowestIn 56 = .ok (.iload_n 2, 1) := by decide +kernel
theorem dX12_lowestIn_57 : decode cX12_lowestIn 57 = .ok (.ireturn, 1) := by decide +kernel
theorem dX12_needOf_0 : decode cX12_needOf 0 = .ok (.aload_n 0, 1) := by decide +kernel
theorem dX12_needOf_1 : decode cX12_needOf 1 = .ok (.iload_n 1, 1) := by decide +kernel
theorem dX12_needOf_2 : decode cX12_needOf 2 = .ok (.iconst 1, 1) := by decide +kernel
theorem dX12_needOf_3 : decode cX12_needOf 3 = .ok (.invokevirtual 316, 3) := by decide +kernel
theorem dX12_needOf_6 : decode cX12_needOf 6 = .ok (.aload_n 0, 1) := by decide +kernel
theorem dX12_needOf_7 : decode cX12_needOf 7 = .ok (.iload_n 1, 1) := by decide +kernel
theorem dX12_needOf_8 : decode cX12_needOf 8 = .ok (.iconst 2, 1) := by decide +kernel
theorem dX12_needOf_9 : decode cX12_needOf 9 = .ok (.invokevirtual 316, 3) := by decide +kernel
theorem dX12_needOf_12 : decode cX12_needOf 12 = .ok (.if_icmp .le 12, 3) := by decide +kernel
theorem dX12_needOf_15 : decode cX12_needOf 15 = .ok (.aload_n 0, 1) := by decide +kernel
theorem dX12_needOf_16 : decode cX12_needOf 16 = .ok (.iload_n 1, 1) := by decide +kernel
theorem dX12_needOf_17 : decode cX12_needOf 17 = .ok (.iconst 1, 1) := by decide +kernel
theorem dX12_needOf_18 : decode cX12_needOf 18 = .ok (.invokevirtual 316, 3) := by decide +kernel
theorem dX12_needOf_21 : decode cX12_needOf 21 = .ok (.goto 9, 3) := by decide +kernel
theorem dX12_needOf_24 : decode cX12_needOf 24 = .ok (.aload_n 0, 1) := by decide +kernel
theorem dX12_needOf_25 : decode cX12_needOf 25 = .ok (.iload_n 1, 1) := by decide +kernel
theorem dX12_needOf_26 : decode cX12_needOf 26 = .ok (.iconst 2, 1) := by decide +kernel
theorem dX12_needOf_27 : decode cX12_needOf 27 = .ok (.invokevirtual 316, 3) := by decide +kernel
theorem dX12_needOf_30 : decode cX12_needOf 30 = .ok (.istore_n 2, 1) := by decide +kernel
theorem dX12_needOf_31 : decode cX12_needOf 31 = .ok (.iload_n 2, 1) := by decide +kernel
theorem dX12_needOf_32 : decode cX12_needOf 32 = .ok (.aload_n 0, 1) := by decide +kernel
theorem dX12_needOf_33 : decode cX12_needOf 33 = .ok (.getfield 13, 3) := by decide +kernel
theorem dX12_needOf_36 : decode cX12_needOf 36 = .ok (.iconst 2, 1) := by decide +kernel
theorem dX12_needOf_37 : decode cX12_needOf 37 = .ok (.iaload, 1) := by decide +kernel
theorem dX12_needOf_38 : decode cX12_needOf 38 = .ok (.iadd, 1) := by decide +kernel
theorem dX12_needOf_39 : decode cX12_needOf 39 = .ok (.ireturn, 1) := by decide +kernel
theorem dX12_lastMetre_0 : decode cX12_lastMetre 0 = .ok (.aload_n 0, 1) := by decide +kernel
theorem dX12_lastMetre_1 : decode cX12_lastMetre 1 = .ok (.getfield 36, 3) := by decide +kernel
theorem dX12_lastMetre_4 : decode cX12_lastMetre 4 = .ok (.iload_n 1, 1) := by decide +kernel
theorem dX12_lastMetre_5 : decode cX12_lastMetre 5 = .ok (.iaload, 1) := by decide +kernel
theorem dX12_lastMetre_6 : decode cX12_lastMetre 6 = .ok (.aload_n 0, 1) := by decide +kernel
theorem dX12_lastMetre_7 : decode cX12_lastMetre 7 = .ok (.iload_n 1, 1) := by decide +kernel
theorem dX12_lastMetre_8 : decode cX12_lastMetre 8 = .ok (.iconst 0, 1) := by decide +kernel
theorem dX12_lastMetre_9 : decode cX12_lastMetre 9 = .ok (.invokevirtual 316, 3) := by decide +kernel
theorem dX12_lastMetre_12 : decode cX12_lastMetre 12 = .ok (.iadd, 1) := by decide +kernel
theorem dX12_lastMetre_13 : decode cX12_lastMetre 13 = .ok (.iconst 1, 1) := by decide +kernel
theorem dX12_lastMetre_14 : decode cX12_lastMetre 14 = .ok (.isub, 1) := by decide +kernel
theorem dX12_lastMetre_15 : decode cX12_lastMetre 15 = .ok (.ireturn, 1) := by decide +kernel
theorem dX12_areClose_0 : decode cX12_areClose 0 = .ok (.aload_n 0, 1) := by decide +kernel
theorem dX12_areClose_1 : decode cX12_areClose 1 = .ok (.getfield 36, 3) := by decide +kernel
theorem dX12_areClose_4 : decode cX12_areClose 4 = .ok (.iload_n 1, 1) := by decide +kernel
theorem dX12_areClose_5 : decode cX12_areClose 5 = .ok (.iaload, 1) := by decide +kernel
theorem dX12_areClose_6 : decode cX12_areClose 6 = .ok (.aload_n 0, 1) := by decide +kernel
theorem dX12_areClose_7 : decode cX12_areClose 7 = .ok (.iload_n 2, 1) := by decide +kernel
theorem dX12_areClose_8 : decode cX12_areClose 8 = .ok (.invokevirtual 349, 3) := by decide +kernel
theorem dX12_areClose_11 : decode cX12_areClose 11 = .ok (.isub, 1) := by decide +kernel
theorem dX12_areClose_12 : decode cX12_areClose 12 = .ok (.aload_n 0, 1) := by decide +kernel
theorem dX12_areClose_13 : decode cX12_areClose 13 = .ok (.getfield 13, 3) := by decide +kernel
theorem dX12_areClose_16 : decode cX12_areClose 16 = .ok (.iconst 1, 1) := by decide +kernel
theorem dX12_areClose_17 : decode cX12_areClose 17 = .ok (.iaload, 1) := by decide +kernel
theorem dX12_areClose_18 : decode cX12_areClose 18 = .ok (.if_icmp .gt 28, 3) := by decide +kernel
theorem dX12_areClose_21 : decode cX12_areClose 21 = .ok (.aload_n 0, 1) := by decide +kernel
theorem dX12_areClose_22 : decode cX12_areClose 22 = .ok (.getfield 36, 3) := by decide +kernel
theorem dX12_areClose_25 : decode cX12_areClose 25 = .ok (.iload_n 2, 1) := by decide +kernel
theorem dX12_areClose_26 : decode cX12_areClose 26 = .ok (.iaload, 1) := by decide +kernel
theorem dX12_areClose_27 : decode cX12_areClose 27 = .ok (.aload_n 0, 1) := by decide +kernel
theorem dX12_areClose_28 : decode cX12_areClose 28 = .ok (.iload_n 1, 1) := by decide +kernel
theorem dX12_areClose_29 : decode cX12_areClose 29 = .ok (.invokevirtual 349, 3) := by decide +kernel
theorem dX12_areClose_32 : decode cX12_areClose 32 = .ok (.isub, 1) := by decide +kernel
theorem dX12_areClose_33 : decode cX12_areClose 33 = .ok (.aload_n 0, 1) := by decide +kernel
theorem dX12_areClose_34 : decode cX12_areClose 34 = .ok (.getfield 13, 3) := by decide +kernel
theorem dX12_areClose_37 : decode cX12_areClose 37 = .ok (.iconst 1, 1) := by decide +kernel
theorem dX12_areClose_38 : decode cX12_areClose 38 = .ok (.iaload, 1) := by decide +kernel
theorem dX12_areClose_39 : decode cX12_areClose 39 = .ok (.if_icmp .gt 7, 3) := by decide +kernel
theorem dX12_areClose_42 : decode cX12_areClose 42 = .ok (.iconst 1, 1) := by decide +kernel
theorem dX12_areClose_43 : decode cX12_areClose 43 = .ok (.goto 4, 3) := by decide +kernel
theorem dX12_areClose_46 : decode cX12_areClose 46 = .ok (.iconst 0, 1) := by decide +kernel
theorem dX12_areClose_47 : decode cX12_areClose 47 = .ok (.ireturn, 1) := by decide +kernel
theorem dX12_shareSlots_0 : decode cX12_shareSlots 0 = .ok (.aload_n 0, 1) := by decide +kernel
theorem dX12_shareSlots_1 : decode cX12_shareSlots 1 = .ok (.getfield 39, 3) := by decide +kernel
theorem dX12_shareSlots_4 : decode cX12_shareSlots 4 = .ok (.iload_n 1, 1) := by decide +kernel
theorem dX12_shareSlots_5 : decode cX12_shareSlots 5 = .ok (.iaload, 1) := by decide +kernel
theorem dX12_shareSlots_6 : decode cX12_shareSlots 6 = .ok (.aload_n 0, 1) := by decide +kernel
theorem dX12_shareSlots_7 : decode cX12_shareSlots 7 = .ok (.getfield 48, 3) := by decide +kernel
theorem dX12_shareSlots_10 : decode cX12_shareSlots 10 = .ok (.iload_n 2, 1) := by decide +kernel
theorem dX12_shareSlots_11 : decode cX12_shareSlots 11 = .ok (.iaload, 1) := by decide +kernel
theorem dX12_shareSlots_12 : decode cX12_shareSlots 12 = .ok (.if_icmp .ge 22, 3) := by decide +kernel
theorem dX12_shareSlots_15 : decode cX12_shareSlots 15 = .ok (.aload_n 0, 1) := by decide +kernel
theorem dX12_shareSlots_16 : decode cX12_shareSlots 16 = .ok (.getfield 39, 3) := by decide +kernel
theorem dX12_shareSlots_19 : decode cX12_shareSlots 19 = .ok (.iload_n 2, 1) := by decide +kernel
theorem dX12_shareSlots_20 : decode cX12_shareSlots 20 = .ok (.iaload, 1) := by decide +kernel
theorem dX12_shareSlots_21 : decode cX12_shareSlots 21 = .ok (.aload_n 0, 1) := by decide +kernel
theorem dX12_shareSlots_22 : decode cX12_shareSlots 22 = .ok (.getfield 48, 3) := by decide +kernel
theorem dX12_shareSlots_25 : decode cX12_shareSlots 25 = .ok (.iload_n 1, 1) := by decide +kernel
theorem dX12_shareSlots_26 : decode cX12_shareSlots 26 = .ok (.iaload, 1) := by decide +kernel
theorem dX12_shareSlots_27 : decode cX12_shareSlots 27 = .ok (.if_icmp .ge 7, 3) := by decide +kernel
theorem dX12_shareSlots_30 : decode cX12_shareSlots 30 = .ok (.iconst 1, 1) := by decide +kernel
theorem dX12_shareSlots_31 : decode cX12_shareSlots 31 = .ok (.goto 4, 3) := by decide +kernel
theorem dX12_shareSlots_34 : decode cX12_shareSlots 34 = .ok (.iconst 0, 1) := by decide +kernel
theorem dX12_shareSlots_35 : decode cX12_shareSlots 35 = .ok (.ireturn, 1) := by decide +kernel
theorem dX12_waysOf_0 : decode cX12_waysOf 0 = .ok (.iconst 0, 1) := by decide +kernel
theorem dX12_waysOf_1 : decode cX12_waysOf 1 = .ok (.istore_n 2, 1) := by decide +kernel
theorem dX12_waysOf_2 : decode cX12_waysOf 2 = .ok (.iconst 0, 1) := by decide +kernel
theorem dX12_waysOf_3 : decode cX12_waysOf 3 = .ok (.istore_n 3, 1) := by decide +kernel
theorem dX12_waysOf_4 : decode cX12_waysOf 4 = .ok (.iload_n 3, 1) := by decide +kernel
theorem dX12_waysOf_5 : decode cX12_waysOf 5 = .ok (.aload_n 0, 1) := by decide +kernel
theorem dX12_waysOf_6 : decode cX12_waysOf 6 = .ok (.getfield 13, 3) := by decide +kernel
theorem dX12_waysOf_9 : decode cX12_waysOf 9 = .ok (.bipush 9, 2) := by decide +kernel
theorem dX12_waysOf_11 : decode cX12_waysOf 11 = .ok (.iaload, 1) := by decide +kernel
theorem dX12_waysOf_12 : decode cX12_waysOf 12 = .ok (.if_icmp .ge 49, 3) := by decide +kernel
theorem dX12_waysOf_15 : decode cX12_waysOf 15 = .ok (.iload_n 3, 1) := by decide +kernel
theorem dX12_waysOf_16 : decode cX12_waysOf 16 = .ok (.iload_n 1, 1) := by decide +kernel
theorem dX12_waysOf_17 : decode cX12_waysOf 17 = .ok (.if_icmp .eq 38, 3) := by decide +kernel
theorem dX12_waysOf_20 : decode cX12_waysOf 20 = .ok (.aload_n 0, 1) := by decide +kernel
theorem dX12_waysOf_21 : decode cX12_waysOf 21 = .ok (.iload_n 3, 1) := by decide +kernel
theorem dX12_waysOf_22 : decode cX12_waysOf 22 = .ok (.invokevirtual 326, 3) := by decide +kernel
theorem dX12_waysOf_25 : decode cX12_waysOf 25 = .ok (.ifCond .eq 30, 3) := by decide +kernel
theorem dX12_waysOf_28 : decode cX12_waysOf 28 = .ok (.aload_n 0, 1) := by decide +kernel
theorem dX12_waysOf_29 : decode cX12_waysOf 29 = .ok (.iload_n 1, 1) := by decide +kernel
theorem dX12_waysOf_30 : decode cX12_waysOf 30 = .ok (.iload_n 3, 1) := by decide +kernel
theorem dX12_waysOf_31 : decode cX12_waysOf 31 = .ok (.invokevirtual 352, 3) := by decide +kernel
theorem dX12_waysOf_34 : decode cX12_waysOf 34 = .ok (.ifCond .eq 21, 3) := by decide +kernel
theorem dX12_waysOf_37 : decode cX12_waysOf 37 = .ok (.aload_n 0, 1) := by decide +kernel
theorem dX12_waysOf_38 : decode cX12_waysOf 38 = .ok (.iload_n 1, 1) := by decide +kernel
theorem dX12_waysOf_39 : decode cX12_waysOf 39 = .ok (.iload_n 3, 1) := by decide +kernel
theorem dX12_waysOf_40 : decode cX12_waysOf 40 = .ok (.invokevirtual 355, 3) := by decide +kernel
theorem dX12_waysOf_43 : decode cX12_waysOf 43 = .ok (.ifCond .ne 6, 3) := by decide +kernel
theorem dX12_waysOf_46 : decode cX12_waysOf 46 = .ok (.goto 9, 3) := by decide +kernel
theorem dX12_waysOf_49 : decode cX12_waysOf 49 = .ok (.iload_n 2, 1) := by decide +kernel
theorem dX12_waysOf_50 : decode cX12_waysOf 50 = .ok (.iconst 1, 1) := by decide +kernel
theorem dX12_waysOf_51 : decode cX12_waysOf 51 = .ok (.iload_n 3, 1) := by decide +kernel
theorem dX12_waysOf_52 : decode cX12_waysOf 52 = .ok (.ishl, 1) := by decide +kernel
theorem dX12_waysOf_53 : decode cX12_waysOf 53 = .ok (.ior, 1) := by decide +kernel
theorem dX12_waysOf_54 : decode cX12_waysOf 54 = .ok (.istore_n 2, 1) := by decide +kernel
theorem dX12_waysOf_55 : decode cX12_waysOf 55 = .ok (.iinc 3 1, 3) := by decide +kernel
theorem dX12_waysOf_58 : decode cX12_waysOf 58 = .ok (.goto (-54), 3) := by decide +kernel
theorem dX12_waysOf_61 : decode cX12_waysOf 61 = .ok (.iload_n 2, 1) := by decide +kernel
theorem dX12_waysOf_62 : decode cX12_waysOf 62 = .ok (.ireturn, 1) := by decide +kernel
theorem dX12_hasGangs_0 : decode cX12_hasGangs 0 = .ok (.aload_n 0, 1) := by decide +kernel
theorem dX12_hasGangs_1 : decode cX12_hasGangs 1 = .ok (.getfield 39, 3) := by decide +kernel
theorem dX12_hasGangs_4 : decode cX12_hasGangs 4 = .ok (.iload_n 1, 1) := by decide +kernel
theorem dX12_hasGangs_5 : decode cX12_hasGangs 5 = .ok (.iaload, 1) := by decide +kernel
theorem dX12_hasGangs_6 : decode cX12_hasGangs 6 = .ok (.istore_n 2, 1) := by decide +kernel
theorem dX12_hasGangs_7 : decode cX12_hasGangs 7 = .ok (.iload_n 2, 1) := by decide +kernel
theorem dX12_hasGangs_8 : decode cX12_hasGangs 8 = .ok (.aload_n 0, 1) := by decide +kernel
theorem dX12_hasGangs_9 : decode cX12_hasGangs 9 = .ok (.getfield 39, 3) := by decide +kernel
theorem dX12_hasGangs_12 : decode cX12_hasGangs 12 = .ok (.iload_n 1, 1) := by decide +kernel
theorem dX12_hasGangs_13 : decode cX12_hasGangs 13 = .ok (.iaload, 1) := by decide +kernel
theorem dX12_hasGangs_14 : decode cX12_hasGangs 14 = .ok (.aload_n 0, 1) := by decide +kernel
theorem dX12_hasGangs_15 : decode cX12_hasGangs 15 = .ok (.getfield 45, 3) := by decide +kernel
theorem dX12_hasGangs_18 : decode cX12_hasGangs 18 = .ok (.iload_n 1, 1) := by decide +kernel
theorem dX12_hasGangs_19 : decode cX12_hasGangs 19 = .ok (.iaload, 1) := by decide +kernel
theorem dX12_hasGangs_20 : decode cX12_hasGangs 20 = .ok (.iadd, 1) := by decide +kernel
theorem dX12_hasGangs_21 : decode cX12_hasGangs 21 = .ok (.if_icmp .ge 27, 3) := by decide +kernel
theorem dX12_hasGangs_24 : decode cX12_hasGangs 24 = .ok (.aload_n 0, 1) := by decide +kernel
theorem dX12_hasGangs_25 : decode cX12_hasGangs 25 = .ok (.iload_n 2, 1) := by decide +kernel
theorem dX12_hasGangs_26 : decode cX12_hasGangs 26 = .ok (.invokevirtual 358, 3) := by decide +kernel
theorem dX12_hasGangs_29 : decode cX12_hasGangs 29 = .ok (.aload_n 0, 1) := by decide +kernel
theorem dX12_hasGangs_30 : decode cX12_hasGangs 30 = .ok (.iload_n 2, 1) := by decide +kernel
theorem dX12_hasGangs_31 : decode cX12_hasGangs 31 = .ok (.bipush 16, 2) := by decide +kernel
theorem dX12_hasGangs_33 : decode cX12_hasGangs 33 = .ok (.idiv, 1) := by decide +kernel
theorem dX12_hasGangs_34 : decode cX12_hasGangs 34 = .ok (.invokevirtual 289, 3) := by decide +kernel
theorem dX12_hasGangs_37 : decode cX12_hasGangs 37 = .ok (.if_icmp .le 5, 3) := by decide +kernel
theorem dX12_hasGangs_40 : decode cX12_hasGangs 40 = .ok (.iconst 0, 1) := by decide +kernel
theorem dX12_hasGangs_41 : decode cX12_hasGangs 41 = .ok (.ireturn, 1) := by decide +kernel
theorem dX12_hasGangs_42 : decode cX12_hasGangs 42 = .ok (.iinc 2 1, 3) := by decide +kernel
theorem dX12_hasGangs_45 : decode cX12_hasGangs 45 = .ok (.goto (-38), 3) := by decide +kernel
theorem dX12_hasGangs_48 : decode cX12_hasGangs 48 = .ok (.iconst 1, 1) := by decide +kernel
theorem dX12_hasGangs_49 : decode cX12_hasGangs 49 = .ok (.ireturn, 1) := by decide +kernel
theorem dX12_hasCranes_0 : decode cX12_hasCranes 0 = .ok (.aload_n 0, 1) := by decide +kernel
theorem dX12_hasCranes_1 : decode cX12_hasCranes 1 = .ok (.getfield 39, 3) := by decide +kernel
theorem dX12_hasCranes_4 : decode cX12_hasCranes 4 = .ok (.iload_n 1, 1) := by decide +kernel
theorem dX12_hasCranes_5 : decode cX12_hasCranes 5 = .ok (.iaload, 1) := by decide +kernel
theorem dX12_hasCranes_6 : decode cX12_hasCranes 6 = .ok (.istore_n 2, 1) := by decide +kernel
theorem dX12_hasCranes_7 : decode cX12_hasCranes 7 = .ok (.iload_n 2, 1) := by decide +kernel
theorem dX12_hasCranes_8 : decode cX12_hasCranes 8 = .ok (.aload_n 0, 1) := by decide +kernel
theorem dX12_hasCranes_9 : decode cX12_hasCranes 9 = .ok (.getfield 39, 3) := by decide +kernel
theorem dX12_hasCranes_12 : decode cX12_hasCranes 12 = .ok (.iload_n 1, 1) := by decide +kernel
theorem dX12_hasCranes_13 : decode cX12_hasCranes 13 = .ok (.iaload, 1) := by decide +kernel
theorem dX12_hasCranes_14 : decode cX12_hasCranes 14 = .ok (.aload_n 0, 1) := by decide +kernel
theorem dX12_hasCranes_15 : decode cX12_hasCranes 15 = .ok (.getfield 45, 3) := by decide +kernel
theorem dX12_hasCranes_18 : decode cX12_hasCranes 18 = .ok (.iload_n 1, 1) := by decide +kernel
theorem dX12_hasCranes_19 : decode cX12_hasCranes 19 = .ok (.iaload, 1) := by decide +kernel
theorem dX12_hasCranes_20 : decode cX12_hasCranes 20 = .ok (.iadd, 1) := by decide +kernel
theorem dX12_hasCranes_21 : decode cX12_hasCranes 21 = .ok (.if_icmp .ge 20, 3) := by decide +kernel
theorem dX12_hasCranes_24 : decode cX12_hasCranes 24 = .ok (.aload_n 0, 1) := by decide +kernel
theorem dX12_hasCranes_25 : decode cX12_hasCranes 25 = .ok (.iload_n 2, 1) := by decide +kernel
theorem dX12_hasCranes_26 : decode cX12_hasCranes 26 = .ok (.iconst (-1), 1) := by decide +kernel
theorem dX12_hasCranes_27 : decode cX12_hasCranes 27 = .ok (.invokevirtual 361, 3) := by decide +kernel
theorem dX12_hasCranes_30 : decode cX12_hasCranes 30 = .ok (.ifCond .ne 5, 3) := by decide +kernel
theorem dX12_hasCranes_33 : decode cX12_hasCranes 33 = .ok (.iconst 0, 1) := by decide +kernel
theorem dX12_hasCranes_34 : decode cX12_hasCranes 34 = .ok (.ireturn, 1) := by decide +kernel
theorem dX12_hasCranes_35 : decode cX12_hasCranes 35 = .ok (.iinc 2 1, 3) := by decide +kernel
theorem dX12_hasCranes_38 : decode cX12_hasCranes 38 = .ok (.goto (-31), 3) := by decide +kernel
theorem dX12_hasCranes_41 : decode cX12_hasCranes 41 = .ok (.iconst 1, 1) := by decide +kernel
theorem dX12_hasCranes_42 : decode cX12_hasCranes 42 = .ok (.ireturn, 1) := by decide +kernel
theorem dX12_lateLaw_0 : decode cX12_lateLaw 0 = .ok (.aload_n 0, 1) := by decide +kernel
theorem dX12_lateLaw_1 : decode cX12_lateLaw 1 = .ok (.aload_n 0, 1) := by decide +kernel
theorem dX12_lateLaw_2 : decode cX12_lateLaw 2 = .ok (.getfield 36, 3) := by decide +kernel
theorem dX12_lateLaw_5 : decode cX12_lateLaw 5 = .ok (.iload_n 1, 1) := by decide +kernel
theorem dX12_lateLaw_6 : decode cX12_lateLaw 6 = .ok (.iaload, 1) := by decide +kernel
theorem dX12_lateLaw_7 : decode cX12_lateLaw 7 = .ok (.aload_n 0, 1) := by decide +kernel
theorem dX12_lateLaw_8 : decode cX12_lateLaw 8 = .ok (.iload_n 1, 1) := by decide +kernel
theorem dX12_lateLaw_9 : decode cX12_lateLaw 9 = .ok (.invokevirtual 349, 3) := by decide +kernel
theorem dX12_lateLaw_12 : decode cX12_lateLaw 12 = .ok (.invokevirtual 280, 3) := by decide +kernel
theorem dX12_lateLaw_15 : decode cX12_lateLaw 15 = .ok (.aload_n 0, 1) := by decide +kernel
theorem dX12_lateLaw_16 : decode cX12_lateLaw 16 = .ok (.iload_n 1, 1) := by decide +kernel
theorem dX12_lateLaw_17 : decode cX12_lateLaw 17 = .ok (.invokevirtual 364, 3) := by decide +kernel
theorem dX12_lateLaw_20 : decode cX12_lateLaw 20 = .ok (.iadd, 1) := by decide +kernel
theorem dX12_lateLaw_21 : decode cX12_lateLaw 21 = .ok (.aload_n 0, 1) := by decide +kernel
theorem dX12_lateLaw_22 : decode cX12_lateLaw 22 = .ok (.iload_n 1, 1) := by decide +kernel
theorem dX12_lateLaw_23 : decode cX12_lateLaw 23 = .ok (.invokevirtual 367, 3) := by decide +kernel
theorem dX12_lateLaw_26 : decode cX12_lateLaw 26 = .ok (.if_icmp .ge 6, 3) := by decide +kernel
theorem dX12_lateLaw_29 : decode cX12_lateLaw 29 = .ok (.bipush 6, 2) := by decide +kernel
theorem dX12_lateLaw_31 : decode cX12_lateLaw 31 = .ok (.ireturn, 1) := by decide +kernel
theorem dX12_lateLaw_32 : decode cX12_lateLaw 32 = .ok (.aload_n 0, 1) := by decide +kernel
theorem dX12_lateLaw_33 : decode cX12_lateLaw 33 = .ok (.iload_n 1, 1) := by decide +kernel
theorem dX12_lateLaw_34 : decode cX12_lateLaw 34 = .ok (.invokevirtual 370, 3) := by decide +kernel
theorem dX12_lateLaw_37 : decode cX12_lateLaw 37 = .ok (.ifCond .eq 6, 3) := by decide +kernel
theorem dX12_lateLaw_40 : decode cX12_lateLaw 40 = .ok (.bipush 7, 2) := by decide +kernel
theorem dX12_lateLaw_42 : decode cX12_lateLaw 42 = .ok (.ireturn, 1) := by decide +kernel
theorem dX12_lateLaw_43 : decode cX12_lateLaw 43 = .ok (.aload_n 0, 1) := by decide +kernel
theorem dX12_lateLaw_44 : decode cX12_lateLaw 44 = .ok (.iload_n 1, 1) := by decide +kernel
theorem dX12_lateLaw_45 : decode cX12_lateLaw 45 = .ok (.invokevirtual 373, 3) := by decide +kernel
theorem dX12_lateLaw_48 : decode cX12_lateLaw 48 = .ok (.ifCond .ne 6, 3) := by decide +kernel
theorem dX12_lateLaw_51 : decode cX12_lateLaw 51 = .ok (.bipush 8, 2) := by decide +kernel
theorem dX12_lateLaw_53 : decode cX12_lateLaw 53 = .ok (.ireturn, 1) := by decide +kernel
theorem dX12_lateLaw_54 : decode cX12_lateLaw 54 = .ok (.aload_n 0, 1) := by decide +kernel
theorem dX12_lateLaw_55 : decode cX12_lateLaw 55 = .ok (.iload_n 1, 1) := by decide +kernel
theorem dX12_lateLaw_56 : decode cX12_lateLaw 56 = .ok (.invokevirtual 376, 3) := by decide +kernel
theorem dX12_lateLaw_59 : decode cX12_lateLaw 59 = .ok (.ifCond .eq 7, 3) := by decide +kernel
theorem dX12_lateLaw_62 : decode cX12_lateLaw 62 = .ok (.iconst 0, 1) := by decide +kernel
theorem dX12_lateLaw_63 : decode cX12_lateLaw 63 = .ok (.goto 5, 3) := by decide +kernel
theorem dX12_lateLaw_66 : decode cX12_lateLaw 66 = .ok (.bipush 9, 2) := by decide +kernel
theorem dX12_lateLaw_68 : decode cX12_lateLaw 68 = .ok (.ireturn, 1) := by decide +kernel
theorem dX12_lawOf_0 : decode cX12_lawOf 0 = .ok (.aload_n 0, 1) := by decide +kernel
theorem dX12_lawOf_1 : decode cX12_lawOf 1 = .ok (.iload_n 1, 1) := by decide +kernel
theorem dX12_lawOf_2 : decode cX12_lawOf 2 = .ok (.lload_n 2, 1) := by decide +kernel
theorem dX12_lawOf_3 : decode cX12_lawOf 3 = .ok (.lload 4, 2) := by decide +kernel
theorem dX12_lawOf_5 : decode cX12_lawOf 5 = .ok (.iload 6, 2) := by decide +kernel
theorem dX12_lawOf_7 : decode cX12_lawOf 7 = .ok (.invokevirtual 379, 3) := by decide +kernel
theorem dX12_lawOf_10 : decode cX12_lawOf 10 = .ok (.istore 7, 2) := by decide +kernel
theorem dX12_lawOf_12 : decode cX12_lawOf 12 = .ok (.iload 7, 2) := by decide +kernel
theorem dX12_lawOf_14 : decode cX12_lawOf 14 = .ok (.ifCond .le 6, 3) := by decide +kernel
theorem dX12_lawOf_17 : decode cX12_lawOf 17 = .ok (.iload 7, 2) := by decide +kernel
theorem dX12_lawOf_19 : decode cX12_lawOf 19 = .ok (.ireturn, 1) := by decide +kernel
theorem dX12_lawOf_20 : decode cX12_lawOf 20 = .ok (.aload_n 0, 1) := by decide +kernel
theorem dX12_lawOf_21 : decode cX12_lawOf 21 = .ok (.getfield 36, 3) := by decide +kernel
