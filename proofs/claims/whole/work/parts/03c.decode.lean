theorem dX11_init_0 : decode cX11_init 0 = .ok (.aload_n 0, 1) := by decide +kernel
theorem dX11_init_1 : decode cX11_init 1 = .ok (.invokespecial 1, 3) := by decide +kernel
theorem dX11_init_4 : decode cX11_init 4 = .ok (.aload_n 0, 1) := by decide +kernel
theorem dX11_init_5 : decode cX11_init 5 = .ok (.sipush 1200, 3) := by decide +kernel
theorem dX11_init_8 : decode cX11_init 8 = .ok (.newarray .byte, 2) := by decide +kernel
theorem dX11_init_10 : decode cX11_init 10 = .ok (.putfield 9, 3) := by decide +kernel
theorem dX11_init_13 : decode cX11_init 13 = .ok (.aload_n 0, 1) := by decide +kernel
theorem dX11_init_14 : decode cX11_init 14 = .ok (.new 13, 3) := by decide +kernel
theorem dX11_init_17 : decode cX11_init 17 = .ok (.dup, 1) := by decide +kernel
theorem dX11_init_18 : decode cX11_init 18 = .ok (.invokespecial 15, 3) := by decide +kernel
theorem dX11_init_21 : decode cX11_init 21 = .ok (.putfield 16, 3) := by decide +kernel
theorem dX11_init_24 : decode cX11_init 24 = .ok (.aload_n 0, 1) := by decide +kernel
theorem dX11_init_25 : decode cX11_init 25 = .ok (.new 13, 3) := by decide +kernel
theorem dX11_init_28 : decode cX11_init 28 = .ok (.dup, 1) := by decide +kernel
theorem dX11_init_29 : decode cX11_init 29 = .ok (.invokespecial 15, 3) := by decide +kernel
theorem dX11_init_32 : decode cX11_init 32 = .ok (.putfield 20, 3) := by decide +kernel
theorem dX11_init_35 : decode cX11_init 35 = .ok (.aload_n 0, 1) := by decide +kernel
theorem dX11_init_36 : decode cX11_init 36 = .ok (.getfield 16, 3) := by decide +kernel
theorem dX11_init_39 : decode cX11_init 39 = .ok (.invokevirtual 23, 3) := by decide +kernel
theorem dX11_init_42 : decode cX11_init 42 = .ok (.aload_n 0, 1) := by decide +kernel
theorem dX11_init_43 : decode cX11_init 43 = .ok (.new 26, 3) := by decide +kernel
theorem dX11_init_46 : decode cX11_init 46 = .ok (.dup, 1) := by decide +kernel
theorem dX11_init_47 : decode cX11_init 47 = .ok (.aload_n 0, 1) := by decide +kernel
theorem dX11_init_48 : decode cX11_init 48 = .ok (.getfield 9, 3) := by decide +kernel
theorem dX11_init_51 : decode cX11_init 51 = .ok (.aload_n 0, 1) := by decide +kernel
theorem dX11_init_52 : decode cX11_init 52 = .ok (.getfield 20, 3) := by decide +kernel
theorem dX11_init_55 : decode cX11_init 55 = .ok (.invokespecial 28, 3) := by decide +kernel
theorem dX11_init_58 : decode cX11_init 58 = .ok (.putfield 31, 3) := by decide +kernel
theorem dX11_init_61 : decode cX11_init 61 = .ok (.aload_n 0, 1) := by decide +kernel
theorem dX11_init_62 : decode cX11_init 62 = .ok (.new 35, 3) := by decide +kernel
theorem dX11_init_65 : decode cX11_init 65 = .ok (.dup, 1) := by decide +kernel
theorem dX11_init_66 : decode cX11_init 66 = .ok (.aload_n 0, 1) := by decide +kernel
theorem dX11_init_67 : decode cX11_init 67 = .ok (.getfield 16, 3) := by decide +kernel
theorem dX11_init_70 : decode cX11_init 70 = .ok (.invokespecial 37, 3) := by decide +kernel
theorem dX11_init_73 : decode cX11_init 73 = .ok (.putfield 40, 3) := by decide +kernel
theorem dX11_init_76 : decode cX11_init 76 = .ok (.aload_n 0, 1) := by decide +kernel
theorem dX11_init_77 : decode cX11_init 77 = .ok (.new 44, 3) := by decide +kernel
theorem dX11_init_80 : decode cX11_init 80 = .ok (.dup, 1) := by decide +kernel
theorem dX11_init_81 : decode cX11_init 81 = .ok (.aload_n 0, 1) := by decide +kernel
theorem dX11_init_82 : decode cX11_init 82 = .ok (.getfield 16, 3) := by decide +kernel
theorem dX11_init_85 : decode cX11_init 85 = .ok (.aload_n 0, 1) := by decide +kernel
theorem dX11_init_86 : decode cX11_init 86 = .ok (.getfield 40, 3) := by decide +kernel
theorem dX11_init_89 : decode cX11_init 89 = .ok (.invokespecial 46, 3) := by decide +kernel
theorem dX11_init_92 : decode cX11_init 92 = .ok (.putfield 49, 3) := by decide +kernel
theorem dX11_init_95 : decode cX11_init 95 = .ok (.aload_n 0, 1) := by decide +kernel
theorem dX11_init_96 : decode cX11_init 96 = .ok (.new 53, 3) := by decide +kernel
theorem dX11_init_99 : decode cX11_init 99 = .ok (.dup, 1) := by decide +kernel
theorem dX11_init_100 : decode cX11_init 100 = .ok (.aload_n 0, 1) := by decide +kernel
theorem dX11_init_101 : decode cX11_init 101 = .ok (.getfield 16, 3) := by decide +kernel
theorem dX11_init_104 : decode cX11_init 104 = .ok (.aload_n 0, 1) := by decide +kernel
theorem dX11_init_105 : decode cX11_init 105 = .ok (.getfield 49, 3) := by decide +kernel
theorem dX11_init_108 : decode cX11_init 108 = .ok (.invokespecial 55, 3) := by decide +kernel
theorem dX11_init_111 : decode cX11_init 111 = .ok (.putfield 58, 3) := by decide +kernel
theorem dX11_init_114 : decode cX11_init 114 = .ok (.aload_n 0, 1) := by decide +kernel
theorem dX11_init_115 : decode cX11_init 115 = .ok (.new 62, 3) := by decide +kernel
theorem dX11_init_118 : decode cX11_init 118 = .ok (.dup, 1) := by decide +kernel
theorem dX11_init_119 : decode cX11_init 119 = .ok (.aload_n 0, 1) := by decide +kernel
theorem dX11_init_120 : decode cX11_init 120 = .ok (.getfield 16, 3) := by decide +kernel
theorem dX11_init_123 : decode cX11_init 123 = .ok (.aload_n 0, 1) := by decide +kernel
theorem dX11_init_124 : decode cX11_init 124 = .ok (.getfield 40, 3) := by decide +kernel
theorem dX11_init_127 : decode cX11_init 127 = .ok (.aload_n 0, 1) := by decide +kernel
theorem dX11_init_128 : decode cX11_init 128 = .ok (.getfield 49, 3) := by decide +kernel
theorem dX11_init_131 : decode cX11_init 131 = .ok (.aload_n 0, 1) := by decide +kernel
theorem dX11_init_132 : decode cX11_init 132 = .ok (.getfield 58, 3) := by decide +kernel
theorem dX11_init_135 : decode cX11_init 135 = .ok (.invokespecial 64, 3) := by decide +kernel
theorem dX11_init_138 : decode cX11_init 138 = .ok (.putfield 67, 3) := by decide +kernel
theorem dX11_init_141 : decode cX11_init 141 = .ok (.aload_n 0, 1) := by decide +kernel
theorem dX11_init_142 : decode cX11_init 142 = .ok (.new 71, 3) := by decide +kernel
theorem dX11_init_145 : decode cX11_init 145 = .ok (.dup, 1) := by decide +kernel
theorem dX11_init_146 : decode cX11_init 146 = .ok (.aload_n 0, 1) := by decide +kernel
theorem dX11_init_147 : decode cX11_init 147 = .ok (.getfield 16, 3) := by decide +kernel
theorem dX11_init_150 : decode cX11_init 150 = .ok (.aload_n 0, 1) := by decide +kernel
theorem dX11_init_151 : decode cX11_init 151 = .ok (.getfield 40, 3) := by decide +kernel
theorem dX11_init_154 : decode cX11_init 154 = .ok (.aload_n 0, 1) := by decide +kernel
theorem dX11_init_155 : decode cX11_init 155 = .ok (.getfield 67, 3) := by decide +kernel
theorem dX11_init_158 : decode cX11_init 158 = .ok (.aload_n 0, 1) := by decide +kernel
theorem dX11_init_159 : decode cX11_init 159 = .ok (.getfield 58, 3) := by decide +kernel
theorem dX11_init_162 : decode cX11_init 162 = .ok (.invokespecial 73, 3) := by decide +kernel
theorem dX11_init_165 : decode cX11_init 165 = .ok (.putfield 76, 3) := by decide +kernel
theorem dX11_init_168 : decode cX11_init 168 = .ok (.aload_n 0, 1) := by decide +kernel
theorem dX11_init_169 : decode cX11_init 169 = .ok (.new 80, 3) := by decide +kernel
theorem dX11_init_172 : decode cX11_init 172 = .ok (.dup, 1) := by decide +kernel
theorem dX11_init_173 : decode cX11_init 173 = .ok (.aload_n 0, 1) := by decide +kernel
theorem dX11_init_174 : decode cX11_init 174 = .ok (.getfield 16, 3) := by decide +kernel
theorem dX11_init_177 : decode cX11_init 177 = .ok (.invokespecial 82, 3) := by decide +kernel
theorem dX11_init_180 : decode cX11_init 180 = .ok (.putfield 83, 3) := by decide +kernel
theorem dX11_init_183 : decode cX11_init 183 = .ok (.aload_n 0, 1) := by decide +kernel
theorem dX11_init_184 : decode cX11_init 184 = .ok (.new 87, 3) := by decide +kernel
theorem dX11_init_187 : decode cX11_init 187 = .ok (.dup, 1) := by decide +kernel
theorem dX11_init_188 : decode cX11_init 188 = .ok (.aload_n 0, 1) := by decide +kernel
theorem dX11_init_189 : decode cX11_init 189 = .ok (.getfield 16, 3) := by decide +kernel
theorem dX11_init_192 : decode cX11_init 192 = .ok (.aload_n 0, 1) := by decide +kernel
theorem dX11_init_193 : decode cX11_init 193 = .ok (.getfield 49, 3) := by decide +kernel
theorem dX11_init_196 : decode cX11_init 196 = .ok (.aload_n 0, 1) := by decide +kernel
theorem dX11_init_197 : decode cX11_init 197 = .ok (.getfield 76, 3) := by decide +kernel
theorem dX11_init_200 : decode cX11_init 200 = .ok (.invokespecial 89, 3) := by decide +kernel
theorem dX11_init_203 : decode cX11_init 203 = .ok (.putfield 92, 3) := by decide +kernel
theorem dX11_init_206 : decode cX11_init 206 = .ok (.aload_n 0, 1) := by decide +kernel
theorem dX11_init_207 : decode cX11_init 207 = .ok (.new 96, 3) := by decide +kernel
theorem dX11_init_210 : decode cX11_init 210 = .ok (.dup, 1) := by decide +kernel
theorem dX11_init_211 : decode cX11_init 211 = .ok (.invokespecial 98, 3) := by decide +kernel
theorem dX11_init_214 : decode cX11_init 214 = .ok (.putfield 99, 3) := by decide +kernel
theorem dX11_init_217 : decode cX11_init 217 = .ok (.aload_n 0, 1) := by decide +kernel
theorem dX11_init_218 : decode cX11_init 218 = .ok (.new 103, 3) := by decide +kernel
theorem dX11_init_221 : decode cX11_init 221 = .ok (.dup, 1) := by decide +kernel
theorem dX11_init_222 : decode cX11_init 222 = .ok (.invokespecial 105, 3) := by decide +kernel
theorem dX11_init_225 : decode cX11_init 225 = .ok (.putfield 106, 3) := by decide +kernel
theorem dX11_init_228 : decode cX11_init 228 = .ok (.aload_n 0, 1) := by decide +kernel
theorem dX11_init_229 : decode cX11_init 229 = .ok (.bipush 42, 2) := by decide +kernel
theorem dX11_init_231 : decode cX11_init 231 = .ok (.newarray .int, 2) := by decide +kernel
theorem dX11_init_233 : decode cX11_init 233 = .ok (.putfield 110, 3) := by decide +kernel
theorem dX11_init_236 : decode cX11_init 236 = .ok (.return_, 1) := by decide +kernel
theorem dX11_feed_0 : decode cX11_feed 0 = .ok (.aload_n 0, 1) := by decide +kernel
theorem dX11_feed_1 : decode cX11_feed 1 = .ok (.getfield 114, 3) := by decide +kernel
theorem dX11_feed_4 : decode cX11_feed 4 = .ok (.bipush 20, 2) := by decide +kernel
theorem dX11_feed_6 : decode cX11_feed 6 = .ok (.iadd, 1) := by decide +kernel
theorem dX11_feed_7 : decode cX11_feed 7 = .ok (.sipush 1200, 3) := by decide +kernel
theorem dX11_feed_10 : decode cX11_feed 10 = .ok (.if_icmp .le 5, 3) := by decide +kernel
theorem dX11_feed_13 : decode cX11_feed 13 = .ok (.iconst (-1), 1) := by decide +kernel
theorem dX11_feed_14 : decode cX11_feed 14 = .ok (.ireturn, 1) := by decide +kernel
theorem dX11_feed_15 : decode cX11_feed 15 = .ok (.aload_n 0, 1) := by decide +kernel
theorem dX11_feed_16 : decode cX11_feed 16 = .ok (.iload_n 1, 1) := by decide +kernel
theorem dX11_feed_17 : decode cX11_feed 17 = .ok (.invokevirtual 118, 3) := by decide +kernel
theorem dX11_feed_20 : decode cX11_feed 20 = .ok (.aload_n 0, 1) := by decide +kernel
theorem dX11_feed_21 : decode cX11_feed 21 = .ok (.iload_n 2, 1) := by decide +kernel
theorem dX11_feed_22 : decode cX11_feed 22 = .ok (.invokevirtual 118, 3) := by decide +kernel
theorem dX11_feed_25 : decode cX11_feed 25 = .ok (.aload_n 0, 1) := by decide +kernel
theorem dX11_feed_26 : decode cX11_feed 26 = .ok (.iload_n 3, 1) := by decide +kernel
theorem dX11_feed_27 : decode cX11_feed 27 = .ok (.invokevirtual 118, 3) := by decide +kernel
theorem dX11_feed_30 : decode cX11_feed 30 = .ok (.aload_n 0, 1) := by decide +kernel
theorem dX11_feed_31 : decode cX11_feed 31 = .ok (.iload 4, 2) := by decide +kernel
theorem dX11_feed_33 : decode cX11_feed 33 = .ok (.invokevirtual 118, 3) := by decide +kernel
theorem dX11_feed_36 : decode cX11_feed 36 = .ok (.aload_n 0, 1) := by decide +kernel
theorem dX11_feed_37 : decode cX11_feed 37 = .ok (.iload 5, 2) := by decide +kernel
theorem dX11_feed_39 : decode cX11_feed 39 = .ok (.invokevirtual 118, 3) := by decide +kernel
theorem dX11_feed_42 : decode cX11_feed 42 = .ok (.aload_n 0, 1) := by decide +kernel
theorem dX11_feed_43 : decode cX11_feed 43 = .ok (.getfield 114, 3) := by decide +kernel
theorem dX11_feed_46 : decode cX11_feed 46 = .ok (.ireturn, 1) := by decide +kernel
theorem dX11_takeBytes_0 : decode cX11_takeBytes 0 = .ok (.bipush 24, 2) := by decide +kernel
theorem dX11_takeBytes_2 : decode cX11_takeBytes 2 = .ok (.istore_n 2, 1) := by decide +kernel
theorem dX11_takeBytes_3 : decode cX11_takeBytes 3 = .ok (.iload_n 2, 1) := by decide +kernel
theorem dX11_takeBytes_4 : decode cX11_takeBytes 4 = .ok (.ifCond .lt 42, 3) := by decide +kernel
theorem dX11_takeBytes_7 : decode cX11_takeBytes 7 = .ok (.aload_n 0, 1) := by decide +kernel
theorem dX11_takeBytes_8 : decode cX11_takeBytes 8 = .ok (.getfield 114, 3) := by decide +kernel
theorem dX11_takeBytes_11 : decode cX11_takeBytes 11 = .ok (.sipush 1200, 3) := by decide +kernel
theorem dX11_takeBytes_14 : decode cX11_takeBytes 14 = .ok (.if_icmp .ge 32, 3) := by decide +kernel
theorem dX11_takeBytes_17 : decode cX11_takeBytes 17 = .ok (.aload_n 0, 1) := by decide +kernel
theorem dX11_takeBytes_18 : decode cX11_takeBytes 18 = .ok (.getfield 9, 3) := by decide +kernel
theorem dX11_takeBytes_21 : decode cX11_takeBytes 21 = .ok (.aload_n 0, 1) := by decide +kernel
theorem dX11_takeBytes_22 : decode cX11_takeBytes 22 = .ok (.getfield 114, 3) := by decide +kernel
theorem dX11_takeBytes_25 : decode cX11_takeBytes 25 = .ok (.iload_n 1, 1) := by decide +kernel
theorem dX11_takeBytes_26 : decode cX11_takeBytes 26 = .ok (.iload_n 2, 1) := by decide +kernel
theorem dX11_takeBytes_27 : decode cX11_takeBytes 27 = .ok (.ishr, 1) := by decide +kernel
theorem dX11_takeBytes_28 : decode cX11_takeBytes 28 = .ok (.i2b, 1) := by decide +kernel
theorem dX11_takeBytes_29 : decode cX11_takeBytes 29 = .ok (.bastore, 1) := by decide +kernel
theorem dX11_takeBytes_30 : decode cX11_takeBytes 30 = .ok (.aload_n 0, 1) := by decide +kernel
theorem dX11_takeBytes_31 : decode cX11_takeBytes 31 = .ok (.dup, 1) := by decide +kernel
theorem dX11_takeBytes_32 : decode cX11_takeBytes 32 = .ok (.getfield 114, 3) := by decide +kernel
theorem dX11_takeBytes_35 : decode cX11_takeBytes 35 = .ok (.iconst 1, 1) := by decide +kernel
theorem dX11_takeBytes_36 : decode cX11_takeBytes 36 = .ok (.iadd, 1) := by decide +kernel
theorem dX11_takeBytes_37 : decode cX11_takeBytes 37 = .ok (.putfield 114, 3) := by decide +kernel
theorem dX11_takeBytes_40 : decode cX11_takeBytes 40 = .ok (.iinc 2 (-8), 3) := by decide +kernel
theorem dX11_takeBytes_43 : decode cX11_takeBytes 43 = .ok (.goto (-40), 3) := by decide +kernel
theorem dX11_takeBytes_46 : decode cX11_takeBytes 46 = .ok (.return_, 1) := by decide +kernel
theorem dX11_text_0 : decode cX11_text 0 = .ok (.iload_n 1, 1) := by decide +kernel
theorem dX11_text_1 : decode cX11_text 1 = .ok (.ifCond .lt 11, 3) := by decide +kernel
theorem dX11_text_4 : decode cX11_text 4 = .ok (.iload_n 1, 1) := by decide +kernel
theorem dX11_text_5 : decode cX11_text 5 = .ok (.aload_n 0, 1) := by decide +kernel
theorem dX11_text_6 : decode cX11_text 6 = .ok (.getfield 114, 3) := by decide +kernel
theorem dX11_text_9 : decode cX11_text 9 = .ok (.if_icmp .le 6, 3) := by decide +kernel
theorem dX11_text_12 : decode cX11_text 12 = .ok (.bipush (-2), 2) := by decide +kernel
theorem dX11_text_14 : decode cX11_text 14 = .ok (.ireturn, 1) := by decide +kernel
theorem dX11_text_15 : decode cX11_text 15 = .ok (.aload_n 0, 1) := by decide +kernel
theorem dX11_text_16 : decode cX11_text 16 = .ok (.iconst 0, 1) := by decide +kernel
theorem dX11_text_17 : decode cX11_text 17 = .ok (.putfield 114, 3) := by decide +kernel
theorem dX11_text_20 : decode cX11_text 20 = .ok (.aload_n 0, 1) := by decide +kernel
theorem dX11_text_21 : decode cX11_text 21 = .ok (.getfield 31, 3) := by decide +kernel
theorem dX11_text_24 : decode cX11_text 24 = .ok (.iload_n 1, 1) := by decide +kernel
theorem dX11_text_25 : decode cX11_text 25 = .ok (.invokevirtual 122, 3) := by decide +kernel
theorem dX11_text_28 : decode cX11_text 28 = .ok (.istore_n 2, 1) := by decide +kernel
theorem dX11_text_29 : decode cX11_text 29 = .ok (.iload_n 2, 1) := by decide +kernel
theorem dX11_text_30 : decode cX11_text 30 = .ok (.iconst (-1), 1) := by decide +kernel
theorem dX11_text_31 : decode cX11_text 31 = .ok (.if_icmp .ne 5, 3) := by decide +kernel
theorem dX11_text_34 : decode cX11_text 34 = .ok (.iconst (-1), 1) := by decide +kernel
theorem dX11_text_35 : decode cX11_text 35 = .ok (.ireturn, 1) := by decide +kernel
theorem dX11_text_36 : decode cX11_text 36 = .ok (.aload_n 0, 1) := by decide +kernel
theorem dX11_text_37 : decode cX11_text 37 = .ok (.getfield 16, 3) := by decide +kernel
theorem dX11_text_40 : decode cX11_text 40 = .ok (.aload_n 0, 1) := by decide +kernel
theorem dX11_text_41 : decode cX11_text 41 = .ok (.getfield 20, 3) := by decide +kernel
theorem dX11_text_44 : decode cX11_text 44 = .ok (.invokevirtual 126, 3) := by decide +kernel
theorem dX11_text_47 : decode cX11_text 47 = .ok (.aload_n 0, 1) := by decide +kernel
theorem dX11_text_48 : decode cX11_text 48 = .ok (.getfield 40, 3) := by decide +kernel
theorem dX11_text_51 : decode cX11_text 51 = .ok (.invokevirtual 129, 3) := by decide +kernel
theorem dX11_text_54 : decode cX11_text 54 = .ok (.aload_n 0, 1) := by decide +kernel
theorem dX11_text_55 : decode cX11_text 55 = .ok (.getfield 49, 3) := by decide +kernel
theorem dX11_text_58 : decode cX11_text 58 = .ok (.invokevirtual 132, 3) := by decide +kernel
theorem dX11_text_61 : decode cX11_text 61 = .ok (.aload_n 0, 1) := by decide +kernel
theorem dX11_text_62 : decode cX11_text 62 = .ok (.getfield 99, 3) := by decide +kernel
theorem dX11_text_65 : decode cX11_text 65 = .ok (.invokevirtual 135, 3) := by decide +kernel
theorem dX11_text_68 : decode cX11_text 68 = .ok (.aload_n 0, 1) := by decide +kernel
theorem dX11_text_69 : decode cX11_text 69 = .ok (.getfield 92, 3) := by decide +kernel
theorem dX11_text_72 : decode cX11_text 72 = .ok (.iconst 0, 1) := by decide +kernel
theorem dX11_text_73 : decode cX11_text 73 = .ok (.putfield 136, 3) := by decide +kernel
theorem dX11_text_76 : decode cX11_text 76 = .ok (.iload_n 2, 1) := by decide +kernel
theorem dX11_text_77 : decode cX11_text 77 = .ok (.ireturn, 1) := by decide +kernel
theorem dX11_fault_0 : decode cX11_fault 0 = .ok (.iload_n 1, 1) := by decide +kernel
theorem dX11_fault_1 : decode cX11_fault 1 = .ok (.lookupswitch 43 #[(0, 27), (1, 35)], 27) := by decide +kernel
theorem dX11_fault_28 : decode cX11_fault 28 = .ok (.aload_n 0, 1) := by decide +kernel
theorem dX11_fault_29 : decode cX11_fault 29 = .ok (.getfield 31, 3) := by decide +kernel
theorem dX11_fault_32 : decode cX11_fault 32 = .ok (.getfield 140, 3) := by decide +kernel
theorem dX11_fault_35 : decode cX11_fault 35 = .ok (.ireturn, 1) := by decide +kernel
theorem dX11_fault_36 : decode cX11_fault 36 = .ok (.aload_n 0, 1) := by decide +kernel
theorem dX11_fault_37 : decode cX11_fault 37 = .ok (.getfield 31, 3) := by decide +kernel
theorem dX11_fault_40 : decode cX11_fault 40 = .ok (.getfield 143, 3) := by decide +kernel
theorem dX11_fault_43 : decode cX11_fault 43 = .ok (.ireturn, 1) := by decide +kernel
theorem dX11_fault_44 : decode cX11_fault 44 = .ok (.iconst (-1), 1) := by decide +kernel
theorem dX11_fault_45 : decode cX11_fault 45 = .ok (.ireturn, 1) := by decide +kernel
theorem dX11_count_0 : decode cX11_count 0 = .ok (.iload_n 1, 1) := by decide +kernel
theorem dX11_count_1 : decode cX11_count 1 = .ok (.ifCond .lt 19, 3) := by decide +kernel
theorem dX11_count_4 : decode cX11_count 4 = .ok (.iload_n 1, 1) := by decide +kernel
theorem dX11_count_5 : decode cX11_count 5 = .ok (.bipush 6, 2) := by decide +kernel
theorem dX11_count_7 : decode cX11_count 7 = .ok (.if_icmp .ge 13, 3) := by decide +kernel
theorem dX11_count_10 : decode cX11_count 10 = .ok (.aload_n 0, 1) := by decide +kernel
theorem dX11_count_11 : decode cX11_count 11 = .ok (.getfield 16, 3) := by decide +kernel
theorem dX11_count_14 : decode cX11_count 14 = .ok (.getfield 146, 3) := by decide +kernel
theorem dX11_count_17 : decode cX11_count 17 = .ok (.iload_n 1, 1) := by decide +kernel
theorem dX11_count_18 : decode cX11_count 18 = .ok (.iaload, 1) := by decide +kernel
theorem dX11_count_19 : decode cX11_count 19 = .ok (.ireturn, 1) := by decide +kernel
theorem dX11_count_20 : decode cX11_count 20 = .ok (.iload_n 1, 1) := by decide +kernel
theorem dX11_count_21 : decode cX11_count 21 = .ok (.tableswitch 133 6 15 #[55, 63, 71, 79, 87, 95, 103, 111, 116, 121], 55) := by decide +kernel
theorem dX11_count_76 : decode cX11_count 76 = .ok (.aload_n 0, 1) := by decide +kernel
theorem dX11_count_77 : decode cX11_count 77 = .ok (.getfield 16, 3) := by decide +kernel
theorem dX11_count_80 : decode cX11_count 80 = .ok (.getfield 149, 3) := by decide +kernel
theorem dX11_count_83 : decode cX11_count 83 = .ok (.ireturn, 1) := by decide +kernel
theorem dX11_count_84 : decode cX11_count 84 = .ok (.aload_n 0, 1) := by decide +kernel
theorem dX11_count_85 : decode cX11_count 85 = .ok (.getfield 16, 3) := by decide +kernel
theorem dX11_count_88 : decode cX11_count 88 = .ok (.getfield 152, 3) := by decide +kernel
theorem dX11_count_91 : decode cX11_count 91 = .ok (.ireturn, 1) := by decide +kernel
theorem dX11_count_92 : decode cX11_count 92 = .ok (.aload_n 0, 1) := by decide +kernel
theorem dX11_count_93 : decode cX11_count 93 = .ok (.getfield 16, 3) := by decide +kernel
theorem dX11_count_96 : decode cX11_count 96 = .ok (.getfield 155, 3) := by decide +kernel
theorem dX11_count_99 : decode cX11_count 99 = .ok (.ireturn, 1) := by decide +kernel
theorem dX11_count_100 : decode cX11_count 100 = .ok (.aload_n 0, 1) := by decide +kernel
theorem dX11_count_101 : decode cX11_count 101 = .ok (.getfield 16, 3) := by decide +kernel
theorem dX11_count_104 : decode cX11_count 104 = .ok (.getfield 158, 3) := by decide +kernel
theorem dX11_count_107 : decode cX11_count 107 = .ok (.ireturn, 1) := by decide +kernel
theorem dX11_count_108 : decode cX11_count 108 = .ok (.aload_n 0, 1) := by decide +kernel
theorem dX11_count_109 : decode cX11_count 109 = .ok (.getfield 49, 3) := by decide +kernel
theorem dX11_count_112 : decode cX11_count 112 = .ok (.invokevirtual 161, 3) := by decide +kernel
theorem dX11_count_115 : decode cX11_count 115 = .ok (.ireturn, 1) := by decide +kernel
theorem dX11_count_116 : decode cX11_count 116 = .ok (.aload_n 0, 1) := by decide +kernel
theorem dX11_count_117 : decode cX11_count 117 = .ok (.getfield 99, 3) := by decide +kernel
theorem dX11_count_120 : decode cX11_count 120 = .ok (.getfield 165, 3) := by decide +kernel
theorem dX11_count_123 : decode cX11_count 123 = .ok (.ireturn, 1) := by decide +kernel
theorem dX11_count_124 : decode cX11_count 124 = .ok (.aload_n 0, 1) := by decide +kernel
theorem dX11_count_125 : decode cX11_count 125 = .ok (.getfield 99, 3) := by decide +kernel
theorem dX11_count_128 : decode cX11_count 128 = .ok (.invokevirtual 168, 3) := by decide +kernel
theorem dX11_count_131 : decode cX11_count 131 = .ok (.ireturn, 1) := by decide +kernel
theorem dX11_count_132 : decode cX11_count 132 = .ok (.aload_n 0, 1) := by decide +kernel
theorem dX11_count_133 : decode cX11_count 133 = .ok (.getfield 114, 3) := by decide +kernel
theorem dX11_count_136 : decode cX11_count 136 = .ok (.ireturn, 1) := by decide +kernel
theorem dX11_count_137 : decode cX11_count 137 = .ok (.aload_n 0, 1) := by decide +kernel
theorem dX11_count_138 : decode cX11_count 138 = .ok (.invokevirtual 171, 3) := by decide +kernel
theorem dX11_count_141 : decode cX11_count 141 = .ok (.ireturn, 1) := by decide +kernel
theorem dX11_count_142 : decode cX11_count 142 = .ok (.aload_n 0, 1) := by decide +kernel
theorem dX11_count_143 : decode cX11_count 143 = .ok (.getfield 49, 3) := by decide +kernel
theorem dX11_count_146 : decode cX11_count 146 = .ok (.iconst 0, 1) := by decide +kernel
theorem dX11_count_147 : decode cX11_count 147 = .ok (.sipush 336, 3) := by decide +kernel
theorem dX11_count_150 : decode cX11_count 150 = .ok (.invokevirtual 174, 3) := by decide +kernel
theorem dX11_count_153 : decode cX11_count 153 = .ok (.ireturn, 1) := by decide +kernel
theorem dX11_count_154 : decode cX11_count 154 = .ok (.iconst (-1), 1) := by decide +kernel
theorem dX11_count_155 : decode cX11_count 155 = .ok (.ireturn, 1) := by decide +kernel
theorem dX11_costOfAll_0 : decode cX11_costOfAll 0 = .ok (.iconst 0, 1) := by decide +kernel
theorem dX11_costOfAll_1 : decode cX11_costOfAll 1 = .ok (.istore_n 1, 1) := by decide +kernel
theorem dX11_costOfAll_2 : decode cX11_costOfAll 2 = .ok (.iconst 0, 1) := by decide +kernel
theorem dX11_costOfAll_3 : decode cX11_costOfAll 3 = .ok (.istore_n 2, 1) := by decide +kernel
theorem dX11_costOfAll_4 : decode cX11_costOfAll 4 = .ok (.iload_n 2, 1) := by decide +kernel
theorem dX11_costOfAll_5 : decode cX11_costOfAll 5 = .ok (.aload_n 0, 1) := by decide +kernel
theorem dX11_costOfAll_6 : decode cX11_costOfAll 6 = .ok (.getfield 16, 3) := by decide +kernel
theorem dX11_costOfAll_9 : decode cX11_costOfAll 9 = .ok (.getfield 158, 3) := by decide +kernel
theorem dX11_costOfAll_12 : decode cX11_costOfAll 12 = .ok (.if_icmp .ge 31, 3) := by decide +kernel
theorem dX11_costOfAll_15 : decode cX11_costOfAll 15 = .ok (.aload_n 0, 1) := by decide +kernel
theorem dX11_costOfAll_16 : decode cX11_costOfAll 16 = .ok (.getfield 49, 3) := by decide +kernel
theorem dX11_costOfAll_19 : decode cX11_costOfAll 19 = .ok (.iload_n 2, 1) := by decide +kernel
theorem dX11_costOfAll_20 : decode cX11_costOfAll 20 = .ok (.invokevirtual 178, 3) := by decide +kernel
theorem dX11_costOfAll_23 : decode cX11_costOfAll 23 = .ok (.ifCond .eq 14, 3) := by decide +kernel
theorem dX11_costOfAll_26 : decode cX11_costOfAll 26 = .ok (.iload_n 1, 1) := by decide +kernel
theorem dX11_costOfAll_27 : decode cX11_costOfAll 27 = .ok (.aload_n 0, 1) := by decide +kernel
theorem dX11_costOfAll_28 : decode cX11_costOfAll 28 = .ok (.getfield 49, 3) := by decide +kernel
theorem dX11_costOfAll_31 : decode cX11_costOfAll 31 = .ok (.iload_n 2, 1) := by decide +kernel
theorem dX11_costOfAll_32 : decode cX11_costOfAll 32 = .ok (.invokevirtual 182, 3) := by decide +kernel
theorem dX11_costOfAll_35 : decode cX11_costOfAll 35 = .ok (.iadd, 1) := by decide +kernel
theorem dX11_costOfAll_36 : decode cX11_costOfAll 36 = .ok (.istore_n 1, 1) := by decide +kernel
theorem dX11_costOfAll_37 : decode cX11_costOfAll 37 = .ok (.iinc 2 1, 3) := by decide +kernel
theorem dX11_costOfAll_40 : decode cX11_costOfAll 40 = .ok (.goto (-36), 3) := by decide +kernel
theorem dX11_costOfAll_43 : decode cX11_costOfAll 43 = .ok (.iload_n 1, 1) := by decide +kernel
theorem dX11_costOfAll_44 : decode cX11_costOfAll 44 = .ok (.ireturn, 1) := by decide +kernel
theorem dX11_depth_0 : decode cX11_depth 0 = .ok (.aload_n 0, 1) := by decide +kernel
theorem dX11_depth_1 : decode cX11_depth 1 = .ok (.iload_n 1, 1) := by decide +kernel
theorem dX11_depth_2 : decode cX11_depth 2 = .ok (.invokevirtual 185, 3) := by decide +kernel
theorem dX11_depth_5 : decode cX11_depth 5 = .ok (.ifCond .eq 14, 3) := by decide +kernel
theorem dX11_depth_8 : decode cX11_depth 8 = .ok (.aload_n 0, 1) := by decide +kernel
theorem dX11_depth_9 : decode cX11_depth 9 = .ok (.getfield 16, 3) := by decide +kernel
theorem dX11_depth_12 : decode cX11_depth 12 = .ok (.iload_n 1, 1) := by decide +kernel
theorem dX11_depth_13 : decode cX11_depth 13 = .ok (.invokevirtual 188, 3) := by decide +kernel
theorem dX11_depth_16 : decode cX11_depth 16 = .ok (.goto 4, 3) := by decide +kernel
theorem dX11_depth_19 : decode cX11_depth 19 = .ok (.iconst (-1), 1) := by decide +kernel
theorem dX11_depth_20 : decode cX11_depth 20 = .ok (.ireturn, 1) := by decide +kernel
theorem dX11_shallow_0 : decode cX11_shallow 0 = .ok (.aload_n 0, 1) := by decide +kernel
theorem dX11_shallow_1 : decode cX11_shallow 1 = .ok (.iload_n 1, 1) := by decide +kernel
theorem dX11_shallow_2 : decode cX11_shallow 2 = .ok (.invokevirtual 185, 3) := by decide +kernel
theorem dX11_shallow_5 : decode cX11_shallow 5 = .ok (.ifCond .eq 16, 3) := by decide +kernel
theorem dX11_shallow_8 : decode cX11_shallow 8 = .ok (.aload_n 0, 1) := by decide +kernel
theorem dX11_shallow_9 : decode cX11_shallow 9 = .ok (.iload_n 2, 1) := by decide +kernel
theorem dX11_shallow_10 : decode cX11_shallow 10 = .ok (.invokevirtual 185, 3) := by decide +kernel
theorem dX11_shallow_13 : decode cX11_shallow 13 = .ok (.ifCond .eq 8, 3) := by decide +kernel
theorem dX11_shallow_16 : decode cX11_shallow 16 = .ok (.iload_n 2, 1) := by decide +kernel
theorem dX11_shallow_17 : decode cX11_shallow 17 = .ok (.iload_n 1, 1) := by decide +kernel
theorem dX11_shallow_18 : decode cX11_shallow 18 = .ok (.if_icmp .ge 5, 3) := by decide +kernel
theorem dX11_shallow_21 : decode cX11_shallow 21 = .ok (.iconst (-1), 1) := by decide +kernel
theorem dX11_shallow_22 : decode cX11_shallow 22 = .ok (.ireturn, 1) := by decide +kernel
theorem dX11_shallow_23 : decode cX11_shallow 23 = .ok (.aload_n 0, 1) := by decide +kernel
theorem dX11_shallow_24 : decode cX11_shallow 24 = .ok (.getfield 16, 3) := by decide +kernel
theorem dX11_shallow_27 : decode cX11_shallow 27 = .ok (.iload_n 1, 1) := by decide +kernel
theorem dX11_shallow_28 : decode cX11_shallow 28 = .ok (.iload_n 2, 1) := by decide +kernel
theorem dX11_shallow_29 : decode cX11_shallow 29 = .ok (.invokevirtual 191, 3) := by decide +kernel
theorem dX11_shallow_32 : decode cX11_shallow 32 = .ok (.ireturn, 1) := by decide +kernel
theorem dX11_level_0 : decode cX11_level 0 = .ok (.iload_n 1, 1) := by decide +kernel
theorem dX11_level_1 : decode cX11_level 1 = .ok (.invokestatic 194, 3) := by decide +kernel
theorem dX11_level_4 : decode cX11_level 4 = .ok (.ifCond .eq 15, 3) := by decide +kernel
theorem dX11_level_7 : decode cX11_level 7 = .ok (.aload_n 0, 1) := by decide +kernel
theorem dX11_level_8 : decode cX11_level 8 = .ok (.getfield 40, 3) := by decide +kernel
theorem dX11_level_11 : decode cX11_level 11 = .ok (.getfield 197, 3) := by decide +kernel
theorem dX11_level_14 : decode cX11_level 14 = .ok (.iload_n 1, 1) := by decide +kernel
theorem dX11_level_15 : decode cX11_level 15 = .ok (.iaload, 1) := by decide +kernel
theorem dX11_level_16 : decode cX11_level 16 = .ok (.goto 4, 3) := by decide +kernel
theorem dX11_level_19 : decode cX11_level 19 = .ok (.iconst (-1), 1) := by decide +kernel
theorem dX11_level_20 : decode cX11_level 20 = .ok (.ireturn, 1) := by decide +kernel
theorem dX11_gangs_0 : decode cX11_gangs 0 = .ok (.iload_n 1, 1) := by decide +kernel
theorem dX11_gangs_1 : decode cX11_gangs 1 = .ok (.iload_n 2, 1) := by decide +kernel
theorem dX11_gangs_2 : decode cX11_gangs 2 = .ok (.invokestatic 200, 3) := by decide +kernel
theorem dX11_gangs_5 : decode cX11_gangs 5 = .ok (.ifCond .eq 18, 3) := by decide +kernel
theorem dX11_gangs_8 : decode cX11_gangs 8 = .ok (.aload_n 0, 1) := by decide +kernel
theorem dX11_gangs_9 : decode cX11_gangs 9 = .ok (.getfield 16, 3) := by decide +kernel
theorem dX11_gangs_12 : decode cX11_gangs 12 = .ok (.iload_n 1, 1) := by decide +kernel
theorem dX11_gangs_13 : decode cX11_gangs 13 = .ok (.iconst 3, 1) := by decide +kernel
theorem dX11_gangs_14 : decode cX11_gangs 14 = .ok (.imul, 1) := by decide +kernel
theorem dX11_gangs_15 : decode cX11_gangs 15 = .ok (.iload_n 2, 1) := by decide +kernel
theorem dX11_gangs_16 : decode cX11_gangs 16 = .ok (.iadd, 1) := by decide +kernel
theorem dX11_gangs_17 : decode cX11_gangs 17 = .ok (.invokevirtual 204, 3) := by decide +kernel
theorem dX11_gangs_20 : decode cX11_gangs 20 = .ok (.goto 4, 3) := by decide +kernel
theorem dX11_gangs_23 : decode cX11_gangs 23 = .ok (.iconst (-1), 1) := by decide +kernel
theorem dX11_gangs_24 : decode cX11_gangs 24 = .ok (.ireturn, 1) := by decide +kernel
theorem dX11_crane_0 : decode cX11_crane 0 = .ok (.aload_n 0, 1) := by decide +kernel
theorem dX11_crane_1 : decode cX11_crane 1 = .ok (.iload_n 1, 1) := by decide +kernel
theorem dX11_crane_2 : decode cX11_crane 2 = .ok (.invokevirtual 207, 3) := by decide +kernel
theorem dX11_crane_5 : decode cX11_crane 5 = .ok (.ifCond .ne 5, 3) := by decide +kernel
theorem dX11_crane_8 : decode cX11_crane 8 = .ok (.iconst (-1), 1) := by decide +kernel
theorem dX11_crane_9 : decode cX11_crane 9 = .ok (.ireturn, 1) := by decide +kernel
theorem dX11_crane_10 : decode cX11_crane 10 = .ok (.iload_n 2, 1) := by decide +kernel
theorem dX11_crane_11 : decode cX11_crane 11 = .ok (.lookupswitch 45 #[(0, 25), (1, 35)], 25) := by decide +kernel
theorem dX11_crane_36 : decode cX11_crane 36 = .ok (.aload_n 0, 1) := by decide +kernel
theorem dX11_crane_37 : decode cX11_crane 37 = .ok (.getfield 16, 3) := by decide +kernel
theorem dX11_crane_40 : decode cX11_crane 40 = .ok (.getfield 210, 3) := by decide +kernel
theorem dX11_crane_43 : decode cX11_crane 43 = .ok (.iload_n 1, 1) := by decide +kernel
theorem dX11_crane_44 : decode cX11_crane 44 = .ok (.iaload, 1) := by decide +kernel
theorem dX11_crane_45 : decode cX11_crane 45 = .ok (.ireturn, 1) := by decide +kernel
theorem dX11_crane_46 : decode cX11_crane 46 = .ok (.aload_n 0, 1) := by decide +kernel
theorem dX11_crane_47 : decode cX11_crane 47 = .ok (.getfield 16, 3) := by decide +kernel
theorem dX11_crane_50 : decode cX11_crane 50 = .ok (.getfield 213, 3) := by decide +kernel
theorem dX11_crane_53 : decode cX11_crane 53 = .ok (.iload_n 1, 1) := by decide +kernel
theorem dX11_crane_54 : decode cX11_crane 54 = .ok (.iaload, 1) := by decide +kernel
theorem dX11_crane_55 : decode cX11_crane 55 = .ok (.ireturn, 1) := by decide +kernel
theorem dX11_crane_56 : decode cX11_crane 56 = .ok (.iconst (-1), 1) := by decide +kernel
theorem dX11_crane_57 : decode cX11_crane 57 = .ok (.ireturn, 1) := by decide +kernel
theorem dX11_ship_0 : decode cX11_ship 0 = .ok (.aload_n 0, 1) := by decide +kernel
theorem dX11_ship_1 : decode cX11_ship 1 = .ok (.iload_n 1, 1) := by decide +kernel
theorem dX11_ship_2 : decode cX11_ship 2 = .ok (.invokevirtual 216, 3) := by decide +kernel
theorem dX11_ship_5 : decode cX11_ship 5 = .ok (.ifCond .eq 13, 3) := by decide +kernel
theorem dX11_ship_8 : decode cX11_ship 8 = .ok (.iload_n 2, 1) := by decide +kernel
theorem dX11_ship_9 : decode cX11_ship 9 = .ok (.ifCond .lt 9, 3) := by decide +kernel
theorem dX11_ship_12 : decode cX11_ship 12 = .ok (.iload_n 2, 1) := by decide +kernel
theorem dX11_ship_13 : decode cX11_ship 13 = .ok (.bipush 18, 2) := by decide +kernel
theorem dX11_ship_15 : decode cX11_ship 15 = .ok (.if_icmp .lt 5, 3) := by decide +kernel
theorem dX11_ship_18 : decode cX11_ship 18 = .ok (.iconst (-1), 1) := by decide +kernel
theorem dX11_ship_19 : decode cX11_ship 19 = .ok (.ireturn, 1) := by decide +kernel
theorem dX11_ship_20 : decode cX11_ship 20 = .ok (.iload_n 2, 1) := by decide +kernel
theorem dX11_ship_21 : decode cX11_ship 21 = .ok (.bipush 9, 2) := by decide +kernel
theorem dX11_ship_23 : decode cX11_ship 23 = .ok (.if_icmp .ge 13, 3) := by decide +kernel
theorem dX11_ship_26 : decode cX11_ship 26 = .ok (.aload_n 0, 1) := by decide +kernel
theorem dX11_ship_27 : decode cX11_ship 27 = .ok (.getfield 16, 3) := by decide +kernel
theorem dX11_ship_30 : decode cX11_ship 30 = .ok (.iload_n 1, 1) := by decide +kernel
theorem dX11_ship_31 : decode cX11_ship 31 = .ok (.iload_n 2, 1) := by decide +kernel
theorem dX11_ship_32 : decode cX11_ship 32 = .ok (.invokevirtual 219, 3) := by decide +kernel
theorem dX11_ship_35 : decode cX11_ship 35 = .ok (.ireturn, 1) := by decide +kernel
theorem dX11_ship_36 : decode cX11_ship 36 = .ok (.aload_n 0, 1) := by decide +kernel
theorem dX11_ship_37 : decode cX11_ship 37 = .ok (.getfield 49, 3) := by decide +kernel
theorem dX11_ship_40 : decode cX11_ship 40 = .ok (.iload_n 1, 1) := by decide +kernel
theorem dX11_ship_41 : decode cX11_ship 41 = .ok (.invokevirtual 178, 3) := by decide +kernel
theorem dX11_ship_44 : decode cX11_ship 44 = .ok (.ifCond .eq 12, 3) := by decide +kernel
theorem dX11_ship_47 : decode cX11_ship 47 = .ok (.aload_n 0, 1) := by decide +kernel
theorem dX11_ship_48 : decode cX11_ship 48 = .ok (.iload_n 1, 1) := by decide +kernel
theorem dX11_ship_49 : decode cX11_ship 49 = .ok (.iload_n 2, 1) := by decide +kernel
theorem dX11_ship_50 : decode cX11_ship 50 = .ok (.invokevirtual 222, 3) := by decide +kernel
theorem dX11_ship_53 : decode cX11_ship 53 = .ok (.goto 5, 3) := by decide +kernel
theorem dX11_ship_56 : decode cX11_ship 56 = .ok (.bipush (-2), 2) := by decide +kernel
theorem dX11_ship_58 : decode cX11_ship 58 = .ok (.ireturn, 1) := by decide +kernel
theorem dX11_stayFact_0 : decode cX11_stayFact 0 = .ok (.iload_n 2, 1) := by decide +kernel
theorem dX11_stayFact_1 : decode cX11_stayFact 1 = .ok (.tableswitch 169 9 17 #[51, 61, 71, 81, 91, 101, 121, 151, 160], 51) := by decide +kernel
theorem dX11_stayFact_52 : decode cX11_stayFact 52 = .ok (.aload_n 0, 1) := by decide +kernel
theorem dX11_stayFact_53 : decode cX11_stayFact 53 = .ok (.getfield 49, 3) := by decide +kernel
theorem dX11_stayFact_56 : decode cX11_stayFact 56 = .ok (.getfield 225, 3) := by decide +kernel
theorem dX11_stayFact_59 : decode cX11_stayFact 59 = .ok (.iload_n 1, 1) := by decide +kernel
theorem dX11_stayFact_60 : decode cX11_stayFact 60 = .ok (.iaload, 1) := by decide +kernel
theorem dX11_stayFact_61 : decode cX11_stayFact 61 = .ok (.ireturn, 1) := by decide +kernel
theorem dX11_stayFact_62 : decode cX11_stayFact 62 = .ok (.aload_n 0, 1) := by decide +kernel
theorem dX11_stayFact_63 : decode cX11_stayFact 63 = .ok (.getfield 49, 3) := by decide +kernel
theorem dX11_stayFact_66 : decode cX11_stayFact 66 = .ok (.getfield 228, 3) := by decide +kernel
theorem dX11_stayFact_69 : decode cX11_stayFact 69 = .ok (.iload_n 1, 1) := by decide +kernel
theorem dX11_stayFact_70 : decode cX11_stayFact 70 = .ok (.iaload, 1) := by decide +kernel
theorem dX11_stayFact_71 : decode cX11_stayFact 71 = .ok (.ireturn, 1) := by decide +kernel
theorem dX11_stayFact_72 : decode cX11_stayFact 72 = .ok (.aload_n 0, 1) := by decide +kernel
theorem dX11_stayFact_73 : decode cX11_stayFact 73 = .ok (.getfield 49, 3) := by decide +kernel
theorem dX11_stayFact_76 : decode cX11_stayFact 76 = .ok (.getfield 231, 3) := by decide +kernel
theorem dX11_stayFact_79 : decode cX11_stayFact 79 = .ok (.iload_n 1, 1) := by decide +kernel
theorem dX11_stayFact_80 : decode cX11_stayFact 80 = .ok (.iaload, 1) := by decide +kernel
theorem dX11_stayFact_81 : decode cX11_stayFact 81 = .ok (.ireturn, 1) := by decide +kernel
theorem dX11_stayFact_82 : decode cX11_stayFact 82 = .ok (.aload_n 0, 1) := by decide +kernel
theorem dX11_stayFact_83 : decode cX11_stayFact 83 = .ok (.getfield 49, 3) := by decide +kernel
theorem dX11_stayFact_86 : decode cX11_stayFact 86 = .ok (.getfield 233, 3) := by decide +kernel
theorem dX11_stayFact_89 : decode cX11_stayFact 89 = .ok (.iload_n 1, 1) := by decide +kernel
theorem dX11_stayFact_90 : decode cX11_stayFact 90 = .ok (.iaload, 1) := by decide +kernel
theorem dX11_stayFact_91 : decode cX11_stayFact 91 = .ok (.ireturn, 1) := by decide +kernel
theorem dX11_stayFact_92 : decode cX11_stayFact 92 = .ok (.aload_n 0, 1) := by decide +kernel
theorem dX11_stayFact_93 : decode cX11_stayFact 93 = .ok (.getfield 49, 3) := by decide +kernel
theorem dX11_stayFact_96 : decode cX11_stayFact 96 = .ok (.getfield 236, 3) := by decide +kernel
theorem dX11_stayFact_99 : decode cX11_stayFact 99 = .ok (.iload_n 1, 1) := by decide +kernel
theorem dX11_stayFact_100 : decode cX11_stayFact 100 = .ok (.iaload, 1) := by decide +kernel
theorem dX11_stayFact_101 : decode cX11_stayFact 101 = .ok (.ireturn, 1) := by decide +kernel
theorem dX11_stayFact_102 : decode cX11_stayFact 102 = .ok (.aload_n 0, 1) := by decide +kernel
theorem dX11_stayFact_103 : decode cX11_stayFact 103 = .ok (.getfield 49, 3) := by decide +kernel
theorem dX11_stayFact_106 : decode cX11_stayFact 106 = .ok (.getfield 228, 3) := by decide +kernel
theorem dX11_stayFact_109 : decode cX11_stayFact 109 = .ok (.iload_n 1, 1) := by decide +kernel
theorem dX11_stayFact_110 : decode cX11_stayFact 110 = .ok (.iaload, 1) := by decide +kernel
theorem dX11_stayFact_111 : decode cX11_stayFact 111 = .ok (.aload_n 0, 1) := by decide +kernel
theorem dX11_stayFact_112 : decode cX11_stayFact 112 = .ok (.getfield 16, 3) := by decide +kernel
theorem dX11_stayFact_115 : decode cX11_stayFact 115 = .ok (.iload_n 1, 1) := by decide +kernel
theorem dX11_stayFact_116 : decode cX11_stayFact 116 = .ok (.iconst 4, 1) := by decide +kernel
theorem dX11_stayFact_117 : decode cX11_stayFact 117 = .ok (.invokevirtual 219, 3) := by decide +kernel
theorem dX11_stayFact_120 : decode cX11_stayFact 120 = .ok (.isub, 1) := by decide +kernel
theorem dX11_stayFact_121 : decode cX11_stayFact 121 = .ok (.ireturn, 1) := by decide +kernel
theorem dX11_stayFact_122 : decode cX11_stayFact 122 = .ok (.aload_n 0, 1) := by decide +kernel
theorem dX11_stayFact_123 : decode cX11_stayFact 123 = .ok (.getfield 49, 3) := by decide +kernel
theorem dX11_stayFact_126 : decode cX11_stayFact 126 = .ok (.getfield 236, 3) := by decide +kernel
theorem dX11_stayFact_129 : decode cX11_stayFact 129 = .ok (.iload_n 1, 1) := by decide +kernel
theorem dX11_stayFact_130 : decode cX11_stayFact 130 = .ok (.iaload, 1) := by decide +kernel
theorem dX11_stayFact_131 : decode cX11_stayFact 131 = .ok (.aload_n 0, 1) := by decide +kernel
theorem dX11_stayFact_132 : decode cX11_stayFact 132 = .ok (.getfield 49, 3) := by decide +kernel
theorem dX11_stayFact_135 : decode cX11_stayFact 135 = .ok (.getfield 228, 3) := by decide +kernel
theorem dX11_stayFact_138 : decode cX11_stayFact 138 = .ok (.iload_n 1, 1) := by decide +kernel
theorem dX11_stayFact_139 : decode cX11_stayFact 139 = .ok (.iaload, 1) := by decide +kernel
theorem dX11_stayFact_140 : decode cX11_stayFact 140 = .ok (.isub, 1) := by decide +kernel
theorem dX11_stayFact_141 : decode cX11_stayFact 141 = .ok (.aload_n 0, 1) := by decide +kernel
theorem dX11_stayFact_142 : decode cX11_stayFact 142 = .ok (.getfield 49, 3) := by decide +kernel
theorem dX11_stayFact_145 : decode cX11_stayFact 145 = .ok (.getfield 233, 3) := by decide +kernel
theorem dX11_stayFact_148 : decode cX11_stayFact 148 = .ok (.iload_n 1, 1) := by decide +kernel
theorem dX11_stayFact_149 : decode cX11_stayFact 149 = .ok (.iaload, 1) := by decide +kernel
theorem dX11_stayFact_150 : decode cX11_stayFact 150 = .ok (.isub, 1) := by decide +kernel
theorem dX11_stayFact_151 : decode cX11_stayFact 151 = .ok (.ireturn, 1) := by decide +kernel
theorem dX11_stayFact_152 : decode cX11_stayFact 152 = .ok (.aload_n 0, 1) := by decide +kernel
theorem dX11_stayFact_153 : decode cX11_stayFact 153 = .ok (.getfield 49, 3) := by decide +kernel
theorem dX11_stayFact_156 : decode cX11_stayFact 156 = .ok (.iload_n 1, 1) := by decide +kernel
theorem dX11_stayFact_157 : decode cX11_stayFact 157 = .ok (.invokevirtual 239, 3) := by decide +kernel
theorem dX11_stayFact_160 : decode cX11_stayFact 160 = .ok (.ireturn, 1) := by decide +kernel
theorem dX11_stayFact_161 : decode cX11_stayFact 161 = .ok (.aload_n 0, 1) := by decide +kernel
theorem dX11_stayFact_162 : decode cX11_stayFact 162 = .ok (.getfield 49, 3) := by decide +kernel
theorem dX11_stayFact_165 : decode cX11_stayFact 165 = .ok (.iload_n 1, 1) := by decide +kernel
theorem dX11_stayFact_166 : decode cX11_stayFact 166 = .ok (.invokevirtual 182, 3) := by decide +kernel
theorem dX11_stayFact_169 : decode cX11_stayFact 169 = .ok (.ireturn, 1) := by decide +kernel
theorem dX11_stayFact_170 : decode cX11_stayFact 170 = .ok (.iconst (-1), 1) := by decide +kernel
theorem dX11_stayFact_171 : decode cX11_stayFact 171 = .ok (.ireturn, 1) := by decide +kernel
theorem dX11_letter_0 : decode cX11_letter 0 = .ok (.aload_n 0, 1) := by decide +kernel
theorem dX11_letter_1 : decode cX11_letter 1 = .ok (.iload_n 1, 1) := by decide +kernel
theorem dX11_letter_2 : decode cX11_letter 2 = .ok (.invokevirtual 216, 3) := by decide +kernel
theorem dX11_letter_5 : decode cX11_letter 5 = .ok (.ifCond .eq 13, 3) := by decide +kernel
theorem dX11_letter_8 : decode cX11_letter 8 = .ok (.iload_n 2, 1) := by decide +kernel
theorem dX11_letter_9 : decode cX11_letter 9 = .ok (.ifCond .lt 9, 3) := by decide +kernel
theorem dX11_letter_12 : decode cX11_letter 12 = .ok (.iload_n 2, 1) := by decide +kernel
theorem dX11_letter_13 : decode cX11_letter 13 = .ok (.bipush 8, 2) := by decide +kernel
theorem dX11_letter_15 : decode cX11_letter 15 = .ok (.if_icmp .lt 5, 3) := by decide +kernel
theorem dX11_letter_18 : decode cX11_letter 18 = .ok (.iconst (-1), 1) := by decide +kernel
theorem dX11_letter_19 : decode cX11_letter 19 = .ok (.ireturn, 1) := by decide +kernel
theorem dX11_letter_20 : decode cX11_letter 20 = .ok (.aload_n 0, 1) := by decide +kernel
theorem dX11_letter_21 : decode cX11_letter 21 = .ok (.getfield 16, 3) := by decide +kernel
theorem dX11_letter_24 : decode cX11_letter 24 = .ok (.iload_n 1, 1) := by decide +kernel
theorem dX11_letter_25 : decode cX11_letter 25 = .ok (.iload_n 2, 1) := by decide +kernel
theorem dX11_letter_26 : decode cX11_letter 26 = .ok (.invokevirtual 242, 3) := by decide +kernel
theorem dX11_letter_29 : decode cX11_letter 29 = .ok (.istore_n 3, 1) := by decide +kernel
theorem dX11_letter_30 : decode cX11_letter 30 = .ok (.iload_n 3, 1) := by decide +kernel
theorem dX11_letter_31 : decode cX11_letter 31 = .ok (.ifCond .ne 7, 3) := by decide +kernel
theorem dX11_letter_34 : decode cX11_letter 34 = .ok (.iconst 0, 1) := by decide +kernel
theorem dX11_letter_35 : decode cX11_letter 35 = .ok (.goto 9, 3) := by decide +kernel
theorem dX11_letter_38 : decode cX11_letter 38 = .ok (.iload_n 3, 1) := by decide +kernel
theorem dX11_letter_39 : decode cX11_letter 39 = .ok (.bipush 97, 2) := by decide +kernel
theorem dX11_letter_41 : decode cX11_letter 41 = .ok (.isub, 1) := by decide +kernel
theorem dX11_letter_42 : decode cX11_letter 42 = .ok (.iconst 1, 1) := by decide +kernel
theorem dX11_letter_43 : decode cX11_letter 43 = .ok (.iadd, 1) := by decide +kernel
theorem dX11_letter_44 : decode cX11_letter 44 = .ok (.ireturn, 1) := by decide +kernel
theorem dX11_moves_0 : decode cX11_moves 0 = .ok (.iload_n 1, 1) := by decide +kernel
theorem dX11_moves_1 : decode cX11_moves 1 = .ok (.invokestatic 245, 3) := by decide +kernel
theorem dX11_moves_4 : decode cX11_moves 4 = .ok (.ifCond .eq 14, 3) := by decide +kernel
theorem dX11_moves_7 : decode cX11_moves 7 = .ok (.aload_n 0, 1) := by decide +kernel
theorem dX11_moves_8 : decode cX11_moves 8 = .ok (.getfield 16, 3) := by decide +kernel
theorem dX11_moves_11 : decode cX11_moves 11 = .ok (.iload_n 1, 1) := by decide +kernel
theorem dX11_moves_12 : decode cX11_moves 12 = .ok (.invokevirtual 248, 3) := by decide +kernel
theorem dX11_moves_15 : decode cX11_moves 15 = .ok (.goto 4, 3) := by decide +kernel
theorem dX11_moves_18 : decode cX11_moves 18 = .ok (.iconst (-1), 1) := by decide +kernel
theorem dX11_moves_19 : decode cX11_moves 19 = .ok (.ireturn, 1) := by decide +kernel
theorem dX11_open_0 : decode cX11_open 0 = .ok (.iload_n 1, 1) := by decide +kernel
theorem dX11_open_1 : decode cX11_open 1 = .ok (.invokestatic 251, 3) := by decide +kernel
theorem dX11_open_4 : decode cX11_open 4 = .ok (.ifCond .eq 10, 3) := by decide +kernel
theorem dX11_open_7 : decode cX11_open 7 = .ok (.iload_n 2, 1) := by decide +kernel
theorem dX11_open_8 : decode cX11_open 8 = .ok (.invokestatic 194, 3) := by decide +kernel
theorem dX11_open_11 : decode cX11_open 11 = .ok (.ifCond .ne 5, 3) := by decide +kernel
theorem dX11_open_14 : decode cX11_open 14 = .ok (.iconst (-1), 1) := by decide +kernel
theorem dX11_open_15 : decode cX11_open 15 = .ok (.ireturn, 1) := by decide +kernel
theorem dX11_open_16 : decode cX11_open 16 = .ok (.aload_n 0, 1) := by decide +kernel
theorem dX11_open_17 : decode cX11_open 17 = .ok (.getfield 40, 3) := by decide +kernel
theorem dX11_open_20 : decode cX11_open 20 = .ok (.iload_n 1, 1) := by decide +kernel
theorem dX11_open_21 : decode cX11_open 21 = .ok (.iload_n 2, 1) := by decide +kernel
theorem dX11_open_22 : decode cX11_open 22 = .ok (.invokevirtual 254, 3) := by decide +kernel
theorem dX11_open_25 : decode cX11_open 25 = .ok (.ifCond .eq 7, 3) := by decide +kernel
theorem dX11_open_28 : decode cX11_open 28 = .ok (.iconst 1, 1) := by decide +kernel
theorem dX11_open_29 : decode cX11_open 29 = .ok (.goto 4, 3) := by decide +kernel
theorem dX11_open_32 : decode cX11_open 32 = .ok (.iconst 0, 1) := by decide +kernel
theorem dX11_open_33 : decode cX11_open 33 = .ok (.ireturn, 1) := by decide +kernel
theorem dX11_next_0 : decode cX11_next 0 = .ok (.iload_n 1, 1) := by decide +kernel
theorem dX11_next_1 : decode cX11_next 1 = .ok (.invokestatic 251, 3) := by decide +kernel
theorem dX11_next_4 : decode cX11_next 4 = .ok (.ifCond .eq 10, 3) := by decide +kernel
theorem dX11_next_7 : decode cX11_next 7 = .ok (.iload_n 2, 1) := by decide +kernel
theorem dX11_next_8 : decode cX11_next 8 = .ok (.invokestatic 194, 3) := by decide +kernel
theorem dX11_next_11 : decode cX11_next 11 = .ok (.ifCond .ne 5, 3) := by decide +kernel
theorem dX11_next_14 : decode cX11_next 14 = .ok (.iconst (-1), 1) := by decide +kernel
theorem dX11_next_15 : decode cX11_next 15 = .ok (.ireturn, 1) := by decide +kernel
theorem dX11_next_16 : decode cX11_next 16 = .ok (.aload_n 0, 1) := by decide +kernel
theorem dX11_next_17 : decode cX11_next 17 = .ok (.getfield 40, 3) := by decide +kernel
theorem dX11_next_20 : decode cX11_next 20 = .ok (.iload_n 1, 1) := by decide +kernel
theorem dX11_next_21 : decode cX11_next 21 = .ok (.iload_n 2, 1) := by decide +kernel
theorem dX11_next_22 : decode cX11_next 22 = .ok (.invokevirtual 257, 3) := by decide +kernel
theorem dX11_next_25 : decode cX11_next 25 = .ok (.istore_n 3, 1) := by decide +kernel
theorem dX11_next_26 : decode cX11_next 26 = .ok (.iload_n 3, 1) := by decide +kernel
theorem dX11_next_27 : decode cX11_next 27 = .ok (.iconst (-1), 1) := by decide +kernel
theorem dX11_next_28 : decode cX11_next 28 = .ok (.if_icmp .ne 8, 3) := by decide +kernel
theorem dX11_next_31 : decode cX11_next 31 = .ok (.bipush (-2), 2) := by decide +kernel
theorem dX11_next_33 : decode cX11_next 33 = .ok (.goto 4, 3) := by decide +kernel
theorem dX11_next_36 : decode cX11_next 36 = .ok (.iload_n 3, 1) := by decide +kernel
theorem dX11_next_37 : decode cX11_next 37 = .ok (.ireturn, 1) := by decide +kernel
theorem dX11_shut_0 : decode cX11_shut 0 = .ok (.iload_n 1, 1) := by decide +kernel
theorem dX11_shut_1 : decode cX11_shut 1 = .ok (.invokestatic 251, 3) := by decide +kernel
theorem dX11_shut_4 : decode cX11_shut 4 = .ok (.ifCond .eq 12, 3) := by decide +kernel
theorem dX11_shut_7 : decode cX11_shut 7 = .ok (.iload_n 2, 1) := by decide +kernel
theorem dX11_shut_8 : decode cX11_shut 8 = .ok (.ifCond .lt 8, 3) := by decide +kernel
theorem dX11_shut_11 : decode cX11_shut 11 = .ok (.iload_n 2, 1) := by decide +kernel
theorem dX11_shut_12 : decode cX11_shut 12 = .ok (.iconst 1, 1) := by decide +kernel
theorem dX11_shut_13 : decode cX11_shut 13 = .ok (.if_icmp .le 5, 3) := by decide +kernel
theorem dX11_shut_16 : decode cX11_shut 16 = .ok (.iconst (-1), 1) := by decide +kernel
theorem dX11_shut_17 : decode cX11_shut 17 = .ok (.ireturn, 1) := by decide +kernel
theorem dX11_shut_18 : decode cX11_shut 18 = .ok (.iconst 0, 1) := by decide +kernel
theorem dX11_shut_19 : decode cX11_shut 19 = .ok (.istore_n 3, 1) := by decide +kernel
theorem dX11_shut_20 : decode cX11_shut 20 = .ok (.bipush (-2), 2) := by decide +kernel
theorem dX11_shut_22 : decode cX11_shut 22 = .ok (.istore 4, 2) := by decide +kernel
theorem dX11_shut_24 : decode cX11_shut 24 = .ok (.iconst 0, 1) := by decide +kernel
theorem dX11_shut_25 : decode cX11_shut 25 = .ok (.istore 5, 2) := by decide +kernel
theorem dX11_shut_27 : decode cX11_shut 27 = .ok (.iconst 0, 1) := by decide +kernel
theorem dX11_shut_28 : decode cX11_shut 28 = .ok (.istore 6, 2) := by decide +kernel
theorem dX11_shut_30 : decode cX11_shut 30 = .ok (.iload 6, 2) := by decide +kernel
theorem dX11_shut_32 : decode cX11_shut 32 = .ok (.sipush 336, 3) := by decide +kernel
theorem dX11_shut_35 : decode cX11_shut 35 = .ok (.if_icmp .ge 50, 3) := by decide +kernel
theorem dX11_shut_38 : decode cX11_shut 38 = .ok (.aload_n 0, 1) := by decide +kernel
theorem dX11_shut_39 : decode cX11_shut 39 = .ok (.getfield 40, 3) := by decide +kernel
theorem dX11_shut_42 : decode cX11_shut 42 = .ok (.iload_n 1, 1) := by decide +kernel
theorem dX11_shut_43 : decode cX11_shut 43 = .ok (.iload 6, 2) := by decide +kernel
theorem dX11_shut_45 : decode cX11_shut 45 = .ok (.invokevirtual 254, 3) := by decide +kernel
theorem dX11_shut_48 : decode cX11_shut 48 = .ok (.ifCond .eq 7, 3) := by decide +kernel
theorem dX11_shut_51 : decode cX11_shut 51 = .ok (.iconst 0, 1) := by decide +kernel
theorem dX11_shut_52 : decode cX11_shut 52 = .ok (.goto 7, 3) := by decide +kernel
theorem dX11_shut_55 : decode cX11_shut 55 = .ok (.iload 5, 2) := by decide +kernel
theorem dX11_shut_57 : decode cX11_shut 57 = .ok (.iconst 1, 1) := by decide +kernel
theorem dX11_shut_58 : decode cX11_shut 58 = .ok (.iadd, 1) := by decide +kernel
theorem dX11_shut_59 : decode cX11_shut 59 = .ok (.istore 5, 2) := by decide +kernel
theorem dX11_shut_61 : decode cX11_shut 61 = .ok (.iload 5, 2) := by decide +kernel
theorem dX11_shut_63 : decode cX11_shut 63 = .ok (.iload_n 3, 1) := by decide +kernel
theorem dX11_shut_64 : decode cX11_shut 64 = .ok (.if_icmp .le 15, 3) := by decide +kernel
theorem dX11_shut_67 : decode cX11_shut 67 = .ok (.iload 5, 2) := by decide +kernel
theorem dX11_shut_69 : decode cX11_shut 69 = .ok (.istore_n 3, 1) := by decide +kernel
theorem dX11_shut_70 : decode cX11_shut 70 = .ok (.iload 6, 2) := by decide +kernel
theorem dX11_shut_72 : decode cX11_shut 72 = .ok (.iload 5, 2) := by decide +kernel
theorem dX11_shut_74 : decode cX11_shut 74 = .ok (.isub, 1) := by decide +kernel
theorem dX11_shut_75 : decode cX11_shut 75 = .ok (.iconst 1, 1) := by decide +kernel
theorem dX11_shut_76 : decode cX11_shut 76 = .ok (.iadd, 1) := by decide +kernel
theorem dX11_shut_77 : decode cX11_shut 77 = .ok (.istore 4, 2) := by decide +kernel
theorem dX11_shut_79 : decode cX11_shut 79 = .ok (.iinc 6 1, 3) := by decide +kernel
theorem dX11_shut_82 : decode cX11_shut 82 = .ok (.goto (-52), 3) := by decide +kernel
theorem dX11_shut_85 : decode cX11_shut 85 = .ok (.iload_n 2, 1) := by decide +kernel
theorem dX11_shut_86 : decode cX11_shut 86 = .ok (.ifCond .ne 7, 3) := by decide +kernel
theorem dX11_shut_89 : decode cX11_shut 89 = .ok (.iload_n 3, 1) := by decide +kernel
theorem dX11_shut_90 : decode cX11_shut 90 = .ok (.goto 5, 3) := by decide +kernel
theorem dX11_shut_93 : decode cX11_shut 93 = .ok (.iload 4, 2) := by decide +kernel
theorem dX11_shut_95 : decode cX11_shut 95 = .ok (.ireturn, 1) := by decide +kernel
theorem dX11_tide_0 : decode cX11_tide 0 = .ok (.iload_n 1, 1) := by decide +kernel
theorem dX11_tide_1 : decode cX11_tide 1 = .ok (.invokestatic 194, 3) := by decide +kernel
theorem dX11_tide_4 : decode cX11_tide 4 = .ok (.ifCond .eq 24, 3) := by decide +kernel
theorem dX11_tide_7 : decode cX11_tide 7 = .ok (.iload_n 2, 1) := by decide +kernel
theorem dX11_tide_8 : decode cX11_tide 8 = .ok (.invokestatic 194, 3) := by decide +kernel
theorem dX11_tide_11 : decode cX11_tide 11 = .ok (.ifCond .eq 17, 3) := by decide +kernel
theorem dX11_tide_14 : decode cX11_tide 14 = .ok (.iload_n 2, 1) := by decide +kernel
theorem dX11_tide_15 : decode cX11_tide 15 = .ok (.iload_n 1, 1) := by decide +kernel
theorem dX11_tide_16 : decode cX11_tide 16 = .ok (.if_icmp .lt 12, 3) := by decide +kernel
theorem dX11_tide_19 : decode cX11_tide 19 = .ok (.iload_n 3, 1) := by decide +kernel
theorem dX11_tide_20 : decode cX11_tide 20 = .ok (.ifCond .lt 8, 3) := by decide +kernel
theorem dX11_tide_23 : decode cX11_tide 23 = .ok (.iload_n 3, 1) := by decide +kernel
theorem dX11_tide_24 : decode cX11_tide 24 = .ok (.iconst 3, 1) := by decide +kernel
theorem dX11_tide_25 : decode cX11_tide 25 = .ok (.if_icmp .le 5, 3) := by decide +kernel
theorem dX11_tide_28 : decode cX11_tide 28 = .ok (.iconst (-1), 1) := by decide +kernel
theorem dX11_tide_29 : decode cX11_tide 29 = .ok (.ireturn, 1) := by decide +kernel
theorem dX11_tide_30 : decode cX11_tide 30 = .ok (.iload_n 1, 1) := by decide +kernel
theorem dX11_tide_31 : decode cX11_tide 31 = .ok (.istore 4, 2) := by decide +kernel
theorem dX11_tide_33 : decode cX11_tide 33 = .ok (.iload_n 1, 1) := by decide +kernel
theorem dX11_tide_34 : decode cX11_tide 34 = .ok (.istore 5, 2) := by decide +kernel
theorem dX11_tide_36 : decode cX11_tide 36 = .ok (.iload_n 1, 1) := by decide +kernel
theorem dX11_tide_37 : decode cX11_tide 37 = .ok (.istore 6, 2) := by decide +kernel
theorem dX11_tide_39 : decode cX11_tide 39 = .ok (.iload 6, 2) := by decide +kernel
theorem dX11_tide_41 : decode cX11_tide 41 = .ok (.iload_n 2, 1) := by decide +kernel
theorem dX11_tide_42 : decode cX11_tide 42 = .ok (.if_icmp .gt 63, 3) := by decide +kernel
theorem dX11_tide_45 : decode cX11_tide 45 = .ok (.aload_n 0, 1) := by decide +kernel
theorem dX11_tide_46 : decode cX11_tide 46 = .ok (.getfield 40, 3) := by decide +kernel
theorem dX11_tide_49 : decode cX11_tide 49 = .ok (.getfield 197, 3) := by decide +kernel
theorem dX11_tide_52 : decode cX11_tide 52 = .ok (.iload 6, 2) := by decide +kernel
theorem dX11_tide_54 : decode cX11_tide 54 = .ok (.iaload, 1) := by decide +kernel
theorem dX11_tide_55 : decode cX11_tide 55 = .ok (.aload_n 0, 1) := by decide +kernel
theorem dX11_tide_56 : decode cX11_tide 56 = .ok (.getfield 40, 3) := by decide +kernel
theorem dX11_tide_59 : decode cX11_tide 59 = .ok (.getfield 197, 3) := by decide +kernel
theorem dX11_tide_62 : decode cX11_tide 62 = .ok (.iload 4, 2) := by decide +kernel
theorem dX11_tide_64 : decode cX11_tide 64 = .ok (.iaload, 1) := by decide +kernel
theorem dX11_tide_65 : decode cX11_tide 65 = .ok (.if_icmp .le 7, 3) := by decide +kernel
theorem dX11_tide_68 : decode cX11_tide 68 = .ok (.iload 6, 2) := by decide +kernel
theorem dX11_tide_70 : decode cX11_tide 70 = .ok (.istore 4, 2) := by decide +kernel
theorem dX11_tide_72 : decode cX11_tide 72 = .ok (.aload_n 0, 1) := by decide +kernel
theorem dX11_tide_73 : decode cX11_tide 73 = .ok (.getfield 40, 3) := by decide +kernel
theorem dX11_tide_76 : decode cX11_tide 76 = .ok (.getfield 197, 3) := by decide +kernel
theorem dX11_tide_79 : decode cX11_tide 79 = .ok (.iload 6, 2) := by decide +kernel
theorem dX11_tide_81 : decode cX11_tide 81 = .ok (.iaload, 1) := by decide +kernel
theorem dX11_tide_82 : decode cX11_tide 82 = .ok (.aload_n 0, 1) := by decide +kernel
theorem dX11_tide_83 : decode cX11_tide 83 = .ok (.getfield 40, 3) := by decide +kernel
theorem dX11_tide_86 : decode cX11_tide 86 = .ok (.getfield 197, 3) := by decide +kernel
theorem dX11_tide_89 : decode cX11_tide 89 = .ok (.iload 5, 2) := by decide +kernel
theorem dX11_tide_91 : decode cX11_tide 91 = .ok (.iaload, 1) := by decide +kernel
theorem dX11_tide_92 : decode cX11_tide 92 = .ok (.if_icmp .ge 7, 3) := by decide +kernel
theorem dX11_tide_95 : decode cX11_tide 95 = .ok (.iload 6, 2) := by decide +kernel
theorem dX11_tide_97 : decode cX11_tide 97 = .ok (.istore 5, 2) := by decide +kernel
theorem dX11_tide_99 : decode cX11_tide 99 = .ok (.iinc 6 1, 3) := by decide +kernel
theorem dX11_tide_102 : decode cX11_tide 102 = .ok (.goto (-63), 3) := by decide +kernel
theorem dX11_tide_105 : decode cX11_tide 105 = .ok (.iload_n 3, 1) := by decide +kernel
theorem dX11_tide_106 : decode cX11_tide 106 = .ok (.iconst 2, 1) := by decide +kernel
theorem dX11_tide_107 : decode cX11_tide 107 = .ok (.if_icmp .ge 8, 3) := by decide +kernel
theorem dX11_tide_110 : decode cX11_tide 110 = .ok (.iload 4, 2) := by decide +kernel
theorem dX11_tide_112 : decode cX11_tide 112 = .ok (.goto 5, 3) := by decide +kernel
theorem dX11_tide_115 : decode cX11_tide 115 = .ok (.iload 5, 2) := by decide +kernel
theorem dX11_tide_117 : decode cX11_tide 117 = .ok (.istore 6, 2) := by decide +kernel
theorem dX11_tide_119 : decode cX11_tide 119 = .ok (.iload_n 3, 1) := by decide +kernel
theorem dX11_tide_120 : decode cX11_tide 120 = .ok (.iconst 2, 1) := by decide +kernel
theorem dX11_tide_121 : decode cX11_tide 121 = .ok (.irem, 1) := by decide +kernel
theorem dX11_tide_122 : decode cX11_tide 122 = .ok (.ifCond .ne 16, 3) := by decide +kernel
theorem dX11_tide_125 : decode cX11_tide 125 = .ok (.aload_n 0, 1) := by decide +kernel
theorem dX11_tide_126 : decode cX11_tide 126 = .ok (.getfield 40, 3) := by decide +kernel
theorem dX11_tide_129 : decode cX11_tide 129 = .ok (.getfield 197, 3) := by decide +kernel
theorem dX11_tide_132 : decode cX11_tide 132 = .ok (.iload 6, 2) := by decide +kernel
theorem dX11_tide_134 : decode cX11_tide 134 = .ok (.iaload, 1) := by decide +kernel
theorem dX11_tide_135 : decode cX11_tide 135 = .ok (.goto 5, 3) := by decide +kernel
theorem dX11_tide_138 : decode cX11_tide 138 = .ok (.iload 6, 2) := by decide +kernel
theorem dX11_tide_140 : decode cX11_tide 140 = .ok (.ireturn, 1) := by decide +kernel
theorem dX11_breaks_0 : decode cX11_breaks 0 = .ok (.aload_n 0, 1) := by decide +kernel
theorem dX11_breaks_1 : decode cX11_breaks 1 = .ok (.iload_n 1, 1) := by decide +kernel
theorem dX11_breaks_2 : decode cX11_breaks 2 = .ok (.invokevirtual 216, 3) := by decide +kernel
theorem dX11_breaks_5 : decode cX11_breaks 5 = .ok (.ifCond .ne 5, 3) := by decide +kernel
theorem dX11_breaks_8 : decode cX11_breaks 8 = .ok (.iconst (-1), 1) := by decide +kernel
theorem dX11_breaks_9 : decode cX11_breaks 9 = .ok (.ireturn, 1) := by decide +kernel
theorem dX11_breaks_10 : decode cX11_breaks 10 = .ok (.aload_n 0, 1) := by decide +kernel
theorem dX11_breaks_11 : decode cX11_breaks 11 = .ok (.getfield 49, 3) := by decide +kernel
theorem dX11_breaks_14 : decode cX11_breaks 14 = .ok (.iload_n 1, 1) := by decide +kernel
theorem dX11_breaks_15 : decode cX11_breaks 15 = .ok (.invokevirtual 260, 3) := by decide +kernel
theorem dX11_breaks_18 : decode cX11_breaks 18 = .ok (.aload_n 0, 1) := by decide +kernel
theorem dX11_breaks_19 : decode cX11_breaks 19 = .ok (.getfield 67, 3) := by decide +kernel
theorem dX11_breaks_22 : decode cX11_breaks 22 = .ok (.iload_n 1, 1) := by decide +kernel
theorem dX11_breaks_23 : decode cX11_breaks 23 = .ok (.iload_n 2, 1) := by decide +kernel
theorem dX11_breaks_24 : decode cX11_breaks 24 = .ok (.iload_n 3, 1) := by decide +kernel
theorem dX11_breaks_25 : decode cX11_breaks 25 = .ok (.iload 4, 2) := by decide +kernel
theorem dX11_breaks_27 : decode cX11_breaks 27 = .ok (.invokevirtual 263, 3) := by decide +kernel
theorem dX11_breaks_30 : decode cX11_breaks 30 = .ok (.istore 5, 2) := by decide +kernel
theorem dX11_breaks_32 : decode cX11_breaks 32 = .ok (.aload_n 0, 1) := by decide +kernel
theorem dX11_breaks_33 : decode cX11_breaks 33 = .ok (.getfield 49, 3) := by decide +kernel
theorem dX11_breaks_36 : decode cX11_breaks 36 = .ok (.iload_n 1, 1) := by decide +kernel
theorem dX11_breaks_37 : decode cX11_breaks 37 = .ok (.invokevirtual 267, 3) := by decide +kernel
theorem dX11_breaks_40 : decode cX11_breaks 40 = .ok (.iload 5, 2) := by decide +kernel
theorem dX11_breaks_42 : decode cX11_breaks 42 = .ok (.ireturn, 1) := by decide +kernel
theorem dX11_inWay_0 : decode cX11_inWay 0 = .ok (.aload_n 0, 1) := by decide +kernel
theorem dX11_inWay_1 : decode cX11_inWay 1 = .ok (.iload_n 1, 1) := by decide +kernel
theorem dX11_inWay_2 : decode cX11_inWay 2 = .ok (.invokevirtual 216, 3) := by decide +kernel
theorem dX11_inWay_5 : decode cX11_inWay 5 = .ok (.ifCond .ne 5, 3) := by decide +kernel
theorem dX11_inWay_8 : decode cX11_inWay 8 = .ok (.iconst (-1), 1) := by decide +kernel
theorem dX11_inWay_9 : decode cX11_inWay 9 = .ok (.ireturn, 1) := by decide +kernel
theorem dX11_inWay_10 : decode cX11_inWay 10 = .ok (.aload_n 0, 1) := by decide +kernel
theorem dX11_inWay_11 : decode cX11_inWay 11 = .ok (.getfield 67, 3) := by decide +kernel
theorem dX11_inWay_14 : decode cX11_inWay 14 = .ok (.iload_n 1, 1) := by decide +kernel
theorem dX11_inWay_15 : decode cX11_inWay 15 = .ok (.iload_n 2, 1) := by decide +kernel
theorem dX11_inWay_16 : decode cX11_inWay 16 = .ok (.invokevirtual 270, 3) := by decide +kernel
theorem dX11_inWay_19 : decode cX11_inWay 19 = .ok (.ifCond .eq 17, 3) := by decide +kernel
theorem dX11_inWay_22 : decode cX11_inWay 22 = .ok (.aload_n 0, 1) := by decide +kernel
theorem dX11_inWay_23 : decode cX11_inWay 23 = .ok (.getfield 67, 3) := by decide +kernel
theorem dX11_inWay_26 : decode cX11_inWay 26 = .ok (.iload_n 1, 1) := by decide +kernel
theorem dX11_inWay_27 : decode cX11_inWay 27 = .ok (.iload_n 3, 1) := by decide +kernel
theorem dX11_inWay_28 : decode cX11_inWay 28 = .ok (.iload 4, 2) := by decide +kernel
theorem dX11_inWay_30 : decode cX11_inWay 30 = .ok (.invokevirtual 273, 3) := by decide +kernel
theorem dX11_inWay_33 : decode cX11_inWay 33 = .ok (.ifCond .eq 5, 3) := by decide +kernel
theorem dX11_inWay_36 : decode cX11_inWay 36 = .ok (.iconst 0, 1) := by decide +kernel
theorem dX11_inWay_37 : decode cX11_inWay 37 = .ok (.ireturn, 1) := by decide +kernel
theorem dX11_inWay_38 : decode cX11_inWay 38 = .ok (.iconst 0, 1) := by decide +kernel
theorem dX11_inWay_39 : decode cX11_inWay 39 = .ok (.istore 5, 2) := by decide +kernel
theorem dX11_inWay_41 : decode cX11_inWay 41 = .ok (.iconst 0, 1) := by decide +kernel
theorem dX11_inWay_42 : decode cX11_inWay 42 = .ok (.istore 6, 2) := by decide +kernel
theorem dX11_inWay_44 : decode cX11_inWay 44 = .ok (.iload 6, 2) := by decide +kernel
theorem dX11_inWay_46 : decode cX11_inWay 46 = .ok (.aload_n 0, 1) := by decide +kernel
theorem dX11_inWay_47 : decode cX11_inWay 47 = .ok (.getfield 16, 3) := by decide +kernel
theorem dX11_inWay_50 : decode cX11_inWay 50 = .ok (.getfield 158, 3) := by decide +kernel
theorem dX11_inWay_53 : decode cX11_inWay 53 = .ok (.if_icmp .ge 33, 3) := by decide +kernel
theorem dX11_inWay_56 : decode cX11_inWay 56 = .ok (.aload_n 0, 1) := by decide +kernel
theorem dX11_inWay_57 : decode cX11_inWay 57 = .ok (.getfield 67, 3) := by decide +kernel
theorem dX11_inWay_60 : decode cX11_inWay 60 = .ok (.iload 6, 2) := by decide +kernel
theorem dX11_inWay_62 : decode cX11_inWay 62 = .ok (.iload_n 1, 1) := by decide +kernel
theorem dX11_inWay_63 : decode cX11_inWay 63 = .ok (.iload_n 2, 1) := by decide +kernel
theorem dX11_inWay_64 : decode cX11_inWay 64 = .ok (.iload_n 3, 1) := by decide +kernel
theorem dX11_inWay_65 : decode cX11_inWay 65 = .ok (.invokevirtual 277, 3) := by decide +kernel
theorem dX11_inWay_68 : decode cX11_inWay 68 = .ok (.ifCond .eq 12, 3) := by decide +kernel
theorem dX11_inWay_71 : decode cX11_inWay 71 = .ok (.iload 5, 2) := by decide +kernel
theorem dX11_inWay_73 : decode cX11_inWay 73 = .ok (.iconst 1, 1) := by decide +kernel
theorem dX11_inWay_74 : decode cX11_inWay 74 = .ok (.iload 6, 2) := by decide +kernel
theorem dX11_inWay_76 : decode cX11_inWay 76 = .ok (.ishl, 1) := by decide +kernel
theorem dX11_inWay_77 : decode cX11_inWay 77 = .ok (.ior, 1) := by decide +kernel
theorem dX11_inWay_78 : decode cX11_inWay 78 = .ok (.istore 5, 2) := by decide +kernel
theorem dX11_inWay_80 : decode cX11_inWay 80 = .ok (.iinc 6 1, 3) := by decide +kernel
theorem dX11_inWay_83 : decode cX11_inWay 83 = .ok (.goto (-39), 3) := by decide +kernel
theorem dX11_inWay_86 : decode cX11_inWay 86 = .ok (.iload 5, 2) := by decide +kernel
theorem dX11_inWay_88 : decode cX11_inWay 88 = .ok (.ireturn, 1) := by decide +kernel
theorem dX11_earliest_0 : decode cX11_earliest 0 = .ok (.aload_n 0, 1) := by decide +kernel
theorem dX11_earliest_1 : decode cX11_earliest 1 = .ok (.iload_n 1, 1) := by decide +kernel
theorem dX11_earliest_2 : decode cX11_earliest 2 = .ok (.invokevirtual 216, 3) := by decide +kernel
theorem dX11_earliest_5 : decode cX11_earliest 5 = .ok (.ifCond .eq 19, 3) := by decide +kernel
theorem dX11_earliest_8 : decode cX11_earliest 8 = .ok (.iload_n 2, 1) := by decide +kernel
theorem dX11_earliest_9 : decode cX11_earliest 9 = .ok (.invokestatic 245, 3) := by decide +kernel
theorem dX11_earliest_12 : decode cX11_earliest 12 = .ok (.ifCond .eq 12, 3) := by decide +kernel
theorem dX11_earliest_15 : decode cX11_earliest 15 = .ok (.iload_n 3, 1) := by decide +kernel
theorem dX11_earliest_16 : decode cX11_earliest 16 = .ok (.ifCond .lt 8, 3) := by decide +kernel
theorem dX11_earliest_19 : decode cX11_earliest 19 = .ok (.iload_n 3, 1) := by decide +kernel
theorem dX11_earliest_20 : decode cX11_earliest 20 = .ok (.iconst 2, 1) := by decide +kernel
theorem dX11_earliest_21 : decode cX11_earliest 21 = .ok (.if_icmp .le 5, 3) := by decide +kernel
theorem dX11_earliest_24 : decode cX11_earliest 24 = .ok (.iconst (-1), 1) := by decide +kernel
theorem dX11_earliest_25 : decode cX11_earliest 25 = .ok (.ireturn, 1) := by decide +kernel
theorem dX11_earliest_26 : decode cX11_earliest 26 = .ok (.aload_n 0, 1) := by decide +kernel
theorem dX11_earliest_27 : decode cX11_earliest 27 = .ok (.getfield 49, 3) := by decide +kernel
theorem dX11_earliest_30 : decode cX11_earliest 30 = .ok (.iload_n 1, 1) := by decide +kernel
theorem dX11_earliest_31 : decode cX11_earliest 31 = .ok (.invokevirtual 260, 3) := by decide +kernel
theorem dX11_earliest_34 : decode cX11_earliest 34 = .ok (.aload_n 0, 1) := by decide +kernel
theorem dX11_earliest_35 : decode cX11_earliest 35 = .ok (.getfield 76, 3) := by decide +kernel
theorem dX11_earliest_38 : decode cX11_earliest 38 = .ok (.iload_n 1, 1) := by decide +kernel
theorem dX11_earliest_39 : decode cX11_earliest 39 = .ok (.iload_n 2, 1) := by decide +kernel
theorem dX11_earliest_40 : decode cX11_earliest 40 = .ok (.iload_n 2, 1) := by decide +kernel
theorem dX11_earliest_41 : decode cX11_earliest 41 = .ok (.invokevirtual 281, 3) := by decide +kernel
theorem dX11_earliest_44 : decode cX11_earliest 44 = .ok (.istore 4, 2) := by decide +kernel
theorem dX11_earliest_46 : decode cX11_earliest 46 = .ok (.aload_n 0, 1) := by decide +kernel
theorem dX11_earliest_47 : decode cX11_earliest 47 = .ok (.getfield 49, 3) := by decide +kernel
theorem dX11_earliest_50 : decode cX11_earliest 50 = .ok (.iload_n 1, 1) := by decide +kernel
theorem dX11_earliest_51 : decode cX11_earliest 51 = .ok (.invokevirtual 267, 3) := by decide +kernel
theorem dX11_earliest_54 : decode cX11_earliest 54 = .ok (.iload 4, 2) := by decide +kernel
theorem dX11_earliest_56 : decode cX11_earliest 56 = .ok (.ifCond .ne 6, 3) := by decide +kernel
theorem dX11_earliest_59 : decode cX11_earliest 59 = .ok (.bipush (-2), 2) := by decide +kernel
theorem dX11_earliest_61 : decode cX11_earliest 61 = .ok (.ireturn, 1) := by decide +kernel
theorem dX11_earliest_62 : decode cX11_earliest 62 = .ok (.iload_n 3, 1) := by decide +kernel
theorem dX11_earliest_63 : decode cX11_earliest 63 = .ok (.lookupswitch 41 #[(0, 25), (1, 33)], 25) := by decide +kernel
theorem dX11_earliest_88 : decode cX11_earliest 88 = .ok (.aload_n 0, 1) := by decide +kernel
theorem dX11_earliest_89 : decode cX11_earliest 89 = .ok (.getfield 76, 3) := by decide +kernel
theorem dX11_earliest_92 : decode cX11_earliest 92 = .ok (.getfield 285, 3) := by decide +kernel
theorem dX11_earliest_95 : decode cX11_earliest 95 = .ok (.ireturn, 1) := by decide +kernel
theorem dX11_earliest_96 : decode cX11_earliest 96 = .ok (.aload_n 0, 1) := by decide +kernel
theorem dX11_earliest_97 : decode cX11_earliest 97 = .ok (.getfield 76, 3) := by decide +kernel
theorem dX11_earliest_100 : decode cX11_earliest 100 = .ok (.getfield 288, 3) := by decide +kernel
theorem dX11_earliest_103 : decode cX11_earliest 103 = .ok (.ireturn, 1) := by decide +kernel
theorem dX11_earliest_104 : decode cX11_earliest 104 = .ok (.aload_n 0, 1) := by decide +kernel
theorem dX11_earliest_105 : decode cX11_earliest 105 = .ok (.getfield 76, 3) := by decide +kernel
theorem dX11_earliest_108 : decode cX11_earliest 108 = .ok (.getfield 290, 3) := by decide +kernel
theorem dX11_earliest_111 : decode cX11_earliest 111 = .ok (.ireturn, 1) := by decide +kernel
theorem dX11_put_0 : decode cX11_put 0 = .ok (.aload_n 0, 1) := by decide +kernel
theorem dX11_put_1 : decode cX11_put 1 = .ok (.iload_n 1, 1) := by decide +kernel
theorem dX11_put_2 : decode cX11_put 2 = .ok (.invokevirtual 216, 3) := by decide +kernel
theorem dX11_put_5 : decode cX11_put 5 = .ok (.ifCond .eq 14, 3) := by decide +kernel
theorem dX11_put_8 : decode cX11_put 8 = .ok (.aload_n 0, 1) := by decide +kernel
theorem dX11_put_9 : decode cX11_put 9 = .ok (.getfield 49, 3) := by decide +kernel
theorem dX11_put_12 : decode cX11_put 12 = .ok (.iload_n 1, 1) := by decide +kernel
theorem dX11_put_13 : decode cX11_put 13 = .ok (.invokevirtual 178, 3) := by decide +kernel
theorem dX11_put_16 : decode cX11_put 16 = .ok (.ifCond .eq 5, 3) := by decide +kernel
theorem dX11_put_19 : decode cX11_put 19 = .ok (.iconst (-1), 1) := by decide +kernel
theorem dX11_put_20 : decode cX11_put 20 = .ok (.ireturn, 1) := by decide +kernel
theorem dX11_put_21 : decode cX11_put 21 = .ok (.aload_n 0, 1) := by decide +kernel
theorem dX11_put_22 : decode cX11_put 22 = .ok (.getfield 67, 3) := by decide +kernel
theorem dX11_put_25 : decode cX11_put 25 = .ok (.iload_n 1, 1) := by decide +kernel
theorem dX11_put_26 : decode cX11_put 26 = .ok (.iload_n 2, 1) := by decide +kernel
theorem dX11_put_27 : decode cX11_put 27 = .ok (.iload_n 3, 1) := by decide +kernel
theorem dX11_put_28 : decode cX11_put 28 = .ok (.iload 4, 2) := by decide +kernel
theorem dX11_put_30 : decode cX11_put 30 = .ok (.invokevirtual 263, 3) := by decide +kernel
theorem dX11_put_33 : decode cX11_put 33 = .ok (.istore 5, 2) := by decide +kernel
theorem dX11_put_35 : decode cX11_put 35 = .ok (.iload 5, 2) := by decide +kernel
theorem dX11_put_37 : decode cX11_put 37 = .ok (.ifCond .eq 9, 3) := by decide +kernel
theorem dX11_put_40 : decode cX11_put 40 = .ok (.iload 5, 2) := by decide +kernel
theorem dX11_put_42 : decode cX11_put 42 = .ok (.invokestatic 292, 3) := by decide +kernel
theorem dX11_put_45 : decode cX11_put 45 = .ok (.ireturn, 1) := by decide +kernel
theorem dX11_put_46 : decode cX11_put 46 = .ok (.aload_n 0, 1) := by decide +kernel
theorem dX11_put_47 : decode cX11_put 47 = .ok (.getfield 49, 3) := by decide +kernel
theorem dX11_put_50 : decode cX11_put 50 = .ok (.aload_n 0, 1) := by decide +kernel
theorem dX11_put_51 : decode cX11_put 51 = .ok (.getfield 110, 3) := by decide +kernel
theorem dX11_put_54 : decode cX11_put 54 = .ok (.invokevirtual 295, 3) := by decide +kernel
theorem dX11_put_57 : decode cX11_put 57 = .ok (.aload_n 0, 1) := by decide +kernel
theorem dX11_put_58 : decode cX11_put 58 = .ok (.getfield 49, 3) := by decide +kernel
theorem dX11_put_61 : decode cX11_put 61 = .ok (.iload_n 1, 1) := by decide +kernel
theorem dX11_put_62 : decode cX11_put 62 = .ok (.iload_n 2, 1) := by decide +kernel
theorem dX11_put_63 : decode cX11_put 63 = .ok (.iload_n 3, 1) := by decide +kernel
theorem dX11_put_64 : decode cX11_put 64 = .ok (.iload 4, 2) := by decide +kernel
theorem dX11_put_66 : decode cX11_put 66 = .ok (.invokevirtual 299, 3) := by decide +kernel
theorem dX11_put_69 : decode cX11_put 69 = .ok (.aload_n 0, 1) := by decide +kernel
theorem dX11_put_70 : decode cX11_put 70 = .ok (.invokevirtual 303, 3) := by decide +kernel
theorem dX11_put_73 : decode cX11_put 73 = .ok (.aload_n 0, 1) := by decide +kernel
theorem dX11_put_74 : decode cX11_put 74 = .ok (.getfield 49, 3) := by decide +kernel
theorem dX11_put_77 : decode cX11_put 77 = .ok (.getfield 236, 3) := by decide +kernel
theorem dX11_put_80 : decode cX11_put 80 = .ok (.iload_n 1, 1) := by decide +kernel
theorem dX11_put_81 : decode cX11_put 81 = .ok (.iaload, 1) := by decide +kernel
theorem dX11_put_82 : decode cX11_put 82 = .ok (.ireturn, 1) := by decide +kernel
theorem dX11_refusal_0 : decode cX11_refusal 0 = .ok (.iconst (-1), 1) := by decide +kernel
theorem dX11_refusal_1 : decode cX11_refusal 1 = .ok (.iload_n 0, 1) := by decide +kernel
theorem dX11_refusal_2 : decode cX11_refusal 2 = .ok (.isub, 1) := by decide +kernel
theorem dX11_refusal_3 : decode cX11_refusal 3 = .ok (.ireturn, 1) := by decide +kernel
theorem dX11_keepAct_0 : decode cX11_keepAct 0 = .ok (.aload_n 0, 1) := by decide +kernel
theorem dX11_keepAct_1 : decode cX11_keepAct 1 = .ok (.getfield 99, 3) := by decide +kernel
theorem dX11_keepAct_4 : decode cX11_keepAct 4 = .ok (.aload_n 0, 1) := by decide +kernel
theorem dX11_keepAct_5 : decode cX11_keepAct 5 = .ok (.getfield 110, 3) := by decide +kernel
theorem dX11_keepAct_8 : decode cX11_keepAct 8 = .ok (.invokevirtual 306, 3) := by decide +kernel
theorem dX11_keepAct_11 : decode cX11_keepAct 11 = .ok (.aload_n 0, 1) := by decide +kernel
theorem dX11_keepAct_12 : decode cX11_keepAct 12 = .ok (.getfield 92, 3) := by decide +kernel
theorem dX11_keepAct_15 : decode cX11_keepAct 15 = .ok (.iconst 0, 1) := by decide +kernel
theorem dX11_keepAct_16 : decode cX11_keepAct 16 = .ok (.putfield 136, 3) := by decide +kernel
theorem dX11_keepAct_19 : decode cX11_keepAct 19 = .ok (.return_, 1) := by decide +kernel
theorem dX11_itself_0 : decode cX11_itself 0 = .ok (.aload_n 0, 1) := by decide +kernel
theorem dX11_itself_1 : decode cX11_itself 1 = .ok (.iload_n 1, 1) := by decide +kernel
theorem dX11_itself_2 : decode cX11_itself 2 = .ok (.invokevirtual 216, 3) := by decide +kernel
theorem dX11_itself_5 : decode cX11_itself 5 = .ok (.ifCond .eq 14, 3) := by decide +kernel
theorem dX11_itself_8 : decode cX11_itself 8 = .ok (.aload_n 0, 1) := by decide +kernel
theorem dX11_itself_9 : decode cX11_itself 9 = .ok (.getfield 49, 3) := by decide +kernel
theorem dX11_itself_12 : decode cX11_itself 12 = .ok (.iload_n 1, 1) := by decide +kernel
theorem dX11_itself_13 : decode cX11_itself 13 = .ok (.invokevirtual 178, 3) := by decide +kernel
theorem dX11_itself_16 : decode cX11_itself 16 = .ok (.ifCond .eq 5, 3) := by decide +kernel
theorem dX11_itself_19 : decode cX11_itself 19 = .ok (.iconst (-1), 1) := by decide +kernel
theorem dX11_itself_20 : decode cX11_itself 20 = .ok (.ireturn, 1) := by decide +kernel
theorem dX11_itself_21 : decode cX11_itself 21 = .ok (.aload_n 0, 1) := by decide +kernel
theorem dX11_itself_22 : decode cX11_itself 22 = .ok (.getfield 49, 3) := by decide +kernel
theorem dX11_itself_25 : decode cX11_itself 25 = .ok (.aload_n 0, 1) := by decide +kernel
theorem dX11_itself_26 : decode cX11_itself 26 = .ok (.getfield 110, 3) := by decide +kernel
theorem dX11_itself_29 : decode cX11_itself 29 = .ok (.invokevirtual 295, 3) := by decide +kernel
theorem dX11_itself_32 : decode cX11_itself 32 = .ok (.aload_n 0, 1) := by decide +kernel
theorem dX11_itself_33 : decode cX11_itself 33 = .ok (.iload_n 1, 1) := by decide +kernel
theorem dX11_itself_34 : decode cX11_itself 34 = .ok (.invokevirtual 309, 3) := by decide +kernel
theorem dX11_itself_37 : decode cX11_itself 37 = .ok (.ifCond .ne 6, 3) := by decide +kernel
theorem dX11_itself_40 : decode cX11_itself 40 = .ok (.bipush (-2), 2) := by decide +kernel
theorem dX11_itself_42 : decode cX11_itself 42 = .ok (.ireturn, 1) := by decide +kernel
theorem dX11_itself_43 : decode cX11_itself 43 = .ok (.aload_n 0, 1) := by decide +kernel
theorem dX11_itself_44 : decode cX11_itself 44 = .ok (.invokevirtual 303, 3) := by decide +kernel
theorem dX11_itself_47 : decode cX11_itself 47 = .ok (.aload_n 0, 1) := by decide +kernel
theorem dX11_itself_48 : decode cX11_itself 48 = .ok (.getfield 49, 3) := by decide +kernel
theorem dX11_itself_51 : decode cX11_itself 51 = .ok (.getfield 228, 3) := by decide +kernel
theorem dX11_itself_54 : decode cX11_itself 54 = .ok (.iload_n 1, 1) := by decide +kernel
theorem dX11_itself_55 : decode cX11_itself 55 = .ok (.iaload, 1) := by decide +kernel
theorem dX11_itself_56 : decode cX11_itself 56 = .ok (.ireturn, 1) := by decide +kernel
theorem dX11_layByItself_0 : decode cX11_layByItself 0 = .ok (.aload_n 0, 1) := by decide +kernel
theorem dX11_layByItself_1 : decode cX11_layByItself 1 = .ok (.getfield 76, 3) := by decide +kernel
theorem dX11_layByItself_4 : decode cX11_layByItself 4 = .ok (.iload_n 1, 1) := by decide +kernel
theorem dX11_layByItself_5 : decode cX11_layByItself 5 = .ok (.aload_n 0, 1) := by decide +kernel
theorem dX11_layByItself_6 : decode cX11_layByItself 6 = .ok (.getfield 16, 3) := by decide +kernel
theorem dX11_layByItself_9 : decode cX11_layByItself 9 = .ok (.iload_n 1, 1) := by decide +kernel
theorem dX11_layByItself_10 : decode cX11_layByItself 10 = .ok (.bipush 8, 2) := by decide +kernel
theorem dX11_layByItself_12 : decode cX11_layByItself 12 = .ok (.invokevirtual 219, 3) := by decide +kernel
theorem dX11_layByItself_15 : decode cX11_layByItself 15 = .ok (.aload_n 0, 1) := by decide +kernel
theorem dX11_layByItself_16 : decode cX11_layByItself 16 = .ok (.getfield 16, 3) := by decide +kernel
theorem dX11_layByItself_19 : decode cX11_layByItself 19 = .ok (.iload_n 1, 1) := by decide +kernel
theorem dX11_layByItself_20 : decode cX11_layByItself 20 = .ok (.bipush 7, 2) := by decide +kernel
theorem dX11_layByItself_22 : decode cX11_layByItself 22 = .ok (.invokevirtual 219, 3) := by decide +kernel
theorem dX11_layByItself_25 : decode cX11_layByItself 25 = .ok (.invokevirtual 281, 3) := by decide +kernel
theorem dX11_layByItself_28 : decode cX11_layByItself 28 = .ok (.ifCond .ne 5, 3) := by decide +kernel
theorem dX11_layByItself_31 : decode cX11_layByItself 31 = .ok (.iconst 0, 1) := by decide +kernel
theorem dX11_layByItself_32 : decode cX11_layByItself 32 = .ok (.ireturn, 1) := by decide +kernel
theorem dX11_layByItself_33 : decode cX11_layByItself 33 = .ok (.aload_n 0, 1) := by decide +kernel
theorem dX11_layByItself_34 : decode cX11_layByItself 34 = .ok (.getfield 49, 3) := by decide +kernel
theorem dX11_layByItself_37 : decode cX11_layByItself 37 = .ok (.iload_n 1, 1) := by decide +kernel
theorem dX11_layByItself_38 : decode cX11_layByItself 38 = .ok (.aload_n 0, 1) := by decide +kernel
theorem dX11_layByItself_39 : decode cX11_layByItself 39 = .ok (.getfield 76, 3) := by decide +kernel
theorem dX11_layByItself_42 : decode cX11_layByItself 42 = .ok (.getfield 288, 3) := by decide +kernel
theorem dX11_layByItself_45 : decode cX11_layByItself 45 = .ok (.aload_n 0, 1) := by decide +kernel
theorem dX11_layByItself_46 : decode cX11_layByItself 46 = .ok (.getfield 76, 3) := by decide +kernel
theorem dX11_layByItself_49 : decode cX11_layByItself 49 = .ok (.getfield 285, 3) := by decide +kernel
theorem dX11_layByItself_52 : decode cX11_layByItself 52 = .ok (.aload_n 0, 1) := by decide +kernel
theorem dX11_layByItself_53 : decode cX11_layByItself 53 = .ok (.getfield 76, 3) := by decide +kernel
theorem dX11_layByItself_56 : decode cX11_layByItself 56 = .ok (.getfield 312, 3) := by decide +kernel
theorem dX11_layByItself_59 : decode cX11_layByItself 59 = .ok (.invokevirtual 299, 3) := by decide +kernel
theorem dX11_layByItself_62 : decode cX11_layByItself 62 = .ok (.iconst 1, 1) := by decide +kernel
theorem dX11_layByItself_63 : decode cX11_layByItself 63 = .ok (.ireturn, 1) := by decide +kernel
theorem dX11_away_0 : decode cX11_away 0 = .ok (.aload_n 0, 1) := by decide +kernel
theorem dX11_away_1 : decode cX11_away 1 = .ok (.iload_n 1, 1) := by decide +kernel
theorem dX11_away_2 : decode cX11_away 2 = .ok (.invokevirtual 216, 3) := by decide +kernel
theorem dX11_away_5 : decode cX11_away 5 = .ok (.ifCond .eq 14, 3) := by decide +kernel
theorem dX11_away_8 : decode cX11_away 8 = .ok (.aload_n 0, 1) := by decide +kernel
theorem dX11_away_9 : decode cX11_away 9 = .ok (.getfield 49, 3) := by decide +kernel
theorem dX11_away_12 : decode cX11_away 12 = .ok (.iload_n 1, 1) := by decide +kernel
theorem dX11_away_13 : decode cX11_away 13 = .ok (.invokevirtual 178, 3) := by decide +kernel
theorem dX11_away_16 : decode cX11_away 16 = .ok (.ifCond .ne 5, 3) := by decide +kernel
theorem dX11_away_19 : decode cX11_away 19 = .ok (.iconst 0, 1) := by decide +kernel
theorem dX11_away_20 : decode cX11_away 20 = .ok (.ireturn, 1) := by decide +kernel
theorem dX11_away_21 : decode cX11_away 21 = .ok (.aload_n 0, 1) := by decide +kernel
theorem dX11_away_22 : decode cX11_away 22 = .ok (.getfield 49, 3) := by decide +kernel
theorem dX11_away_25 : decode cX11_away 25 = .ok (.aload_n 0, 1) := by decide +kernel
theorem dX11_away_26 : decode cX11_away 26 = .ok (.getfield 110, 3) := by decide +kernel
theorem dX11_away_29 : decode cX11_away 29 = .ok (.invokevirtual 295, 3) := by decide +kernel
theorem dX11_away_32 : decode cX11_away 32 = .ok (.aload_n 0, 1) := by decide +kernel
theorem dX11_away_33 : decode cX11_away 33 = .ok (.getfield 49, 3) := by decide +kernel
theorem dX11_away_36 : decode cX11_away 36 = .ok (.iload_n 1, 1) := by decide +kernel
theorem dX11_away_37 : decode cX11_away 37 = .ok (.invokevirtual 313, 3) := by decide +kernel
theorem dX11_away_40 : decode cX11_away 40 = .ok (.aload_n 0, 1) := by decide +kernel
theorem dX11_away_41 : decode cX11_away 41 = .ok (.invokevirtual 303, 3) := by decide +kernel
theorem dX11_away_44 : decode cX11_away 44 = .ok (.iconst 1, 1) := by decide +kernel
theorem dX11_away_45 : decode cX11_away 45 = .ok (.ireturn, 1) := by decide +kernel
theorem dX11_move_0 : decode cX11_move 0 = .ok (.aload_n 0, 1) := by decide +kernel
theorem dX11_move_1 : decode cX11_move 1 = .ok (.iload_n 1, 1) := by decide +kernel
theorem dX11_move_2 : decode cX11_move 2 = .ok (.invokevirtual 216, 3) := by decide +kernel
theorem dX11_move_5 : decode cX11_move 5 = .ok (.ifCond .eq 22, 3) := by decide +kernel
theorem dX11_move_8 : decode cX11_move 8 = .ok (.aload_n 0, 1) := by decide +kernel
theorem dX11_move_9 : decode cX11_move 9 = .ok (.getfield 49, 3) := by decide +kernel
theorem dX11_move_12 : decode cX11_move 12 = .ok (.iload_n 1, 1) := by decide +kernel
theorem dX11_move_13 : decode cX11_move 13 = .ok (.invokevirtual 178, 3) := by decide +kernel
theorem dX11_move_16 : decode cX11_move 16 = .ok (.ifCond .eq 11, 3) := by decide +kernel
theorem dX11_move_19 : decode cX11_move 19 = .ok (.iload_n 2, 1) := by decide +kernel
theorem dX11_move_20 : decode cX11_move 20 = .ok (.ifCond .ne 9, 3) := by decide +kernel
theorem dX11_move_23 : decode cX11_move 23 = .ok (.iload_n 3, 1) := by decide +kernel
theorem dX11_move_24 : decode cX11_move 24 = .ok (.ifCond .ne 5, 3) := by decide +kernel
theorem dX11_move_27 : decode cX11_move 27 = .ok (.iconst (-1), 1) := by decide +kernel
theorem dX11_move_28 : decode cX11_move 28 = .ok (.ireturn, 1) := by decide +kernel
theorem dX11_move_29 : decode cX11_move 29 = .ok (.aload_n 0, 1) := by decide +kernel
theorem dX11_move_30 : decode cX11_move 30 = .ok (.getfield 49, 3) := by decide +kernel
theorem dX11_move_33 : decode cX11_move 33 = .ok (.getfield 225, 3) := by decide +kernel
theorem dX11_move_36 : decode cX11_move 36 = .ok (.iload_n 1, 1) := by decide +kernel
theorem dX11_move_37 : decode cX11_move 37 = .ok (.iaload, 1) := by decide +kernel
theorem dX11_move_38 : decode cX11_move 38 = .ok (.iload_n 2, 1) := by decide +kernel
theorem dX11_move_39 : decode cX11_move 39 = .ok (.invokestatic 316, 3) := by decide +kernel
theorem dX11_move_42 : decode cX11_move 42 = .ok (.istore 4, 2) := by decide +kernel
theorem dX11_move_44 : decode cX11_move 44 = .ok (.aload_n 0, 1) := by decide +kernel
theorem dX11_move_45 : decode cX11_move 45 = .ok (.getfield 49, 3) := by decide +kernel
theorem dX11_move_48 : decode cX11_move 48 = .ok (.getfield 228, 3) := by decide +kernel
theorem dX11_move_51 : decode cX11_move 51 = .ok (.iload_n 1, 1) := by decide +kernel
theorem dX11_move_52 : decode cX11_move 52 = .ok (.iaload, 1) := by decide +kernel
theorem dX11_move_53 : decode cX11_move 53 = .ok (.iload_n 3, 1) := by decide +kernel
theorem dX11_move_54 : decode cX11_move 54 = .ok (.invokestatic 316, 3) := by decide +kernel
theorem dX11_move_57 : decode cX11_move 57 = .ok (.istore 5, 2) := by decide +kernel
theorem dX11_move_59 : decode cX11_move 59 = .ok (.aload_n 0, 1) := by decide +kernel
theorem dX11_move_60 : decode cX11_move 60 = .ok (.getfield 49, 3) := by decide +kernel
theorem dX11_move_63 : decode cX11_move 63 = .ok (.getfield 231, 3) := by decide +kernel
theorem dX11_move_66 : decode cX11_move 66 = .ok (.iload_n 1, 1) := by decide +kernel
theorem dX11_move_67 : decode cX11_move 67 = .ok (.iaload, 1) := by decide +kernel
theorem dX11_move_68 : decode cX11_move 68 = .ok (.istore 6, 2) := by decide +kernel
theorem dX11_move_70 : decode cX11_move 70 = .ok (.aload_n 0, 1) := by decide +kernel
theorem dX11_move_71 : decode cX11_move 71 = .ok (.getfield 49, 3) := by decide +kernel
theorem dX11_move_74 : decode cX11_move 74 = .ok (.aload_n 0, 1) := by decide +kernel
theorem dX11_move_75 : decode cX11_move 75 = .ok (.getfield 110, 3) := by decide +kernel
theorem dX11_move_78 : decode cX11_move 78 = .ok (.invokevirtual 295, 3) := by decide +kernel
theorem dX11_move_81 : decode cX11_move 81 = .ok (.aload_n 0, 1) := by decide +kernel
theorem dX11_move_82 : decode cX11_move 82 = .ok (.getfield 49, 3) := by decide +kernel
theorem dX11_move_85 : decode cX11_move 85 = .ok (.iload_n 1, 1) := by decide +kernel
theorem dX11_move_86 : decode cX11_move 86 = .ok (.invokevirtual 260, 3) := by decide +kernel
theorem dX11_move_89 : decode cX11_move 89 = .ok (.aload_n 0, 1) := by decide +kernel
theorem dX11_move_90 : decode cX11_move 90 = .ok (.getfield 67, 3) := by decide +kernel
theorem dX11_move_93 : decode cX11_move 93 = .ok (.iload_n 1, 1) := by decide +kernel
theorem dX11_move_94 : decode cX11_move 94 = .ok (.iload 4, 2) := by decide +kernel
theorem dX11_move_96 : decode cX11_move 96 = .ok (.iload 5, 2) := by decide +kernel
theorem dX11_move_98 : decode cX11_move 98 = .ok (.iload 6, 2) := by decide +kernel
theorem dX11_move_100 : decode cX11_move 100 = .ok (.invokevirtual 263, 3) := by decide +kernel
theorem dX11_move_103 : decode cX11_move 103 = .ok (.istore 7, 2) := by decide +kernel
theorem dX11_move_105 : decode cX11_move 105 = .ok (.iload 7, 2) := by decide +kernel
theorem dX11_move_107 : decode cX11_move 107 = .ok (.ifCond .eq 17, 3) := by decide +kernel
theorem dX11_move_110 : decode cX11_move 110 = .ok (.aload_n 0, 1) := by decide +kernel
theorem dX11_move_111 : decode cX11_move 111 = .ok (.getfield 49, 3) := by decide +kernel
theorem dX11_move_114 : decode cX11_move 114 = .ok (.iload_n 1, 1) := by decide +kernel
theorem dX11_move_115 : decode cX11_move 115 = .ok (.invokevirtual 267, 3) := by decide +kernel
theorem dX11_move_118 : decode cX11_move 118 = .ok (.iload 7, 2) := by decide +kernel
theorem dX11_move_120 : decode cX11_move 120 = .ok (.invokestatic 292, 3) := by decide +kernel
theorem dX11_move_123 : decode cX11_move 123 = .ok (.ireturn, 1) := by decide +kernel
theorem dX11_move_124 : decode cX11_move 124 = .ok (.aload_n 0, 1) := by decide +kernel
theorem dX11_move_125 : decode cX11_move 125 = .ok (.getfield 49, 3) := by decide +kernel
theorem dX11_move_128 : decode cX11_move 128 = .ok (.iload_n 1, 1) := by decide +kernel
theorem dX11_move_129 : decode cX11_move 129 = .ok (.iload 4, 2) := by decide +kernel
theorem dX11_move_131 : decode cX11_move 131 = .ok (.iload 5, 2) := by decide +kernel
theorem dX11_move_133 : decode cX11_move 133 = .ok (.iload 6, 2) := by decide +kernel
theorem dX11_move_135 : decode cX11_move 135 = .ok (.invokevirtual 299, 3) := by decide +kernel
theorem dX11_move_138 : decode cX11_move 138 = .ok (.aload_n 0, 1) := by decide +kernel
theorem dX11_move_139 : decode cX11_move 139 = .ok (.invokevirtual 303, 3) := by decide +kernel
theorem dX11_move_142 : decode cX11_move 142 = .ok (.aload_n 0, 1) := by decide +kernel
theorem dX11_move_143 : decode cX11_move 143 = .ok (.getfield 49, 3) := by decide +kernel
theorem dX11_move_146 : decode cX11_move 146 = .ok (.getfield 236, 3) := by decide +kernel
theorem dX11_move_149 : decode cX11_move 149 = .ok (.iload_n 1, 1) := by decide +kernel
theorem dX11_move_150 : decode cX11_move 150 = .ok (.iaload, 1) := by decide +kernel
theorem dX11_move_151 : decode cX11_move 151 = .ok (.ireturn, 1) := by decide +kernel
theorem dX11_sum_0 : decode cX11_sum 0 = .ok (.iload_n 0, 1) := by decide +kernel
theorem dX11_sum_1 : decode cX11_sum 1 = .ok (.i2l, 1) := by decide +kernel
theorem dX11_sum_2 : decode cX11_sum 2 = .ok (.iload_n 1, 1) := by decide +kernel
theorem dX11_sum_3 : decode cX11_sum 3 = .ok (.i2l, 1) := by decide +kernel
theorem dX11_sum_4 : decode cX11_sum 4 = .ok (.ladd, 1) := by decide +kernel
theorem dX11_sum_5 : decode cX11_sum 5 = .ok (.lstore_n 2, 1) := by decide +kernel
theorem dX11_sum_6 : decode cX11_sum 6 = .ok (.ldc2_w 319, 3) := by decide +kernel
theorem dX11_sum_9 : decode cX11_sum 9 = .ok (.ldc2_w 321, 3) := by decide +kernel
theorem dX11_sum_12 : decode cX11_sum 12 = .ok (.lload_n 2, 1) := by decide +kernel
theorem dX11_sum_13 : decode cX11_sum 13 = .ok (.invokestatic 323, 3) := by decide +kernel
theorem dX11_sum_16 : decode cX11_sum 16 = .ok (.invokestatic 329, 3) := by decide +kernel
theorem dX11_sum_19 : decode cX11_sum 19 = .ok (.l2i, 1) := by decide +kernel
theorem dX11_sum_20 : decode cX11_sum 20 = .ok (.ireturn, 1) := by decide +kernel
theorem dX11_swap_0 : decode cX11_swap 0 = .ok (.aload_n 0, 1) := by decide +kernel
theorem dX11_swap_1 : decode cX11_swap 1 = .ok (.iload_n 1, 1) := by decide +kernel
theorem dX11_swap_2 : decode cX11_swap 2 = .ok (.invokevirtual 216, 3) := by decide +kernel
theorem dX11_swap_5 : decode cX11_swap 5 = .ok (.ifCond .eq 38, 3) := by decide +kernel
theorem dX11_swap_8 : decode cX11_swap 8 = .ok (.aload_n 0, 1) := by decide +kernel
theorem dX11_swap_9 : decode cX11_swap 9 = .ok (.iload_n 2, 1) := by decide +kernel
theorem dX11_swap_10 : decode cX11_swap 10 = .ok (.invokevirtual 216, 3) := by decide +kernel
theorem dX11_swap_13 : decode cX11_swap 13 = .ok (.ifCond .eq 30, 3) := by decide +kernel
theorem dX11_swap_16 : decode cX11_swap 16 = .ok (.iload_n 1, 1) := by decide +kernel
theorem dX11_swap_17 : decode cX11_swap 17 = .ok (.iload_n 2, 1) := by decide +kernel
theorem dX11_swap_18 : decode cX11_swap 18 = .ok (.if_icmp .eq 25, 3) := by decide +kernel
theorem dX11_swap_21 : decode cX11_swap 21 = .ok (.aload_n 0, 1) := by decide +kernel
theorem dX11_swap_22 : decode cX11_swap 22 = .ok (.getfield 49, 3) := by decide +kernel
theorem dX11_swap_25 : decode cX11_swap 25 = .ok (.iload_n 1, 1) := by decide +kernel
theorem dX11_swap_26 : decode cX11_swap 26 = .ok (.invokevirtual 178, 3) := by decide +kernel
theorem dX11_swap_29 : decode cX11_swap 29 = .ok (.ifCond .eq 14, 3) := by decide +kernel
theorem dX11_swap_32 : decode cX11_swap 32 = .ok (.aload_n 0, 1) := by decide +kernel
theorem dX11_swap_33 : decode cX11_swap 33 = .ok (.getfield 49, 3) := by decide +kernel
theorem dX11_swap_36 : decode cX11_swap 36 = .ok (.iload_n 2, 1) := by decide +kernel
theorem dX11_swap_37 : decode cX11_swap 37 = .ok (.invokevirtual 178, 3) := by decide +kernel
theorem dX11_swap_40 : decode cX11_swap 40 = .ok (.ifCond .ne 5, 3) := by decide +kernel
theorem dX11_swap_43 : decode cX11_swap 43 = .ok (.iconst (-1), 1) := by decide +kernel
theorem dX11_swap_44 : decode cX11_swap 44 = .ok (.ireturn, 1) := by decide +kernel
theorem dX11_swap_45 : decode cX11_swap 45 = .ok (.aload_n 0, 1) := by decide +kernel
theorem dX11_swap_46 : decode cX11_swap 46 = .ok (.getfield 49, 3) := by decide +kernel
theorem dX11_swap_49 : decode cX11_swap 49 = .ok (.getfield 225, 3) := by decide +kernel
theorem dX11_swap_52 : decode cX11_swap 52 = .ok (.iload_n 1, 1) := by decide +kernel
theorem dX11_swap_53 : decode cX11_swap 53 = .ok (.iaload, 1) := by decide +kernel
theorem dX11_swap_54 : decode cX11_swap 54 = .ok (.istore_n 3, 1) := by decide +kernel
theorem dX11_swap_55 : decode cX11_swap 55 = .ok (.aload_n 0, 1) := by decide +kernel
theorem dX11_swap_56 : decode cX11_swap 56 = .ok (.getfield 49, 3) := by decide +kernel
theorem dX11_swap_59 : decode cX11_swap 59 = .ok (.getfield 228, 3) := by decide +kernel
theorem dX11_swap_62 : decode cX11_swap 62 = .ok (.iload_n 1, 1) := by decide +kernel
theorem dX11_swap_63 : decode cX11_swap 63 = .ok (.iaload, 1) := by decide +kernel
theorem dX11_swap_64 : decode cX11_swap 64 = .ok (.istore 4, 2) := by decide +kernel
theorem dX11_swap_66 : decode cX11_swap 66 = .ok (.aload_n 0, 1) := by decide +kernel
theorem dX11_swap_67 : decode cX11_swap 67 = .ok (.getfield 49, 3) := by decide +kernel
theorem dX11_swap_70 : decode cX11_swap 70 = .ok (.getfield 225, 3) := by decide +kernel
theorem dX11_swap_73 : decode cX11_swap 73 = .ok (.iload_n 2, 1) := by decide +kernel
theorem dX11_swap_74 : decode cX11_swap 74 = .ok (.iaload, 1) := by decide +kernel
theorem dX11_swap_75 : decode cX11_swap 75 = .ok (.istore 5, 2) := by decide +kernel
theorem dX11_swap_77 : decode cX11_swap 77 = .ok (.aload_n 0, 1) := by decide +kernel
theorem dX11_swap_78 : decode cX11_swap 78 = .ok (.getfield 49, 3) := by decide +kernel
theorem dX11_swap_81 : decode cX11_swap 81 = .ok (.getfield 228, 3) := by decide +kernel
theorem dX11_swap_84 : decode cX11_swap 84 = .ok (.iload_n 2, 1) := by decide +kernel
theorem dX11_swap_85 : decode cX11_swap 85 = .ok (.iaload, 1) := by decide +kernel
theorem dX11_swap_86 : decode cX11_swap 86 = .ok (.istore 6, 2) := by decide +kernel
theorem dX11_swap_88 : decode cX11_swap 88 = .ok (.aload_n 0, 1) := by decide +kernel
theorem dX11_swap_89 : decode cX11_swap 89 = .ok (.getfield 49, 3) := by decide +kernel
theorem dX11_swap_92 : decode cX11_swap 92 = .ok (.getfield 231, 3) := by decide +kernel
theorem dX11_swap_95 : decode cX11_swap 95 = .ok (.iload_n 1, 1) := by decide +kernel
theorem dX11_swap_96 : decode cX11_swap 96 = .ok (.iaload, 1) := by decide +kernel
theorem dX11_swap_97 : decode cX11_swap 97 = .ok (.istore 7, 2) := by decide +kernel
theorem dX11_swap_99 : decode cX11_swap 99 = .ok (.aload_n 0, 1) := by decide +kernel
theorem dX11_swap_100 : decode cX11_swap 100 = .ok (.getfield 49, 3) := by decide +kernel
theorem dX11_swap_103 : decode cX11_swap 103 = .ok (.getfield 231, 3) := by decide +kernel
theorem dX11_swap_106 : decode cX11_swap 106 = .ok (.iload_n 2, 1) := by decide +kernel
theorem dX11_swap_107 : decode cX11_swap 107 = .ok (.iaload, 1) := by decide +kernel
theorem dX11_swap_108 : decode cX11_swap 108 = .ok (.istore 8, 2) := by decide +kernel
theorem dX11_swap_110 : decode cX11_swap 110 = .ok (.aload_n 0, 1) := by decide +kernel
theorem dX11_swap_111 : decode cX11_swap 111 = .ok (.getfield 49, 3) := by decide +kernel
theorem dX11_swap_114 : decode cX11_swap 114 = .ok (.aload_n 0, 1) := by decide +kernel
theorem dX11_swap_115 : decode cX11_swap 115 = .ok (.getfield 110, 3) := by decide +kernel
theorem dX11_swap_118 : decode cX11_swap 118 = .ok (.invokevirtual 295, 3) := by decide +kernel
theorem dX11_swap_121 : decode cX11_swap 121 = .ok (.aload_n 0, 1) := by decide +kernel
theorem dX11_swap_122 : decode cX11_swap 122 = .ok (.getfield 49, 3) := by decide +kernel
theorem dX11_swap_125 : decode cX11_swap 125 = .ok (.iload_n 1, 1) := by decide +kernel
theorem dX11_swap_126 : decode cX11_swap 126 = .ok (.invokevirtual 313, 3) := by decide +kernel
theorem dX11_swap_129 : decode cX11_swap 129 = .ok (.aload_n 0, 1) := by decide +kernel
theorem dX11_swap_130 : decode cX11_swap 130 = .ok (.getfield 49, 3) := by decide +kernel
theorem dX11_swap_133 : decode cX11_swap 133 = .ok (.iload_n 2, 1) := by decide +kernel
theorem dX11_swap_134 : decode cX11_swap 134 = .ok (.invokevirtual 313, 3) := by decide +kernel
theorem dX11_swap_137 : decode cX11_swap 137 = .ok (.aload_n 0, 1) := by decide +kernel
theorem dX11_swap_138 : decode cX11_swap 138 = .ok (.iload_n 1, 1) := by decide +kernel
theorem dX11_swap_139 : decode cX11_swap 139 = .ok (.iload 5, 2) := by decide +kernel
theorem dX11_swap_141 : decode cX11_swap 141 = .ok (.iload 6, 2) := by decide +kernel
theorem dX11_swap_143 : decode cX11_swap 143 = .ok (.iload 7, 2) := by decide +kernel
theorem dX11_swap_145 : decode cX11_swap 145 = .ok (.invokevirtual 332, 3) := by decide +kernel
theorem dX11_swap_148 : decode cX11_swap 148 = .ok (.istore 9, 2) := by decide +kernel
theorem dX11_swap_150 : decode cX11_swap 150 = .ok (.iload 9, 2) := by decide +kernel
theorem dX11_swap_152 : decode cX11_swap 152 = .ok (.ifCond .ne 15, 3) := by decide +kernel
theorem dX11_swap_155 : decode cX11_swap 155 = .ok (.aload_n 0, 1) := by decide +kernel
theorem dX11_swap_156 : decode cX11_swap 156 = .ok (.iload_n 2, 1) := by decide +kernel
theorem dX11_swap_157 : decode cX11_swap 157 = .ok (.iload_n 3, 1) := by decide +kernel
theorem dX11_swap_158 : decode cX11_swap 158 = .ok (.iload 4, 2) := by decide +kernel
theorem dX11_swap_160 : decode cX11_swap 160 = .ok (.iload 8, 2) := by decide +kernel
theorem dX11_swap_162 : decode cX11_swap 162 = .ok (.invokevirtual 332, 3) := by decide +kernel
theorem dX11_swap_165 : decode cX11_swap 165 = .ok (.istore 9, 2) := by decide +kernel
theorem dX11_swap_167 : decode cX11_swap 167 = .ok (.iload 9, 2) := by decide +kernel
theorem dX11_swap_169 : decode cX11_swap 169 = .ok (.ifCond .eq 20, 3) := by decide +kernel
theorem dX11_swap_172 : decode cX11_swap 172 = .ok (.aload_n 0, 1) := by decide +kernel
theorem dX11_swap_173 : decode cX11_swap 173 = .ok (.getfield 49, 3) := by decide +kernel
theorem dX11_swap_176 : decode cX11_swap 176 = .ok (.aload_n 0, 1) := by decide +kernel
theorem dX11_swap_177 : decode cX11_swap 177 = .ok (.getfield 110, 3) := by decide +kernel
theorem dX11_swap_180 : decode cX11_swap 180 = .ok (.invokevirtual 335, 3) := by decide +kernel
theorem dX11_swap_183 : decode cX11_swap 183 = .ok (.iload 9, 2) := by decide +kernel
theorem dX11_swap_185 : decode cX11_swap 185 = .ok (.invokestatic 292, 3) := by decide +kernel
theorem dX11_swap_188 : decode cX11_swap 188 = .ok (.ireturn, 1) := by decide +kernel
theorem dX11_swap_189 : decode cX11_swap 189 = .ok (.aload_n 0, 1) := by decide +kernel
theorem dX11_swap_190 : decode cX11_swap 190 = .ok (.invokevirtual 303, 3) := by decide +kernel
theorem dX11_swap_193 : decode cX11_swap 193 = .ok (.aload_n 0, 1) := by decide +kernel
theorem dX11_swap_194 : decode cX11_swap 194 = .ok (.getfield 49, 3) := by decide +kernel
theorem dX11_swap_197 : decode cX11_swap 197 = .ok (.getfield 236, 3) := by decide +kernel
theorem dX11_swap_200 : decode cX11_swap 200 = .ok (.iload_n 1, 1) := by decide +kernel
theorem dX11_swap_201 : decode cX11_swap 201 = .ok (.iaload, 1) := by decide +kernel
theorem dX11_swap_202 : decode cX11_swap 202 = .ok (.ireturn, 1) := by decide +kernel
theorem dX11_layLawful_0 : decode cX11_layLawful 0 = .ok (.aload_n 0, 1) := by decide +kernel
theorem dX11_layLawful_1 : decode cX11_layLawful 1 = .ok (.getfield 67, 3) := by decide +kernel
theorem dX11_layLawful_4 : decode cX11_layLawful 4 = .ok (.iload_n 1, 1) := by decide +kernel
theorem dX11_layLawful_5 : decode cX11_layLawful 5 = .ok (.iload_n 2, 1) := by decide +kernel
theorem dX11_layLawful_6 : decode cX11_layLawful 6 = .ok (.iload_n 3, 1) := by decide +kernel
theorem dX11_layLawful_7 : decode cX11_layLawful 7 = .ok (.iload 4, 2) := by decide +kernel
theorem dX11_layLawful_9 : decode cX11_layLawful 9 = .ok (.invokevirtual 263, 3) := by decide +kernel
theorem dX11_layLawful_12 : decode cX11_layLawful 12 = .ok (.istore 5, 2) := by decide +kernel
theorem dX11_layLawful_14 : decode cX11_layLawful 14 = .ok (.iload 5, 2) := by decide +kernel
theorem dX11_layLawful_16 : decode cX11_layLawful 16 = .ok (.ifCond .ne 15, 3) := by decide +kernel
theorem dX11_layLawful_19 : decode cX11_layLawful 19 = .ok (.aload_n 0, 1) := by decide +kernel
theorem dX11_layLawful_20 : decode cX11_layLawful 20 = .ok (.getfield 49, 3) := by decide +kernel
theorem dX11_layLawful_23 : decode cX11_layLawful 23 = .ok (.iload_n 1, 1) := by decide +kernel
theorem dX11_layLawful_24 : decode cX11_layLawful 24 = .ok (.iload_n 2, 1) := by decide +kernel
theorem dX11_layLawful_25 : decode cX11_layLawful 25 = .ok (.iload_n 3, 1) := by decide +kernel
theorem dX11_layLawful_26 : decode cX11_layLawful 26 = .ok (.iload 4, 2) := by decide +kernel
theorem dX11_layLawful_28 : decode cX11_layLawful 28 = .ok (.invokevirtual 299, 3) := by decide +kernel
theorem dX11_layLawful_31 : decode cX11_layLawful 31 = .ok (.iload 5, 2) := by decide +kernel
theorem dX11_layLawful_33 : decode cX11_layLawful 33 = .ok (.ireturn, 1) := by decide +kernel
theorem dX11_squeeze_0 : decode cX11_squeeze 0 = .ok (.aload_n 0, 1) := by decide +kernel
theorem dX11_squeeze_1 : decode cX11_squeeze 1 = .ok (.getfield 49, 3) := by decide +kernel
theorem dX11_squeeze_4 : decode cX11_squeeze 4 = .ok (.aload_n 0, 1) := by decide +kernel
theorem dX11_squeeze_5 : decode cX11_squeeze 5 = .ok (.getfield 110, 3) := by decide +kernel
theorem dX11_squeeze_8 : decode cX11_squeeze 8 = .ok (.invokevirtual 295, 3) := by decide +kernel
theorem dX11_squeeze_11 : decode cX11_squeeze 11 = .ok (.iconst 0, 1) := by decide +kernel
theorem dX11_squeeze_12 : decode cX11_squeeze 12 = .ok (.istore_n 1, 1) := by decide +kernel
theorem dX11_squeeze_13 : decode cX11_squeeze 13 = .ok (.iconst (-1), 1) := by decide +kernel
theorem dX11_squeeze_14 : decode cX11_squeeze 14 = .ok (.istore_n 2, 1) := by decide +kernel
theorem dX11_squeeze_15 : decode cX11_squeeze 15 = .ok (.iconst (-1), 1) := by decide +kernel
theorem dX11_squeeze_16 : decode cX11_squeeze 16 = .ok (.istore_n 3, 1) := by decide +kernel
theorem dX11_squeeze_17 : decode cX11_squeeze 17 = .ok (.iconst 0, 1) := by decide +kernel
theorem dX11_squeeze_18 : decode cX11_squeeze 18 = .ok (.istore 4, 2) := by decide +kernel
theorem dX11_squeeze_20 : decode cX11_squeeze 20 = .ok (.iload 4, 2) := by decide +kernel
theorem dX11_squeeze_22 : decode cX11_squeeze 22 = .ok (.aload_n 0, 1) := by decide +kernel
theorem dX11_squeeze_23 : decode cX11_squeeze 23 = .ok (.getfield 16, 3) := by decide +kernel
theorem dX11_squeeze_26 : decode cX11_squeeze 26 = .ok (.getfield 158, 3) := by decide +kernel
theorem dX11_squeeze_29 : decode cX11_squeeze 29 = .ok (.if_icmp .ge 53, 3) := by decide +kernel
theorem dX11_squeeze_32 : decode cX11_squeeze 32 = .ok (.aload_n 0, 1) := by decide +kernel
theorem dX11_squeeze_33 : decode cX11_squeeze 33 = .ok (.iload_n 2, 1) := by decide +kernel
theorem dX11_squeeze_34 : decode cX11_squeeze 34 = .ok (.iload_n 3, 1) := by decide +kernel
theorem dX11_squeeze_35 : decode cX11_squeeze 35 = .ok (.invokevirtual 338, 3) := by decide +kernel
theorem dX11_squeeze_38 : decode cX11_squeeze 38 = .ok (.istore 5, 2) := by decide +kernel
theorem dX11_squeeze_40 : decode cX11_squeeze 40 = .ok (.iload 5, 2) := by decide +kernel
theorem dX11_squeeze_42 : decode cX11_squeeze 42 = .ok (.iconst (-1), 1) := by decide +kernel
theorem dX11_squeeze_43 : decode cX11_squeeze 43 = .ok (.if_icmp .ne 6, 3) := by decide +kernel
theorem dX11_squeeze_46 : decode cX11_squeeze 46 = .ok (.goto 36, 3) := by decide +kernel
theorem dX11_squeeze_49 : decode cX11_squeeze 49 = .ok (.aload_n 0, 1) := by decide +kernel
theorem dX11_squeeze_50 : decode cX11_squeeze 50 = .ok (.getfield 110, 3) := by decide +kernel
theorem dX11_squeeze_53 : decode cX11_squeeze 53 = .ok (.iload 5, 2) := by decide +kernel
theorem dX11_squeeze_55 : decode cX11_squeeze 55 = .ok (.iconst 3, 1) := by decide +kernel
theorem dX11_squeeze_56 : decode cX11_squeeze 56 = .ok (.imul, 1) := by decide +kernel
theorem dX11_squeeze_57 : decode cX11_squeeze 57 = .ok (.iconst 1, 1) := by decide +kernel
theorem dX11_squeeze_58 : decode cX11_squeeze 58 = .ok (.iadd, 1) := by decide +kernel
theorem dX11_squeeze_59 : decode cX11_squeeze 59 = .ok (.iaload, 1) := by decide +kernel
theorem dX11_squeeze_60 : decode cX11_squeeze 60 = .ok (.istore_n 2, 1) := by decide +kernel
theorem dX11_squeeze_61 : decode cX11_squeeze 61 = .ok (.iload 5, 2) := by decide +kernel
theorem dX11_squeeze_63 : decode cX11_squeeze 63 = .ok (.istore_n 3, 1) := by decide +kernel
theorem dX11_squeeze_64 : decode cX11_squeeze 64 = .ok (.aload_n 0, 1) := by decide +kernel
theorem dX11_squeeze_65 : decode cX11_squeeze 65 = .ok (.iload 5, 2) := by decide +kernel
theorem dX11_squeeze_67 : decode cX11_squeeze 67 = .ok (.invokevirtual 341, 3) := by decide +kernel
theorem dX11_squeeze_70 : decode cX11_squeeze 70 = .ok (.ifCond .eq 6, 3) := by decide +kernel
theorem dX11_squeeze_73 : decode cX11_squeeze 73 = .ok (.iinc 1 1, 3) := by decide +kernel
theorem dX11_squeeze_76 : decode cX11_squeeze 76 = .ok (.iinc 4 1, 3) := by decide +kernel
theorem dX11_squeeze_79 : decode cX11_squeeze 79 = .ok (.goto (-59), 3) := by decide +kernel
theorem dX11_squeeze_82 : decode cX11_squeeze 82 = .ok (.iload_n 1, 1) := by decide +kernel
theorem dX11_squeeze_83 : decode cX11_squeeze 83 = .ok (.ifCond .ne 5, 3) := by decide +kernel
theorem dX11_squeeze_86 : decode cX11_squeeze 86 = .ok (.iconst (-1), 1) := by decide +kernel
theorem dX11_squeeze_87 : decode cX11_squeeze 87 = .ok (.ireturn, 1) := by decide +kernel
theorem dX11_squeeze_88 : decode cX11_squeeze 88 = .ok (.aload_n 0, 1) := by decide +kernel
theorem dX11_squeeze_89 : decode cX11_squeeze 89 = .ok (.invokevirtual 303, 3) := by decide +kernel
theorem dX11_squeeze_92 : decode cX11_squeeze 92 = .ok (.iload_n 1, 1) := by decide +kernel
theorem dX11_squeeze_93 : decode cX11_squeeze 93 = .ok (.ireturn, 1) := by decide +kernel
theorem dX11_nextByOldSlot_0 : decode cX11_nextByOldSlot 0 = .ok (.iconst (-1), 1) := by decide +kernel
theorem dX11_nextByOldSlot_1 : decode cX11_nextByOldSlot 1 = .ok (.istore_n 3, 1) := by decide +kernel
theorem dX11_nextByOldSlot_2 : decode cX11_nextByOldSlot 2 = .ok (.sipush 336, 3) := by decide +kernel
theorem dX11_nextByOldSlot_5 : decode cX11_nextByOldSlot 5 = .ok (.istore 4, 2) := by decide +kernel
theorem dX11_nextByOldSlot_7 : decode cX11_nextByOldSlot 7 = .ok (.iconst 0, 1) := by decide +kernel
theorem dX11_nextByOldSlot_8 : decode cX11_nextByOldSlot 8 = .ok (.istore 5, 2) := by decide +kernel
theorem dX11_nextByOldSlot_10 : decode cX11_nextByOldSlot 10 = .ok (.iload 5, 2) := by decide +kernel
theorem dX11_nextByOldSlot_12 : decode cX11_nextByOldSlot 12 = .ok (.aload_n 0, 1) := by decide +kernel
theorem dX11_nextByOldSlot_13 : decode cX11_nextByOldSlot 13 = .ok (.getfield 16, 3) := by decide +kernel
theorem dX11_nextByOldSlot_16 : decode cX11_nextByOldSlot 16 = .ok (.getfield 158, 3) := by decide +kernel
theorem dX11_nextByOldSlot_19 : decode cX11_nextByOldSlot 19 = .ok (.if_icmp .ge 80, 3) := by decide +kernel
theorem dX11_nextByOldSlot_22 : decode cX11_nextByOldSlot 22 = .ok (.aload_n 0, 1) := by decide +kernel
theorem dX11_nextByOldSlot_23 : decode cX11_nextByOldSlot 23 = .ok (.getfield 110, 3) := by decide +kernel
theorem dX11_nextByOldSlot_26 : decode cX11_nextByOldSlot 26 = .ok (.iload 5, 2) := by decide +kernel
theorem dX11_nextByOldSlot_28 : decode cX11_nextByOldSlot 28 = .ok (.iconst 3, 1) := by decide +kernel
theorem dX11_nextByOldSlot_29 : decode cX11_nextByOldSlot 29 = .ok (.imul, 1) := by decide +kernel
theorem dX11_nextByOldSlot_30 : decode cX11_nextByOldSlot 30 = .ok (.iconst 1, 1) := by decide +kernel
theorem dX11_nextByOldSlot_31 : decode cX11_nextByOldSlot 31 = .ok (.iadd, 1) := by decide +kernel
theorem dX11_nextByOldSlot_32 : decode cX11_nextByOldSlot 32 = .ok (.iaload, 1) := by decide +kernel
theorem dX11_nextByOldSlot_33 : decode cX11_nextByOldSlot 33 = .ok (.istore 6, 2) := by decide +kernel
theorem dX11_nextByOldSlot_35 : decode cX11_nextByOldSlot 35 = .ok (.iload 6, 2) := by decide +kernel
theorem dX11_nextByOldSlot_37 : decode cX11_nextByOldSlot 37 = .ok (.iload_n 1, 1) := by decide +kernel
theorem dX11_nextByOldSlot_38 : decode cX11_nextByOldSlot 38 = .ok (.if_icmp .gt 15, 3) := by decide +kernel
theorem dX11_nextByOldSlot_41 : decode cX11_nextByOldSlot 41 = .ok (.iload 6, 2) := by decide +kernel
theorem dX11_nextByOldSlot_43 : decode cX11_nextByOldSlot 43 = .ok (.iload_n 1, 1) := by decide +kernel
theorem dX11_nextByOldSlot_44 : decode cX11_nextByOldSlot 44 = .ok (.if_icmp .ne 13, 3) := by decide +kernel
theorem dX11_nextByOldSlot_47 : decode cX11_nextByOldSlot 47 = .ok (.iload 5, 2) := by decide +kernel
theorem dX11_nextByOldSlot_49 : decode cX11_nextByOldSlot 49 = .ok (.iload_n 2, 1) := by decide +kernel
theorem dX11_nextByOldSlot_50 : decode cX11_nextByOldSlot 50 = .ok (.if_icmp .le 7, 3) := by decide +kernel
theorem dX11_nextByOldSlot_53 : decode cX11_nextByOldSlot 53 = .ok (.iconst 1, 1) := by decide +kernel
theorem dX11_nextByOldSlot_54 : decode cX11_nextByOldSlot 54 = .ok (.goto 4, 3) := by decide +kernel
theorem dX11_nextByOldSlot_57 : decode cX11_nextByOldSlot 57 = .ok (.iconst 0, 1) := by decide +kernel
theorem dX11_nextByOldSlot_58 : decode cX11_nextByOldSlot 58 = .ok (.istore 7, 2) := by decide +kernel
theorem dX11_nextByOldSlot_60 : decode cX11_nextByOldSlot 60 = .ok (.aload_n 0, 1) := by decide +kernel
theorem dX11_nextByOldSlot_61 : decode cX11_nextByOldSlot 61 = .ok (.getfield 110, 3) := by decide +kernel
theorem dX11_nextByOldSlot_64 : decode cX11_nextByOldSlot 64 = .ok (.iload 5, 2) := by decide +kernel
theorem dX11_nextByOldSlot_66 : decode cX11_nextByOldSlot 66 = .ok (.iconst 3, 1) := by decide +kernel
theorem dX11_nextByOldSlot_67 : decode cX11_nextByOldSlot 67 = .ok (.imul, 1) := by decide +kernel
theorem dX11_nextByOldSlot_68 : decode cX11_nextByOldSlot 68 = .ok (.iconst 2, 1) := by decide +kernel
theorem dX11_nextByOldSlot_69 : decode cX11_nextByOldSlot 69 = .ok (.iadd, 1) := by decide +kernel
theorem dX11_nextByOldSlot_70 : decode cX11_nextByOldSlot 70 = .ok (.iaload, 1) := by decide +kernel
theorem dX11_nextByOldSlot_71 : decode cX11_nextByOldSlot 71 = .ok (.ifCond .le 22, 3) := by decide +kernel
theorem dX11_nextByOldSlot_74 : decode cX11_nextByOldSlot 74 = .ok (.iload 7, 2) := by decide +kernel
theorem dX11_nextByOldSlot_76 : decode cX11_nextByOldSlot 76 = .ok (.ifCond .eq 17, 3) := by decide +kernel
theorem dX11_nextByOldSlot_79 : decode cX11_nextByOldSlot 79 = .ok (.iload 6, 2) := by decide +kernel
theorem dX11_nextByOldSlot_81 : decode cX11_nextByOldSlot 81 = .ok (.iload 4, 2) := by decide +kernel
theorem dX11_nextByOldSlot_83 : decode cX11_nextByOldSlot 83 = .ok (.if_icmp .ge 10, 3) := by decide +kernel
theorem dX11_nextByOldSlot_86 : decode cX11_nextByOldSlot 86 = .ok (.iload 5, 2) := by decide +kernel
theorem dX11_nextByOldSlot_88 : decode cX11_nextByOldSlot 88 = .ok (.istore_n 3, 1) := by decide +kernel
theorem dX11_nextByOldSlot_89 : decode cX11_nextByOldSlot 89 = .ok (.iload 6, 2) := by decide +kernel
theorem dX11_nextByOldSlot_91 : decode cX11_nextByOldSlot 91 = .ok (.istore 4, 2) := by decide +kernel
theorem dX11_nextByOldSlot_93 : decode cX11_nextByOldSlot 93 = .ok (.iinc 5 1, 3) := by decide +kernel
theorem dX11_nextByOldSlot_96 : decode cX11_nextByOldSlot 96 = .ok (.goto (-86), 3) := by decide +kernel
theorem dX11_nextByOldSlot_99 : decode cX11_nextByOldSlot 99 = .ok (.iload_n 3, 1) := by decide +kernel
theorem dX11_nextByOldSlot_100 : decode cX11_nextByOldSlot 100 = .ok (.ireturn, 1) := by decide +kernel
theorem dX11_drawEarlier_0 : decode cX11_drawEarlier 0 = .ok (.aload_n 0, 1) := by decide +kernel
theorem dX11_drawEarlier_1 : decode cX11_drawEarlier 1 = .ok (.getfield 49, 3) := by decide +kernel
theorem dX11_drawEarlier_4 : decode cX11_drawEarlier 4 = .ok (.getfield 225, 3) := by decide +kernel
theorem dX11_drawEarlier_7 : decode cX11_drawEarlier 7 = .ok (.iload_n 1, 1) := by decide +kernel
theorem dX11_drawEarlier_8 : decode cX11_drawEarlier 8 = .ok (.iaload, 1) := by decide +kernel
theorem dX11_drawEarlier_9 : decode cX11_drawEarlier 9 = .ok (.istore_n 2, 1) := by decide +kernel
theorem dX11_drawEarlier_10 : decode cX11_drawEarlier 10 = .ok (.aload_n 0, 1) := by decide +kernel
theorem dX11_drawEarlier_11 : decode cX11_drawEarlier 11 = .ok (.getfield 49, 3) := by decide +kernel
theorem dX11_drawEarlier_14 : decode cX11_drawEarlier 14 = .ok (.getfield 231, 3) := by decide +kernel
theorem dX11_drawEarlier_17 : decode cX11_drawEarlier 17 = .ok (.iload_n 1, 1) := by decide +kernel
theorem dX11_drawEarlier_18 : decode cX11_drawEarlier 18 = .ok (.iaload, 1) := by decide +kernel
theorem dX11_drawEarlier_19 : decode cX11_drawEarlier 19 = .ok (.istore_n 3, 1) := by decide +kernel
theorem dX11_drawEarlier_20 : decode cX11_drawEarlier 20 = .ok (.aload_n 0, 1) := by decide +kernel
theorem dX11_drawEarlier_21 : decode cX11_drawEarlier 21 = .ok (.getfield 49, 3) := by decide +kernel
theorem dX11_drawEarlier_24 : decode cX11_drawEarlier 24 = .ok (.getfield 228, 3) := by decide +kernel
theorem dX11_drawEarlier_27 : decode cX11_drawEarlier 27 = .ok (.iload_n 1, 1) := by decide +kernel
theorem dX11_drawEarlier_28 : decode cX11_drawEarlier 28 = .ok (.iaload, 1) := by decide +kernel
theorem dX11_drawEarlier_29 : decode cX11_drawEarlier 29 = .ok (.istore 4, 2) := by decide +kernel
theorem dX11_drawEarlier_31 : decode cX11_drawEarlier 31 = .ok (.aload_n 0, 1) := by decide +kernel
theorem dX11_drawEarlier_32 : decode cX11_drawEarlier 32 = .ok (.getfield 49, 3) := by decide +kernel
theorem dX11_drawEarlier_35 : decode cX11_drawEarlier 35 = .ok (.iload_n 1, 1) := by decide +kernel
theorem dX11_drawEarlier_36 : decode cX11_drawEarlier 36 = .ok (.invokevirtual 260, 3) := by decide +kernel
theorem dX11_drawEarlier_39 : decode cX11_drawEarlier 39 = .ok (.aload_n 0, 1) := by decide +kernel
theorem dX11_drawEarlier_40 : decode cX11_drawEarlier 40 = .ok (.getfield 16, 3) := by decide +kernel
theorem dX11_drawEarlier_43 : decode cX11_drawEarlier 43 = .ok (.iload_n 1, 1) := by decide +kernel
theorem dX11_drawEarlier_44 : decode cX11_drawEarlier 44 = .ok (.iconst 4, 1) := by decide +kernel
theorem dX11_drawEarlier_45 : decode cX11_drawEarlier 45 = .ok (.invokevirtual 219, 3) := by decide +kernel
theorem dX11_drawEarlier_48 : decode cX11_drawEarlier 48 = .ok (.istore 5, 2) := by decide +kernel
theorem dX11_drawEarlier_50 : decode cX11_drawEarlier 50 = .ok (.iload 5, 2) := by decide +kernel
theorem dX11_drawEarlier_52 : decode cX11_drawEarlier 52 = .ok (.iload 4, 2) := by decide +kernel
theorem dX11_drawEarlier_54 : decode cX11_drawEarlier 54 = .ok (.if_icmp .ge 23, 3) := by decide +kernel
theorem dX11_drawEarlier_57 : decode cX11_drawEarlier 57 = .ok (.aload_n 0, 1) := by decide +kernel
theorem dX11_drawEarlier_58 : decode cX11_drawEarlier 58 = .ok (.iload_n 1, 1) := by decide +kernel
theorem dX11_drawEarlier_59 : decode cX11_drawEarlier 59 = .ok (.iload_n 2, 1) := by decide +kernel
theorem dX11_drawEarlier_60 : decode cX11_drawEarlier 60 = .ok (.iload 5, 2) := by decide +kernel
theorem dX11_drawEarlier_62 : decode cX11_drawEarlier 62 = .ok (.iload_n 3, 1) := by decide +kernel
theorem dX11_drawEarlier_63 : decode cX11_drawEarlier 63 = .ok (.invokevirtual 332, 3) := by decide +kernel
theorem dX11_drawEarlier_66 : decode cX11_drawEarlier 66 = .ok (.ifCond .ne 5, 3) := by decide +kernel
theorem dX11_drawEarlier_69 : decode cX11_drawEarlier 69 = .ok (.iconst 1, 1) := by decide +kernel
theorem dX11_drawEarlier_70 : decode cX11_drawEarlier 70 = .ok (.ireturn, 1) := by decide +kernel
theorem dX11_drawEarlier_71 : decode cX11_drawEarlier 71 = .ok (.iinc 5 1, 3) := by decide +kernel
theorem dX11_drawEarlier_74 : decode cX11_drawEarlier 74 = .ok (.goto (-24), 3) := by decide +kernel
theorem dX11_drawEarlier_77 : decode cX11_drawEarlier 77 = .ok (.aload_n 0, 1) := by decide +kernel
theorem dX11_drawEarlier_78 : decode cX11_drawEarlier 78 = .ok (.getfield 49, 3) := by decide +kernel
theorem dX11_drawEarlier_81 : decode cX11_drawEarlier 81 = .ok (.iload_n 1, 1) := by decide +kernel
theorem dX11_drawEarlier_82 : decode cX11_drawEarlier 82 = .ok (.invokevirtual 267, 3) := by decide +kernel
theorem dX11_drawEarlier_85 : decode cX11_drawEarlier 85 = .ok (.iconst 0, 1) := by decide +kernel
theorem dX11_drawEarlier_86 : decode cX11_drawEarlier 86 = .ok (.ireturn, 1) := by decide +kernel
theorem dX11_places_0 : decode cX11_places 0 = .ok (.aload_n 0, 1) := by decide +kernel
theorem dX11_places_1 : decode cX11_places 1 = .ok (.iload_n 1, 1) := by decide +kernel
theorem dX11_places_2 : decode cX11_places 2 = .ok (.invokevirtual 216, 3) := by decide +kernel
theorem dX11_places_5 : decode cX11_places 5 = .ok (.ifCond .eq 9, 3) := by decide +kernel
theorem dX11_places_8 : decode cX11_places 8 = .ok (.iload 4, 2) := by decide +kernel
theorem dX11_places_10 : decode cX11_places 10 = .ok (.iconst (-1), 1) := by decide +kernel
theorem dX11_places_11 : decode cX11_places 11 = .ok (.if_icmp .ge 5, 3) := by decide +kernel
theorem dX11_places_14 : decode cX11_places 14 = .ok (.iconst (-1), 1) := by decide +kernel
theorem dX11_places_15 : decode cX11_places 15 = .ok (.ireturn, 1) := by decide +kernel
theorem dX11_places_16 : decode cX11_places 16 = .ok (.aload_n 0, 1) := by decide +kernel
theorem dX11_places_17 : decode cX11_places 17 = .ok (.getfield 49, 3) := by decide +kernel
theorem dX11_places_20 : decode cX11_places 20 = .ok (.iload_n 1, 1) := by decide +kernel
theorem dX11_places_21 : decode cX11_places 21 = .ok (.invokevirtual 260, 3) := by decide +kernel
theorem dX11_places_24 : decode cX11_places 24 = .ok (.iconst 0, 1) := by decide +kernel
theorem dX11_places_25 : decode cX11_places 25 = .ok (.istore 5, 2) := by decide +kernel
theorem dX11_places_27 : decode cX11_places 27 = .ok (.bipush (-2), 2) := by decide +kernel
theorem dX11_places_29 : decode cX11_places 29 = .ok (.istore 6, 2) := by decide +kernel
theorem dX11_places_31 : decode cX11_places 31 = .ok (.aload_n 0, 1) := by decide +kernel
theorem dX11_places_32 : decode cX11_places 32 = .ok (.getfield 16, 3) := by decide +kernel
theorem dX11_places_35 : decode cX11_places 35 = .ok (.getfield 146, 3) := by decide +kernel
theorem dX11_places_38 : decode cX11_places 38 = .ok (.iconst 0, 1) := by decide +kernel
theorem dX11_places_39 : decode cX11_places 39 = .ok (.iaload, 1) := by decide +kernel
theorem dX11_places_40 : decode cX11_places 40 = .ok (.aload_n 0, 1) := by decide +kernel
theorem dX11_places_41 : decode cX11_places 41 = .ok (.getfield 16, 3) := by decide +kernel
theorem dX11_places_44 : decode cX11_places 44 = .ok (.iload_n 1, 1) := by decide +kernel
theorem dX11_places_45 : decode cX11_places 45 = .ok (.iconst 0, 1) := by decide +kernel
theorem dX11_places_46 : decode cX11_places 46 = .ok (.invokevirtual 219, 3) := by decide +kernel
theorem dX11_places_49 : decode cX11_places 49 = .ok (.isub, 1) := by decide +kernel
theorem dX11_places_50 : decode cX11_places 50 = .ok (.istore 7, 2) := by decide +kernel
theorem dX11_places_52 : decode cX11_places 52 = .ok (.iconst 0, 1) := by decide +kernel
theorem dX11_places_53 : decode cX11_places 53 = .ok (.istore 8, 2) := by decide +kernel
theorem dX11_places_55 : decode cX11_places 55 = .ok (.iload 8, 2) := by decide +kernel
theorem dX11_places_57 : decode cX11_places 57 = .ok (.iload 7, 2) := by decide +kernel
theorem dX11_places_59 : decode cX11_places 59 = .ok (.if_icmp .gt 38, 3) := by decide +kernel
theorem dX11_places_62 : decode cX11_places 62 = .ok (.aload_n 0, 1) := by decide +kernel
theorem dX11_places_63 : decode cX11_places 63 = .ok (.getfield 67, 3) := by decide +kernel
theorem dX11_places_66 : decode cX11_places 66 = .ok (.iload_n 1, 1) := by decide +kernel
theorem dX11_places_67 : decode cX11_places 67 = .ok (.iload 8, 2) := by decide +kernel
theorem dX11_places_69 : decode cX11_places 69 = .ok (.iload_n 2, 1) := by decide +kernel
theorem dX11_places_70 : decode cX11_places 70 = .ok (.iload_n 3, 1) := by decide +kernel
theorem dX11_places_71 : decode cX11_places 71 = .ok (.invokevirtual 263, 3) := by decide +kernel
theorem dX11_places_74 : decode cX11_places 74 = .ok (.ifCond .ne 17, 3) := by decide +kernel
theorem dX11_places_77 : decode cX11_places 77 = .ok (.iload 5, 2) := by decide +kernel
theorem dX11_places_79 : decode cX11_places 79 = .ok (.iload 4, 2) := by decide +kernel
theorem dX11_places_81 : decode cX11_places 81 = .ok (.if_icmp .ne 7, 3) := by decide +kernel
theorem dX11_places_84 : decode cX11_places 84 = .ok (.iload 8, 2) := by decide +kernel
theorem dX11_places_86 : decode cX11_places 86 = .ok (.istore 6, 2) := by decide +kernel
theorem dX11_places_88 : decode cX11_places 88 = .ok (.iinc 5 1, 3) := by decide +kernel
theorem dX11_places_91 : decode cX11_places 91 = .ok (.iinc 8 10, 3) := by decide +kernel
theorem dX11_places_94 : decode cX11_places 94 = .ok (.goto (-39), 3) := by decide +kernel
theorem dX11_places_97 : decode cX11_places 97 = .ok (.aload_n 0, 1) := by decide +kernel
theorem dX11_places_98 : decode cX11_places 98 = .ok (.getfield 49, 3) := by decide +kernel
theorem dX11_places_101 : decode cX11_places 101 = .ok (.iload_n 1, 1) := by decide +kernel
theorem dX11_places_102 : decode cX11_places 102 = .ok (.invokevirtual 267, 3) := by decide +kernel
theorem dX11_places_105 : decode cX11_places 105 = .ok (.iload 4, 2) := by decide +kernel
theorem dX11_places_107 : decode cX11_places 107 = .ok (.iconst (-1), 1) := by decide +kernel
theorem dX11_places_108 : decode cX11_places 108 = .ok (.if_icmp .ne 8, 3) := by decide +kernel
theorem dX11_places_111 : decode cX11_places 111 = .ok (.iload 5, 2) := by decide +kernel
theorem dX11_places_113 : decode cX11_places 113 = .ok (.goto 5, 3) := by decide +kernel
theorem dX11_places_116 : decode cX11_places 116 = .ok (.iload 6, 2) := by decide +kernel
theorem dX11_places_118 : decode cX11_places 118 = .ok (.ireturn, 1) := by decide +kernel
theorem dX11_hopeless_0 : decode cX11_hopeless 0 = .ok (.aload_n 0, 1) := by decide +kernel
theorem dX11_hopeless_1 : decode cX11_hopeless 1 = .ok (.getfield 49, 3) := by decide +kernel
theorem dX11_hopeless_4 : decode cX11_hopeless 4 = .ok (.aload_n 0, 1) := by decide +kernel
theorem dX11_hopeless_5 : decode cX11_hopeless 5 = .ok (.getfield 110, 3) := by decide +kernel
theorem dX11_hopeless_8 : decode cX11_hopeless 8 = .ok (.invokevirtual 295, 3) := by decide +kernel
theorem dX11_hopeless_11 : decode cX11_hopeless 11 = .ok (.aload_n 0, 1) := by decide +kernel
theorem dX11_hopeless_12 : decode cX11_hopeless 12 = .ok (.getfield 49, 3) := by decide +kernel
theorem dX11_hopeless_15 : decode cX11_hopeless 15 = .ok (.invokevirtual 132, 3) := by decide +kernel
theorem dX11_hopeless_18 : decode cX11_hopeless 18 = .ok (.iconst 0, 1) := by decide +kernel
theorem dX11_hopeless_19 : decode cX11_hopeless 19 = .ok (.istore_n 1, 1) := by decide +kernel
theorem dX11_hopeless_20 : decode cX11_hopeless 20 = .ok (.iconst 0, 1) := by decide +kernel
theorem dX11_hopeless_21 : decode cX11_hopeless 21 = .ok (.istore_n 2, 1) := by decide +kernel
theorem dX11_hopeless_22 : decode cX11_hopeless 22 = .ok (.iload_n 2, 1) := by decide +kernel
theorem dX11_hopeless_23 : decode cX11_hopeless 23 = .ok (.aload_n 0, 1) := by decide +kernel
theorem dX11_hopeless_24 : decode cX11_hopeless 24 = .ok (.getfield 16, 3) := by decide +kernel
theorem dX11_hopeless_27 : decode cX11_hopeless 27 = .ok (.getfield 158, 3) := by decide +kernel
theorem dX11_hopeless_30 : decode cX11_hopeless 30 = .ok (.if_icmp .ge 46, 3) := by decide +kernel
theorem dX11_hopeless_33 : decode cX11_hopeless 33 = .ok (.aload_n 0, 1) := by decide +kernel
theorem dX11_hopeless_34 : decode cX11_hopeless 34 = .ok (.getfield 76, 3) := by decide +kernel
theorem dX11_hopeless_37 : decode cX11_hopeless 37 = .ok (.iload_n 2, 1) := by decide +kernel
theorem dX11_hopeless_38 : decode cX11_hopeless 38 = .ok (.aload_n 0, 1) := by decide +kernel
theorem dX11_hopeless_39 : decode cX11_hopeless 39 = .ok (.getfield 16, 3) := by decide +kernel
theorem dX11_hopeless_42 : decode cX11_hopeless 42 = .ok (.iload_n 2, 1) := by decide +kernel
theorem dX11_hopeless_43 : decode cX11_hopeless 43 = .ok (.bipush 8, 2) := by decide +kernel
theorem dX11_hopeless_45 : decode cX11_hopeless 45 = .ok (.invokevirtual 219, 3) := by decide +kernel
theorem dX11_hopeless_48 : decode cX11_hopeless 48 = .ok (.aload_n 0, 1) := by decide +kernel
theorem dX11_hopeless_49 : decode cX11_hopeless 49 = .ok (.getfield 16, 3) := by decide +kernel
theorem dX11_hopeless_52 : decode cX11_hopeless 52 = .ok (.iload_n 2, 1) := by decide +kernel
theorem dX11_hopeless_53 : decode cX11_hopeless 53 = .ok (.bipush 7, 2) := by decide +kernel
theorem dX11_hopeless_55 : decode cX11_hopeless 55 = .ok (.invokevirtual 219, 3) := by decide +kernel
theorem dX11_hopeless_58 : decode cX11_hopeless 58 = .ok (.invokevirtual 281, 3) := by decide +kernel
theorem dX11_hopeless_61 : decode cX11_hopeless 61 = .ok (.ifCond .ne 9, 3) := by decide +kernel
theorem dX11_hopeless_64 : decode cX11_hopeless 64 = .ok (.iload_n 1, 1) := by decide +kernel
theorem dX11_hopeless_65 : decode cX11_hopeless 65 = .ok (.iconst 1, 1) := by decide +kernel
theorem dX11_hopeless_66 : decode cX11_hopeless 66 = .ok (.iload_n 2, 1) := by decide +kernel
theorem dX11_hopeless_67 : decode cX11_hopeless 67 = .ok (.ishl, 1) := by decide +kernel
theorem dX11_hopeless_68 : decode cX11_hopeless 68 = .ok (.ior, 1) := by decide +kernel
theorem dX11_hopeless_69 : decode cX11_hopeless 69 = .ok (.istore_n 1, 1) := by decide +kernel
theorem dX11_hopeless_70 : decode cX11_hopeless 70 = .ok (.iinc 2 1, 3) := by decide +kernel
theorem dX11_hopeless_73 : decode cX11_hopeless 73 = .ok (.goto (-51), 3) := by decide +kernel
theorem dX11_hopeless_76 : decode cX11_hopeless 76 = .ok (.aload_n 0, 1) := by decide +kernel
theorem dX11_hopeless_77 : decode cX11_hopeless 77 = .ok (.getfield 49, 3) := by decide +kernel
theorem dX11_hopeless_80 : decode cX11_hopeless 80 = .ok (.aload_n 0, 1) := by decide +kernel
theorem dX11_hopeless_81 : decode cX11_hopeless 81 = .ok (.getfield 110, 3) := by decide +kernel
theorem dX11_hopeless_84 : decode cX11_hopeless 84 = .ok (.invokevirtual 335, 3) := by decide +kernel
theorem dX11_hopeless_87 : decode cX11_hopeless 87 = .ok (.iload_n 1, 1) := by decide +kernel
theorem dX11_hopeless_88 : decode cX11_hopeless 88 = .ok (.ireturn, 1) := by decide +kernel
theorem dX11_slack_0 : decode cX11_slack 0 = .ok (.aload_n 0, 1) := by decide +kernel
theorem dX11_slack_1 : decode cX11_slack 1 = .ok (.iload_n 1, 1) := by decide +kernel
theorem dX11_slack_2 : decode cX11_slack 2 = .ok (.invokevirtual 216, 3) := by decide +kernel
theorem dX11_slack_5 : decode cX11_slack 5 = .ok (.ifCond .ne 5, 3) := by decide +kernel
theorem dX11_slack_8 : decode cX11_slack 8 = .ok (.iconst (-1), 1) := by decide +kernel
theorem dX11_slack_9 : decode cX11_slack 9 = .ok (.ireturn, 1) := by decide +kernel
theorem dX11_slack_10 : decode cX11_slack 10 = .ok (.aload_n 0, 1) := by decide +kernel
theorem dX11_slack_11 : decode cX11_slack 11 = .ok (.getfield 49, 3) := by decide +kernel
theorem dX11_slack_14 : decode cX11_slack 14 = .ok (.iload_n 1, 1) := by decide +kernel
theorem dX11_slack_15 : decode cX11_slack 15 = .ok (.invokevirtual 178, 3) := by decide +kernel
theorem dX11_slack_18 : decode cX11_slack 18 = .ok (.ifCond .ne 6, 3) := by decide +kernel
theorem dX11_slack_21 : decode cX11_slack 21 = .ok (.bipush (-2), 2) := by decide +kernel
theorem dX11_slack_23 : decode cX11_slack 23 = .ok (.ireturn, 1) := by decide +kernel
theorem dX11_slack_24 : decode cX11_slack 24 = .ok (.aload_n 0, 1) := by decide +kernel
theorem dX11_slack_25 : decode cX11_slack 25 = .ok (.getfield 49, 3) := by decide +kernel
theorem dX11_slack_28 : decode cX11_slack 28 = .ok (.getfield 225, 3) := by decide +kernel
theorem dX11_slack_31 : decode cX11_slack 31 = .ok (.iload_n 1, 1) := by decide +kernel
theorem dX11_slack_32 : decode cX11_slack 32 = .ok (.iaload, 1) := by decide +kernel
theorem dX11_slack_33 : decode cX11_slack 33 = .ok (.istore_n 2, 1) := by decide +kernel
theorem dX11_slack_34 : decode cX11_slack 34 = .ok (.aload_n 0, 1) := by decide +kernel
theorem dX11_slack_35 : decode cX11_slack 35 = .ok (.getfield 49, 3) := by decide +kernel
theorem dX11_slack_38 : decode cX11_slack 38 = .ok (.getfield 228, 3) := by decide +kernel
theorem dX11_slack_41 : decode cX11_slack 41 = .ok (.iload_n 1, 1) := by decide +kernel
theorem dX11_slack_42 : decode cX11_slack 42 = .ok (.iaload, 1) := by decide +kernel
theorem dX11_slack_43 : decode cX11_slack 43 = .ok (.istore_n 3, 1) := by decide +kernel
theorem dX11_slack_44 : decode cX11_slack 44 = .ok (.aload_n 0, 1) := by decide +kernel
theorem dX11_slack_45 : decode cX11_slack 45 = .ok (.getfield 49, 3) := by decide +kernel
theorem dX11_slack_48 : decode cX11_slack 48 = .ok (.getfield 231, 3) := by decide +kernel
theorem dX11_slack_51 : decode cX11_slack 51 = .ok (.iload_n 1, 1) := by decide +kernel
theorem dX11_slack_52 : decode cX11_slack 52 = .ok (.iaload, 1) := by decide +kernel
theorem dX11_slack_53 : decode cX11_slack 53 = .ok (.istore 4, 2) := by decide +kernel
theorem dX11_slack_55 : decode cX11_slack 55 = .ok (.aload_n 0, 1) := by decide +kernel
theorem dX11_slack_56 : decode cX11_slack 56 = .ok (.getfield 49, 3) := by decide +kernel
theorem dX11_slack_59 : decode cX11_slack 59 = .ok (.iload_n 1, 1) := by decide +kernel
theorem dX11_slack_60 : decode cX11_slack 60 = .ok (.invokevirtual 260, 3) := by decide +kernel
theorem dX11_slack_63 : decode cX11_slack 63 = .ok (.sipush 335, 3) := by decide +kernel
theorem dX11_slack_66 : decode cX11_slack 66 = .ok (.istore 5, 2) := by decide +kernel
theorem dX11_slack_68 : decode cX11_slack 68 = .ok (.iload 5, 2) := by decide +kernel
theorem dX11_slack_70 : decode cX11_slack 70 = .ok (.iload_n 3, 1) := by decide +kernel
theorem dX11_slack_71 : decode cX11_slack 71 = .ok (.if_icmp .le 25, 3) := by decide +kernel
theorem dX11_slack_74 : decode cX11_slack 74 = .ok (.aload_n 0, 1) := by decide +kernel
theorem dX11_slack_75 : decode cX11_slack 75 = .ok (.getfield 67, 3) := by decide +kernel
theorem dX11_slack_78 : decode cX11_slack 78 = .ok (.iload_n 1, 1) := by decide +kernel
theorem dX11_slack_79 : decode cX11_slack 79 = .ok (.iload_n 2, 1) := by decide +kernel
theorem dX11_slack_80 : decode cX11_slack 80 = .ok (.iload 5, 2) := by decide +kernel
theorem dX11_slack_82 : decode cX11_slack 82 = .ok (.iload 4, 2) := by decide +kernel
theorem dX11_slack_84 : decode cX11_slack 84 = .ok (.invokevirtual 263, 3) := by decide +kernel
theorem dX11_slack_87 : decode cX11_slack 87 = .ok (.ifCond .eq 9, 3) := by decide +kernel
theorem dX11_slack_90 : decode cX11_slack 90 = .ok (.iinc 5 (-1), 3) := by decide +kernel
theorem dX11_slack_93 : decode cX11_slack 93 = .ok (.goto (-25), 3) := by decide +kernel
theorem dX11_slack_96 : decode cX11_slack 96 = .ok (.aload_n 0, 1) := by decide +kernel
theorem dX11_slack_97 : decode cX11_slack 97 = .ok (.getfield 49, 3) := by decide +kernel
theorem dX11_slack_100 : decode cX11_slack 100 = .ok (.iload_n 1, 1) := by decide +kernel
theorem dX11_slack_101 : decode cX11_slack 101 = .ok (.invokevirtual 267, 3) := by decide +kernel
theorem dX11_slack_104 : decode cX11_slack 104 = .ok (.iload 5, 2) := by decide +kernel
theorem dX11_slack_106 : decode cX11_slack 106 = .ok (.iload_n 3, 1) := by decide +kernel
theorem dX11_slack_107 : decode cX11_slack 107 = .ok (.isub, 1) := by decide +kernel
theorem dX11_slack_108 : decode cX11_slack 108 = .ok (.ireturn, 1) := by decide +kernel
theorem dX11_along_0 : decode cX11_along 0 = .ok (.aload_n 0, 1) := by decide +kernel
theorem dX11_along_1 : decode cX11_along 1 = .ok (.iload_n 1, 1) := by decide +kernel
theorem dX11_along_2 : decode cX11_along 2 = .ok (.invokevirtual 216, 3) := by decide +kernel
theorem dX11_along_5 : decode cX11_along 5 = .ok (.ifCond .eq 12, 3) := by decide +kernel
theorem dX11_along_8 : decode cX11_along 8 = .ok (.iload_n 2, 1) := by decide +kernel
theorem dX11_along_9 : decode cX11_along 9 = .ok (.ifCond .lt 8, 3) := by decide +kernel
theorem dX11_along_12 : decode cX11_along 12 = .ok (.iload_n 2, 1) := by decide +kernel
theorem dX11_along_13 : decode cX11_along 13 = .ok (.iconst 1, 1) := by decide +kernel
theorem dX11_along_14 : decode cX11_along 14 = .ok (.if_icmp .le 5, 3) := by decide +kernel
theorem dX11_along_17 : decode cX11_along 17 = .ok (.iconst (-1), 1) := by decide +kernel
theorem dX11_along_18 : decode cX11_along 18 = .ok (.ireturn, 1) := by decide +kernel
theorem dX11_along_19 : decode cX11_along 19 = .ok (.aload_n 0, 1) := by decide +kernel
theorem dX11_along_20 : decode cX11_along 20 = .ok (.getfield 49, 3) := by decide +kernel
theorem dX11_along_23 : decode cX11_along 23 = .ok (.iload_n 1, 1) := by decide +kernel
theorem dX11_along_24 : decode cX11_along 24 = .ok (.invokevirtual 178, 3) := by decide +kernel
theorem dX11_along_27 : decode cX11_along 27 = .ok (.ifCond .ne 6, 3) := by decide +kernel
theorem dX11_along_30 : decode cX11_along 30 = .ok (.bipush (-2), 2) := by decide +kernel
theorem dX11_along_32 : decode cX11_along 32 = .ok (.ireturn, 1) := by decide +kernel
theorem dX11_along_33 : decode cX11_along 33 = .ok (.aload_n 0, 1) := by decide +kernel
theorem dX11_along_34 : decode cX11_along 34 = .ok (.getfield 49, 3) := by decide +kernel
theorem dX11_along_37 : decode cX11_along 37 = .ok (.getfield 225, 3) := by decide +kernel
theorem dX11_along_40 : decode cX11_along 40 = .ok (.iload_n 1, 1) := by decide +kernel
theorem dX11_along_41 : decode cX11_along 41 = .ok (.iaload, 1) := by decide +kernel
theorem dX11_along_42 : decode cX11_along 42 = .ok (.istore_n 3, 1) := by decide +kernel
theorem dX11_along_43 : decode cX11_along 43 = .ok (.aload_n 0, 1) := by decide +kernel
theorem dX11_along_44 : decode cX11_along 44 = .ok (.getfield 49, 3) := by decide +kernel
theorem dX11_along_47 : decode cX11_along 47 = .ok (.getfield 228, 3) := by decide +kernel
theorem dX11_along_50 : decode cX11_along 50 = .ok (.iload_n 1, 1) := by decide +kernel
theorem dX11_along_51 : decode cX11_along 51 = .ok (.iaload, 1) := by decide +kernel
theorem dX11_along_52 : decode cX11_along 52 = .ok (.istore 4, 2) := by decide +kernel
theorem dX11_along_54 : decode cX11_along 54 = .ok (.aload_n 0, 1) := by decide +kernel
theorem dX11_along_55 : decode cX11_along 55 = .ok (.getfield 49, 3) := by decide +kernel
theorem dX11_along_58 : decode cX11_along 58 = .ok (.getfield 231, 3) := by decide +kernel
theorem dX11_along_61 : decode cX11_along 61 = .ok (.iload_n 1, 1) := by decide +kernel
theorem dX11_along_62 : decode cX11_along 62 = .ok (.iaload, 1) := by decide +kernel
theorem dX11_along_63 : decode cX11_along 63 = .ok (.istore 5, 2) := by decide +kernel
theorem dX11_along_65 : decode cX11_along 65 = .ok (.iload_n 2, 1) := by decide +kernel
theorem dX11_along_66 : decode cX11_along 66 = .ok (.ifCond .ne 7, 3) := by decide +kernel
theorem dX11_along_69 : decode cX11_along 69 = .ok (.iconst (-1), 1) := by decide +kernel
theorem dX11_along_70 : decode cX11_along 70 = .ok (.goto 4, 3) := by decide +kernel
theorem dX11_along_73 : decode cX11_along 73 = .ok (.iconst 1, 1) := by decide +kernel
theorem dX11_along_74 : decode cX11_along 74 = .ok (.istore 6, 2) := by decide +kernel
theorem dX11_along_76 : decode cX11_along 76 = .ok (.aload_n 0, 1) := by decide +kernel
theorem dX11_along_77 : decode cX11_along 77 = .ok (.getfield 49, 3) := by decide +kernel
theorem dX11_along_80 : decode cX11_along 80 = .ok (.iload_n 1, 1) := by decide +kernel
theorem dX11_along_81 : decode cX11_along 81 = .ok (.invokevirtual 260, 3) := by decide +kernel
theorem dX11_along_84 : decode cX11_along 84 = .ok (.iconst 0, 1) := by decide +kernel
theorem dX11_along_85 : decode cX11_along 85 = .ok (.istore 7, 2) := by decide +kernel
theorem dX11_along_87 : decode cX11_along 87 = .ok (.iload 7, 2) := by decide +kernel
theorem dX11_along_89 : decode cX11_along 89 = .ok (.aload_n 0, 1) := by decide +kernel
theorem dX11_along_90 : decode cX11_along 90 = .ok (.getfield 16, 3) := by decide +kernel
theorem dX11_along_93 : decode cX11_along 93 = .ok (.getfield 146, 3) := by decide +kernel
theorem dX11_along_96 : decode cX11_along 96 = .ok (.iconst 0, 1) := by decide +kernel
theorem dX11_along_97 : decode cX11_along 97 = .ok (.iaload, 1) := by decide +kernel
theorem dX11_along_98 : decode cX11_along 98 = .ok (.if_icmp .ge 36, 3) := by decide +kernel
theorem dX11_along_101 : decode cX11_along 101 = .ok (.aload_n 0, 1) := by decide +kernel
theorem dX11_along_102 : decode cX11_along 102 = .ok (.getfield 67, 3) := by decide +kernel
theorem dX11_along_105 : decode cX11_along 105 = .ok (.iload_n 1, 1) := by decide +kernel
theorem dX11_along_106 : decode cX11_along 106 = .ok (.iload_n 3, 1) := by decide +kernel
theorem dX11_along_107 : decode cX11_along 107 = .ok (.iload 6, 2) := by decide +kernel
theorem dX11_along_109 : decode cX11_along 109 = .ok (.iadd, 1) := by decide +kernel
theorem dX11_along_110 : decode cX11_along 110 = .ok (.iload 4, 2) := by decide +kernel
theorem dX11_along_112 : decode cX11_along 112 = .ok (.iload 5, 2) := by decide +kernel
theorem dX11_along_114 : decode cX11_along 114 = .ok (.invokevirtual 263, 3) := by decide +kernel
theorem dX11_along_117 : decode cX11_along 117 = .ok (.ifCond .eq 6, 3) := by decide +kernel
theorem dX11_along_120 : decode cX11_along 120 = .ok (.goto 14, 3) := by decide +kernel
theorem dX11_along_123 : decode cX11_along 123 = .ok (.iload_n 3, 1) := by decide +kernel
theorem dX11_along_124 : decode cX11_along 124 = .ok (.iload 6, 2) := by decide +kernel
theorem dX11_along_126 : decode cX11_along 126 = .ok (.iadd, 1) := by decide +kernel
theorem dX11_along_127 : decode cX11_along 127 = .ok (.istore_n 3, 1) := by decide +kernel
theorem dX11_along_128 : decode cX11_along 128 = .ok (.iinc 7 1, 3) := by decide +kernel
theorem dX11_along_131 : decode cX11_along 131 = .ok (.goto (-44), 3) := by decide +kernel
theorem dX11_along_134 : decode cX11_along 134 = .ok (.aload_n 0, 1) := by decide +kernel
theorem dX11_along_135 : decode cX11_along 135 = .ok (.getfield 49, 3) := by decide +kernel
theorem dX11_along_138 : decode cX11_along 138 = .ok (.iload_n 1, 1) := by decide +kernel
theorem dX11_along_139 : decode cX11_along 139 = .ok (.invokevirtual 267, 3) := by decide +kernel
theorem dX11_along_142 : decode cX11_along 142 = .ok (.iload_n 3, 1) := by decide +kernel
theorem dX11_along_143 : decode cX11_along 143 = .ok (.ireturn, 1) := by decide +kernel
theorem dX11_order_0 : decode cX11_order 0 = .ok (.iload_n 1, 1) := by decide +kernel
theorem dX11_order_1 : decode cX11_order 1 = .ok (.invokestatic 344, 3) := by decide +kernel
theorem dX11_order_4 : decode cX11_order 4 = .ok (.ifCond .eq 7, 3) := by decide +kernel
theorem dX11_order_7 : decode cX11_order 7 = .ok (.iload_n 2, 1) := by decide +kernel
theorem dX11_order_8 : decode cX11_order 8 = .ok (.ifCond .ge 5, 3) := by decide +kernel
theorem dX11_order_11 : decode cX11_order 11 = .ok (.iconst (-1), 1) := by decide +kernel
theorem dX11_order_12 : decode cX11_order 12 = .ok (.ireturn, 1) := by decide +kernel
theorem dX11_order_13 : decode cX11_order 13 = .ok (.iload_n 2, 1) := by decide +kernel
theorem dX11_order_14 : decode cX11_order 14 = .ok (.aload_n 0, 1) := by decide +kernel
theorem dX11_order_15 : decode cX11_order 15 = .ok (.getfield 16, 3) := by decide +kernel
theorem dX11_order_18 : decode cX11_order 18 = .ok (.getfield 158, 3) := by decide +kernel
theorem dX11_order_21 : decode cX11_order 21 = .ok (.if_icmp .ge 15, 3) := by decide +kernel
theorem dX11_order_24 : decode cX11_order 24 = .ok (.aload_n 0, 1) := by decide +kernel
theorem dX11_order_25 : decode cX11_order 25 = .ok (.getfield 83, 3) := by decide +kernel
theorem dX11_order_28 : decode cX11_order 28 = .ok (.iload_n 1, 1) := by decide +kernel
theorem dX11_order_29 : decode cX11_order 29 = .ok (.iload_n 2, 1) := by decide +kernel
theorem dX11_order_30 : decode cX11_order 30 = .ok (.invokevirtual 347, 3) := by decide +kernel
theorem dX11_order_33 : decode cX11_order 33 = .ok (.goto 5, 3) := by decide +kernel
theorem dX11_order_36 : decode cX11_order 36 = .ok (.bipush (-2), 2) := by decide +kernel
theorem dX11_order_38 : decode cX11_order 38 = .ok (.ireturn, 1) := by decide +kernel
theorem dX11_all_0 : decode cX11_all 0 = .ok (.iload_n 1, 1) := by decide +kernel
theorem dX11_all_1 : decode cX11_all 1 = .ok (.invokestatic 344, 3) := by decide +kernel
theorem dX11_all_4 : decode cX11_all 4 = .ok (.ifCond .ne 5, 3) := by decide +kernel
theorem dX11_all_7 : decode cX11_all 7 = .ok (.iconst (-1), 1) := by decide +kernel
theorem dX11_all_8 : decode cX11_all 8 = .ok (.ireturn, 1) := by decide +kernel
theorem dX11_all_9 : decode cX11_all 9 = .ok (.aload_n 0, 1) := by decide +kernel
theorem dX11_all_10 : decode cX11_all 10 = .ok (.getfield 49, 3) := by decide +kernel
theorem dX11_all_13 : decode cX11_all 13 = .ok (.invokevirtual 161, 3) := by decide +kernel
theorem dX11_all_16 : decode cX11_all 16 = .ok (.aload_n 0, 1) := by decide +kernel
theorem dX11_all_17 : decode cX11_all 17 = .ok (.getfield 16, 3) := by decide +kernel
theorem dX11_all_20 : decode cX11_all 20 = .ok (.getfield 158, 3) := by decide +kernel
theorem dX11_all_23 : decode cX11_all 23 = .ok (.if_icmp .ne 6, 3) := by decide +kernel
theorem dX11_all_26 : decode cX11_all 26 = .ok (.bipush (-2), 2) := by decide +kernel
theorem dX11_all_28 : decode cX11_all 28 = .ok (.ireturn, 1) := by decide +kernel
theorem dX11_all_29 : decode cX11_all 29 = .ok (.aload_n 0, 1) := by decide +kernel
theorem dX11_all_30 : decode cX11_all 30 = .ok (.getfield 49, 3) := by decide +kernel
theorem dX11_all_33 : decode cX11_all 33 = .ok (.aload_n 0, 1) := by decide +kernel
theorem dX11_all_34 : decode cX11_all 34 = .ok (.getfield 110, 3) := by decide +kernel
theorem dX11_all_37 : decode cX11_all 37 = .ok (.invokevirtual 295, 3) := by decide +kernel
theorem dX11_all_40 : decode cX11_all 40 = .ok (.iconst 0, 1) := by decide +kernel
theorem dX11_all_41 : decode cX11_all 41 = .ok (.istore_n 2, 1) := by decide +kernel
theorem dX11_all_42 : decode cX11_all 42 = .ok (.iconst 0, 1) := by decide +kernel
theorem dX11_all_43 : decode cX11_all 43 = .ok (.istore_n 3, 1) := by decide +kernel
theorem dX11_all_44 : decode cX11_all 44 = .ok (.iload_n 3, 1) := by decide +kernel
theorem dX11_all_45 : decode cX11_all 45 = .ok (.aload_n 0, 1) := by decide +kernel
theorem dX11_all_46 : decode cX11_all 46 = .ok (.getfield 16, 3) := by decide +kernel
theorem dX11_all_49 : decode cX11_all 49 = .ok (.getfield 158, 3) := by decide +kernel
theorem dX11_all_52 : decode cX11_all 52 = .ok (.if_icmp .ge 50, 3) := by decide +kernel
theorem dX11_all_55 : decode cX11_all 55 = .ok (.aload_n 0, 1) := by decide +kernel
theorem dX11_all_56 : decode cX11_all 56 = .ok (.getfield 83, 3) := by decide +kernel
theorem dX11_all_59 : decode cX11_all 59 = .ok (.iload_n 1, 1) := by decide +kernel
theorem dX11_all_60 : decode cX11_all 60 = .ok (.iload_n 3, 1) := by decide +kernel
theorem dX11_all_61 : decode cX11_all 61 = .ok (.invokevirtual 347, 3) := by decide +kernel
theorem dX11_all_64 : decode cX11_all 64 = .ok (.istore 4, 2) := by decide +kernel
theorem dX11_all_66 : decode cX11_all 66 = .ok (.iload 4, 2) := by decide +kernel
theorem dX11_all_68 : decode cX11_all 68 = .ok (.iconst (-1), 1) := by decide +kernel
theorem dX11_all_69 : decode cX11_all 69 = .ok (.if_icmp .eq 27, 3) := by decide +kernel
theorem dX11_all_72 : decode cX11_all 72 = .ok (.aload_n 0, 1) := by decide +kernel
theorem dX11_all_73 : decode cX11_all 73 = .ok (.getfield 49, 3) := by decide +kernel
theorem dX11_all_76 : decode cX11_all 76 = .ok (.iload 4, 2) := by decide +kernel
theorem dX11_all_78 : decode cX11_all 78 = .ok (.invokevirtual 178, 3) := by decide +kernel
theorem dX11_all_81 : decode cX11_all 81 = .ok (.ifCond .ne 15, 3) := by decide +kernel
theorem dX11_all_84 : decode cX11_all 84 = .ok (.aload_n 0, 1) := by decide +kernel
theorem dX11_all_85 : decode cX11_all 85 = .ok (.iload 4, 2) := by decide +kernel
theorem dX11_all_87 : decode cX11_all 87 = .ok (.invokevirtual 309, 3) := by decide +kernel
theorem dX11_all_90 : decode cX11_all 90 = .ok (.ifCond .eq 6, 3) := by decide +kernel
theorem dX11_all_93 : decode cX11_all 93 = .ok (.iinc 2 1, 3) := by decide +kernel
theorem dX11_all_96 : decode cX11_all 96 = .ok (.iinc 3 1, 3) := by decide +kernel
theorem dX11_all_99 : decode cX11_all 99 = .ok (.goto (-55), 3) := by decide +kernel
theorem dX11_all_102 : decode cX11_all 102 = .ok (.aload_n 0, 1) := by decide +kernel
theorem dX11_all_103 : decode cX11_all 103 = .ok (.invokevirtual 303, 3) := by decide +kernel
theorem dX11_all_106 : decode cX11_all 106 = .ok (.iload_n 2, 1) := by decide +kernel
theorem dX11_all_107 : decode cX11_all 107 = .ok (.ireturn, 1) := by decide +kernel
theorem dX11_best_0 : decode cX11_best 0 = .ok (.iload_n 1, 1) := by decide +kernel
theorem dX11_best_1 : decode cX11_best 1 = .ok (.ifCond .lt 25, 3) := by decide +kernel
theorem dX11_best_4 : decode cX11_best 4 = .ok (.iload_n 1, 1) := by decide +kernel
theorem dX11_best_5 : decode cX11_best 5 = .ok (.iconst 5, 1) := by decide +kernel
theorem dX11_best_6 : decode cX11_best 6 = .ok (.if_icmp .gt 20, 3) := by decide +kernel
theorem dX11_best_9 : decode cX11_best 9 = .ok (.aload_n 0, 1) := by decide +kernel
theorem dX11_best_10 : decode cX11_best 10 = .ok (.getfield 49, 3) := by decide +kernel
theorem dX11_best_13 : decode cX11_best 13 = .ok (.invokevirtual 161, 3) := by decide +kernel
theorem dX11_best_16 : decode cX11_best 16 = .ok (.aload_n 0, 1) := by decide +kernel
theorem dX11_best_17 : decode cX11_best 17 = .ok (.getfield 16, 3) := by decide +kernel
theorem dX11_best_20 : decode cX11_best 20 = .ok (.getfield 158, 3) := by decide +kernel
theorem dX11_best_23 : decode cX11_best 23 = .ok (.if_icmp .ne 5, 3) := by decide +kernel
theorem dX11_best_26 : decode cX11_best 26 = .ok (.iconst (-1), 1) := by decide +kernel
theorem dX11_best_27 : decode cX11_best 27 = .ok (.ireturn, 1) := by decide +kernel
theorem dX11_best_28 : decode cX11_best 28 = .ok (.aload_n 0, 1) := by decide +kernel
theorem dX11_best_29 : decode cX11_best 29 = .ok (.getfield 92, 3) := by decide +kernel
theorem dX11_best_32 : decode cX11_best 32 = .ok (.invokevirtual 350, 3) := by decide +kernel
theorem dX11_best_35 : decode cX11_best 35 = .ok (.iload_n 1, 1) := by decide +kernel
theorem dX11_best_36 : decode cX11_best 36 = .ok (.lookupswitch 44 #[(0, 28), (1, 36)], 28) := by decide +kernel
theorem dX11_best_64 : decode cX11_best 64 = .ok (.aload_n 0, 1) := by decide +kernel
theorem dX11_best_65 : decode cX11_best 65 = .ok (.getfield 92, 3) := by decide +kernel
theorem dX11_best_68 : decode cX11_best 68 = .ok (.getfield 351, 3) := by decide +kernel
theorem dX11_best_71 : decode cX11_best 71 = .ok (.ireturn, 1) := by decide +kernel
theorem dX11_best_72 : decode cX11_best 72 = .ok (.aload_n 0, 1) := by decide +kernel
theorem dX11_best_73 : decode cX11_best 73 = .ok (.getfield 92, 3) := by decide +kernel
theorem dX11_best_76 : decode cX11_best 76 = .ok (.getfield 354, 3) := by decide +kernel
theorem dX11_best_79 : decode cX11_best 79 = .ok (.ireturn, 1) := by decide +kernel
theorem dX11_best_80 : decode cX11_best 80 = .ok (.iload_n 1, 1) := by decide +kernel
theorem dX11_best_81 : decode cX11_best 81 = .ok (.iconst 2, 1) := by decide +kernel
theorem dX11_best_82 : decode cX11_best 82 = .ok (.isub, 1) := by decide +kernel
theorem dX11_best_83 : decode cX11_best 83 = .ok (.aload_n 0, 1) := by decide +kernel
theorem dX11_best_84 : decode cX11_best 84 = .ok (.getfield 92, 3) := by decide +kernel
theorem dX11_best_87 : decode cX11_best 87 = .ok (.getfield 357, 3) := by decide +kernel
theorem dX11_best_90 : decode cX11_best 90 = .ok (.if_icmp .ge 17, 3) := by decide +kernel
theorem dX11_best_93 : decode cX11_best 93 = .ok (.aload_n 0, 1) := by decide +kernel
theorem dX11_best_94 : decode cX11_best 94 = .ok (.getfield 92, 3) := by decide +kernel
theorem dX11_best_97 : decode cX11_best 97 = .ok (.getfield 358, 3) := by decide +kernel
theorem dX11_best_100 : decode cX11_best 100 = .ok (.iload_n 1, 1) := by decide +kernel
theorem dX11_best_101 : decode cX11_best 101 = .ok (.iconst 2, 1) := by decide +kernel
theorem dX11_best_102 : decode cX11_best 102 = .ok (.isub, 1) := by decide +kernel
theorem dX11_best_103 : decode cX11_best 103 = .ok (.iaload, 1) := by decide +kernel
theorem dX11_best_104 : decode cX11_best 104 = .ok (.goto 5, 3) := by decide +kernel
theorem dX11_best_107 : decode cX11_best 107 = .ok (.bipush (-2), 2) := by decide +kernel
theorem dX11_best_109 : decode cX11_best 109 = .ok (.ireturn, 1) := by decide +kernel
theorem dX11_four_0 : decode cX11_four 0 = .ok (.aload_n 0, 1) := by decide +kernel
theorem dX11_four_1 : decode cX11_four 1 = .ok (.getfield 92, 3) := by decide +kernel
theorem dX11_four_4 : decode cX11_four 4 = .ok (.invokevirtual 350, 3) := by decide +kernel
theorem dX11_four_7 : decode cX11_four 7 = .ok (.aload_n 0, 1) := by decide +kernel
theorem dX11_four_8 : decode cX11_four 8 = .ok (.getfield 92, 3) := by decide +kernel
theorem dX11_four_11 : decode cX11_four 11 = .ok (.getfield 351, 3) := by decide +kernel
theorem dX11_four_14 : decode cX11_four 14 = .ok (.aload_n 0, 1) := by decide +kernel
theorem dX11_four_15 : decode cX11_four 15 = .ok (.getfield 92, 3) := by decide +kernel
theorem dX11_four_18 : decode cX11_four 18 = .ok (.getfield 357, 3) := by decide +kernel
theorem dX11_four_21 : decode cX11_four 21 = .ok (.if_icmp .lt 5, 3) := by decide +kernel
theorem dX11_four_24 : decode cX11_four 24 = .ok (.iconst (-1), 1) := by decide +kernel
theorem dX11_four_25 : decode cX11_four 25 = .ok (.ireturn, 1) := by decide +kernel
theorem dX11_four_26 : decode cX11_four 26 = .ok (.aload_n 0, 1) := by decide +kernel
theorem dX11_four_27 : decode cX11_four 27 = .ok (.getfield 49, 3) := by decide +kernel
theorem dX11_four_30 : decode cX11_four 30 = .ok (.aload_n 0, 1) := by decide +kernel
theorem dX11_four_31 : decode cX11_four 31 = .ok (.getfield 110, 3) := by decide +kernel
theorem dX11_four_34 : decode cX11_four 34 = .ok (.invokevirtual 295, 3) := by decide +kernel
theorem dX11_four_37 : decode cX11_four 37 = .ok (.iconst 0, 1) := by decide +kernel
theorem dX11_four_38 : decode cX11_four 38 = .ok (.istore_n 1, 1) := by decide +kernel
theorem dX11_four_39 : decode cX11_four 39 = .ok (.iconst 0, 1) := by decide +kernel
theorem dX11_four_40 : decode cX11_four 40 = .ok (.istore_n 2, 1) := by decide +kernel
theorem dX11_four_41 : decode cX11_four 41 = .ok (.iload_n 2, 1) := by decide +kernel
theorem dX11_four_42 : decode cX11_four 42 = .ok (.aload_n 0, 1) := by decide +kernel
theorem dX11_four_43 : decode cX11_four 43 = .ok (.getfield 92, 3) := by decide +kernel
theorem dX11_four_46 : decode cX11_four 46 = .ok (.getfield 357, 3) := by decide +kernel
theorem dX11_four_49 : decode cX11_four 49 = .ok (.if_icmp .ge 28, 3) := by decide +kernel
theorem dX11_four_52 : decode cX11_four 52 = .ok (.aload_n 0, 1) := by decide +kernel
theorem dX11_four_53 : decode cX11_four 53 = .ok (.aload_n 0, 1) := by decide +kernel
theorem dX11_four_54 : decode cX11_four 54 = .ok (.getfield 92, 3) := by decide +kernel
theorem dX11_four_57 : decode cX11_four 57 = .ok (.getfield 358, 3) := by decide +kernel
theorem dX11_four_60 : decode cX11_four 60 = .ok (.iload_n 2, 1) := by decide +kernel
theorem dX11_four_61 : decode cX11_four 61 = .ok (.iaload, 1) := by decide +kernel
theorem dX11_four_62 : decode cX11_four 62 = .ok (.invokevirtual 309, 3) := by decide +kernel
theorem dX11_four_65 : decode cX11_four 65 = .ok (.ifCond .eq 6, 3) := by decide +kernel
theorem dX11_four_68 : decode cX11_four 68 = .ok (.iinc 1 1, 3) := by decide +kernel
theorem dX11_four_71 : decode cX11_four 71 = .ok (.iinc 2 1, 3) := by decide +kernel
theorem dX11_four_74 : decode cX11_four 74 = .ok (.goto (-33), 3) := by decide +kernel
theorem dX11_four_77 : decode cX11_four 77 = .ok (.aload_n 0, 1) := by decide +kernel
theorem dX11_four_78 : decode cX11_four 78 = .ok (.invokevirtual 303, 3) := by decide +kernel
theorem dX11_four_81 : decode cX11_four 81 = .ok (.iload_n 1, 1) := by decide +kernel
theorem dX11_four_82 : decode cX11_four 82 = .ok (.ireturn, 1) := by decide +kernel
theorem dX11_at_0 : decode cX11_at 0 = .ok (.iload_n 1, 1) := by decide +kernel
theorem dX11_at_1 : decode cX11_at 1 = .ok (.invokestatic 194, 3) := by decide +kernel
theorem dX11_at_4 : decode cX11_at 4 = .ok (.ifCond .eq 11, 3) := by decide +kernel
theorem dX11_at_7 : decode cX11_at 7 = .ok (.aload_n 0, 1) := by decide +kernel
theorem dX11_at_8 : decode cX11_at 8 = .ok (.iload_n 2, 1) := by decide +kernel
theorem dX11_at_9 : decode cX11_at 9 = .ok (.invokevirtual 185, 3) := by decide +kernel
theorem dX11_at_12 : decode cX11_at 12 = .ok (.ifCond .ne 5, 3) := by decide +kernel
theorem dX11_at_15 : decode cX11_at 15 = .ok (.iconst (-1), 1) := by decide +kernel
theorem dX11_at_16 : decode cX11_at 16 = .ok (.ireturn, 1) := by decide +kernel
theorem dX11_at_17 : decode cX11_at 17 = .ok (.iconst 0, 1) := by decide +kernel
theorem dX11_at_18 : decode cX11_at 18 = .ok (.istore_n 3, 1) := by decide +kernel
theorem dX11_at_19 : decode cX11_at 19 = .ok (.iload_n 3, 1) := by decide +kernel
theorem dX11_at_20 : decode cX11_at 20 = .ok (.aload_n 0, 1) := by decide +kernel
theorem dX11_at_21 : decode cX11_at 21 = .ok (.getfield 16, 3) := by decide +kernel
theorem dX11_at_24 : decode cX11_at 24 = .ok (.getfield 158, 3) := by decide +kernel
theorem dX11_at_27 : decode cX11_at 27 = .ok (.if_icmp .ge 49, 3) := by decide +kernel
theorem dX11_at_30 : decode cX11_at 30 = .ok (.aload_n 0, 1) := by decide +kernel
theorem dX11_at_31 : decode cX11_at 31 = .ok (.getfield 49, 3) := by decide +kernel
theorem dX11_at_34 : decode cX11_at 34 = .ok (.iload_n 3, 1) := by decide +kernel
theorem dX11_at_35 : decode cX11_at 35 = .ok (.iload_n 1, 1) := by decide +kernel
theorem dX11_at_36 : decode cX11_at 36 = .ok (.invokevirtual 361, 3) := by decide +kernel
theorem dX11_at_39 : decode cX11_at 39 = .ok (.ifCond .eq 31, 3) := by decide +kernel
theorem dX11_at_42 : decode cX11_at 42 = .ok (.iload_n 2, 1) := by decide +kernel
theorem dX11_at_43 : decode cX11_at 43 = .ok (.aload_n 0, 1) := by decide +kernel
theorem dX11_at_44 : decode cX11_at 44 = .ok (.getfield 49, 3) := by decide +kernel
theorem dX11_at_47 : decode cX11_at 47 = .ok (.getfield 225, 3) := by decide +kernel
theorem dX11_at_50 : decode cX11_at 50 = .ok (.iload_n 3, 1) := by decide +kernel
theorem dX11_at_51 : decode cX11_at 51 = .ok (.iaload, 1) := by decide +kernel
theorem dX11_at_52 : decode cX11_at 52 = .ok (.if_icmp .lt 18, 3) := by decide +kernel
theorem dX11_at_55 : decode cX11_at 55 = .ok (.iload_n 2, 1) := by decide +kernel
theorem dX11_at_56 : decode cX11_at 56 = .ok (.aload_n 0, 1) := by decide +kernel
theorem dX11_at_57 : decode cX11_at 57 = .ok (.getfield 49, 3) := by decide +kernel
theorem dX11_at_60 : decode cX11_at 60 = .ok (.getfield 364, 3) := by decide +kernel
theorem dX11_at_63 : decode cX11_at 63 = .ok (.iload_n 3, 1) := by decide +kernel
theorem dX11_at_64 : decode cX11_at 64 = .ok (.iaload, 1) := by decide +kernel
theorem dX11_at_65 : decode cX11_at 65 = .ok (.if_icmp .gt 5, 3) := by decide +kernel
theorem dX11_at_68 : decode cX11_at 68 = .ok (.iload_n 3, 1) := by decide +kernel
theorem dX11_at_69 : decode cX11_at 69 = .ok (.ireturn, 1) := by decide +kernel
theorem dX11_at_70 : decode cX11_at 70 = .ok (.iinc 3 1, 3) := by decide +kernel
theorem dX11_at_73 : decode cX11_at 73 = .ok (.goto (-54), 3) := by decide +kernel
theorem dX11_at_76 : decode cX11_at 76 = .ok (.bipush (-2), 2) := by decide +kernel
theorem dX11_at_78 : decode cX11_at 78 = .ok (.ireturn, 1) := by decide +kernel
theorem dX11_lies_0 : decode cX11_lies 0 = .ok (.iload_n 1, 1) := by decide +kernel
theorem dX11_lies_1 : decode cX11_lies 1 = .ok (.invokestatic 194, 3) := by decide +kernel
theorem dX11_lies_4 : decode cX11_lies 4 = .ok (.ifCond .eq 8, 3) := by decide +kernel
theorem dX11_lies_7 : decode cX11_lies 7 = .ok (.iload_n 2, 1) := by decide +kernel
theorem dX11_lies_8 : decode cX11_lies 8 = .ok (.iconst (-1), 1) := by decide +kernel
theorem dX11_lies_9 : decode cX11_lies 9 = .ok (.if_icmp .ge 5, 3) := by decide +kernel
theorem dX11_lies_12 : decode cX11_lies 12 = .ok (.iconst (-1), 1) := by decide +kernel
theorem dX11_lies_13 : decode cX11_lies 13 = .ok (.ireturn, 1) := by decide +kernel
theorem dX11_lies_14 : decode cX11_lies 14 = .ok (.aload_n 0, 1) := by decide +kernel
theorem dX11_lies_15 : decode cX11_lies 15 = .ok (.getfield 49, 3) := by decide +kernel
theorem dX11_lies_18 : decode cX11_lies 18 = .ok (.invokevirtual 367, 3) := by decide +kernel
theorem dX11_lies_21 : decode cX11_lies 21 = .ok (.iconst 0, 1) := by decide +kernel
theorem dX11_lies_22 : decode cX11_lies 22 = .ok (.istore_n 3, 1) := by decide +kernel
theorem dX11_lies_23 : decode cX11_lies 23 = .ok (.bipush (-2), 2) := by decide +kernel
theorem dX11_lies_25 : decode cX11_lies 25 = .ok (.istore 4, 2) := by decide +kernel
theorem dX11_lies_27 : decode cX11_lies 27 = .ok (.iconst 0, 1) := by decide +kernel
theorem dX11_lies_28 : decode cX11_lies 28 = .ok (.istore 5, 2) := by decide +kernel
theorem dX11_lies_30 : decode cX11_lies 30 = .ok (.iload 5, 2) := by decide +kernel
theorem dX11_lies_32 : decode cX11_lies 32 = .ok (.aload_n 0, 1) := by decide +kernel
theorem dX11_lies_33 : decode cX11_lies 33 = .ok (.getfield 49, 3) := by decide +kernel
theorem dX11_lies_36 : decode cX11_lies 36 = .ok (.getfield 370, 3) := by decide +kernel
theorem dX11_lies_39 : decode cX11_lies 39 = .ok (.if_icmp .ge 46, 3) := by decide +kernel
theorem dX11_lies_42 : decode cX11_lies 42 = .ok (.aload_n 0, 1) := by decide +kernel
theorem dX11_lies_43 : decode cX11_lies 43 = .ok (.getfield 49, 3) := by decide +kernel
theorem dX11_lies_46 : decode cX11_lies 46 = .ok (.getfield 373, 3) := by decide +kernel
theorem dX11_lies_49 : decode cX11_lies 49 = .ok (.iload 5, 2) := by decide +kernel
theorem dX11_lies_51 : decode cX11_lies 51 = .ok (.iaload, 1) := by decide +kernel
theorem dX11_lies_52 : decode cX11_lies 52 = .ok (.istore 6, 2) := by decide +kernel
theorem dX11_lies_54 : decode cX11_lies 54 = .ok (.aload_n 0, 1) := by decide +kernel
theorem dX11_lies_55 : decode cX11_lies 55 = .ok (.getfield 49, 3) := by decide +kernel
theorem dX11_lies_58 : decode cX11_lies 58 = .ok (.iload 6, 2) := by decide +kernel
theorem dX11_lies_60 : decode cX11_lies 60 = .ok (.iload_n 1, 1) := by decide +kernel
theorem dX11_lies_61 : decode cX11_lies 61 = .ok (.invokevirtual 361, 3) := by decide +kernel
theorem dX11_lies_64 : decode cX11_lies 64 = .ok (.ifCond .eq 15, 3) := by decide +kernel
theorem dX11_lies_67 : decode cX11_lies 67 = .ok (.iload_n 3, 1) := by decide +kernel
theorem dX11_lies_68 : decode cX11_lies 68 = .ok (.iload_n 2, 1) := by decide +kernel
theorem dX11_lies_69 : decode cX11_lies 69 = .ok (.if_icmp .ne 7, 3) := by decide +kernel
theorem dX11_lies_72 : decode cX11_lies 72 = .ok (.iload 6, 2) := by decide +kernel
theorem dX11_lies_74 : decode cX11_lies 74 = .ok (.istore 4, 2) := by decide +kernel
theorem dX11_lies_76 : decode cX11_lies 76 = .ok (.iinc 3 1, 3) := by decide +kernel
theorem dX11_lies_79 : decode cX11_lies 79 = .ok (.iinc 5 1, 3) := by decide +kernel
theorem dX11_lies_82 : decode cX11_lies 82 = .ok (.goto (-52), 3) := by decide +kernel
theorem dX11_lies_85 : decode cX11_lies 85 = .ok (.iload_n 2, 1) := by decide +kernel
theorem dX11_lies_86 : decode cX11_lies 86 = .ok (.iconst (-1), 1) := by decide +kernel
theorem dX11_lies_87 : decode cX11_lies 87 = .ok (.if_icmp .ne 7, 3) := by decide +kernel
theorem dX11_lies_90 : decode cX11_lies 90 = .ok (.iload_n 3, 1) := by decide +kernel
theorem dX11_lies_91 : decode cX11_lies 91 = .ok (.goto 5, 3) := by decide +kernel
theorem dX11_lies_94 : decode cX11_lies 94 = .ok (.iload 4, 2) := by decide +kernel
theorem dX11_lies_96 : decode cX11_lies 96 = .ok (.ireturn, 1) := by decide +kernel
theorem dX11_free_0 : decode cX11_free 0 = .ok (.iload_n 1, 1) := by decide +kernel
theorem dX11_free_1 : decode cX11_free 1 = .ok (.invokestatic 194, 3) := by decide +kernel
theorem dX11_free_4 : decode cX11_free 4 = .ok (.ifCond .eq 12, 3) := by decide +kernel
theorem dX11_free_7 : decode cX11_free 7 = .ok (.iload_n 2, 1) := by decide +kernel
theorem dX11_free_8 : decode cX11_free 8 = .ok (.ifCond .lt 8, 3) := by decide +kernel
theorem dX11_free_11 : decode cX11_free 11 = .ok (.iload_n 2, 1) := by decide +kernel
theorem dX11_free_12 : decode cX11_free 12 = .ok (.iconst 1, 1) := by decide +kernel
theorem dX11_free_13 : decode cX11_free 13 = .ok (.if_icmp .le 5, 3) := by decide +kernel
theorem dX11_free_16 : decode cX11_free 16 = .ok (.iconst (-1), 1) := by decide +kernel
theorem dX11_free_17 : decode cX11_free 17 = .ok (.ireturn, 1) := by decide +kernel
theorem dX11_free_18 : decode cX11_free 18 = .ok (.aload_n 0, 1) := by decide +kernel
theorem dX11_free_19 : decode cX11_free 19 = .ok (.getfield 49, 3) := by decide +kernel
theorem dX11_free_22 : decode cX11_free 22 = .ok (.invokevirtual 367, 3) := by decide +kernel
theorem dX11_free_25 : decode cX11_free 25 = .ok (.iconst 0, 1) := by decide +kernel
theorem dX11_free_26 : decode cX11_free 26 = .ok (.istore_n 3, 1) := by decide +kernel
theorem dX11_free_27 : decode cX11_free 27 = .ok (.bipush (-2), 2) := by decide +kernel
theorem dX11_free_29 : decode cX11_free 29 = .ok (.istore 4, 2) := by decide +kernel
theorem dX11_free_31 : decode cX11_free 31 = .ok (.iconst 0, 1) := by decide +kernel
theorem dX11_free_32 : decode cX11_free 32 = .ok (.istore 5, 2) := by decide +kernel
theorem dX11_free_34 : decode cX11_free 34 = .ok (.iconst 0, 1) := by decide +kernel
theorem dX11_free_35 : decode cX11_free 35 = .ok (.istore 6, 2) := by decide +kernel
theorem dX11_free_37 : decode cX11_free 37 = .ok (.iload 6, 2) := by decide +kernel
theorem dX11_free_39 : decode cX11_free 39 = .ok (.aload_n 0, 1) := by decide +kernel
theorem dX11_free_40 : decode cX11_free 40 = .ok (.getfield 49, 3) := by decide +kernel
theorem dX11_free_43 : decode cX11_free 43 = .ok (.getfield 370, 3) := by decide +kernel
theorem dX11_free_46 : decode cX11_free 46 = .ok (.if_icmp .gt 142, 3) := by decide +kernel
theorem dX11_free_49 : decode cX11_free 49 = .ok (.iload 6, 2) := by decide +kernel
theorem dX11_free_51 : decode cX11_free 51 = .ok (.aload_n 0, 1) := by decide +kernel
theorem dX11_free_52 : decode cX11_free 52 = .ok (.getfield 49, 3) := by decide +kernel
theorem dX11_free_55 : decode cX11_free 55 = .ok (.getfield 370, 3) := by decide +kernel
theorem dX11_free_58 : decode cX11_free 58 = .ok (.if_icmp .ne 7, 3) := by decide +kernel
theorem dX11_free_61 : decode cX11_free 61 = .ok (.iconst 1, 1) := by decide +kernel
theorem dX11_free_62 : decode cX11_free 62 = .ok (.goto 4, 3) := by decide +kernel
theorem dX11_free_65 : decode cX11_free 65 = .ok (.iconst 0, 1) := by decide +kernel
theorem dX11_free_66 : decode cX11_free 66 = .ok (.istore 7, 2) := by decide +kernel
theorem dX11_free_68 : decode cX11_free 68 = .ok (.iload 7, 2) := by decide +kernel
theorem dX11_free_70 : decode cX11_free 70 = .ok (.ifCond .ne 24, 3) := by decide +kernel
theorem dX11_free_73 : decode cX11_free 73 = .ok (.aload_n 0, 1) := by decide +kernel
theorem dX11_free_74 : decode cX11_free 74 = .ok (.getfield 49, 3) := by decide +kernel
theorem dX11_free_77 : decode cX11_free 77 = .ok (.aload_n 0, 1) := by decide +kernel
theorem dX11_free_78 : decode cX11_free 78 = .ok (.getfield 49, 3) := by decide +kernel
theorem dX11_free_81 : decode cX11_free 81 = .ok (.getfield 373, 3) := by decide +kernel
theorem dX11_free_84 : decode cX11_free 84 = .ok (.iload 6, 2) := by decide +kernel
theorem dX11_free_86 : decode cX11_free 86 = .ok (.iaload, 1) := by decide +kernel
theorem dX11_free_87 : decode cX11_free 87 = .ok (.iload_n 1, 1) := by decide +kernel
theorem dX11_free_88 : decode cX11_free 88 = .ok (.invokevirtual 361, 3) := by decide +kernel
theorem dX11_free_91 : decode cX11_free 91 = .ok (.ifCond .eq 91, 3) := by decide +kernel
theorem dX11_free_94 : decode cX11_free 94 = .ok (.iload 7, 2) := by decide +kernel
theorem dX11_free_96 : decode cX11_free 96 = .ok (.ifCond .eq 15, 3) := by decide +kernel
theorem dX11_free_99 : decode cX11_free 99 = .ok (.aload_n 0, 1) := by decide +kernel
theorem dX11_free_100 : decode cX11_free 100 = .ok (.getfield 16, 3) := by decide +kernel
theorem dX11_free_103 : decode cX11_free 103 = .ok (.getfield 146, 3) := by decide +kernel
theorem dX11_free_106 : decode cX11_free 106 = .ok (.iconst 0, 1) := by decide +kernel
theorem dX11_free_107 : decode cX11_free 107 = .ok (.iaload, 1) := by decide +kernel
theorem dX11_free_108 : decode cX11_free 108 = .ok (.goto 21, 3) := by decide +kernel
theorem dX11_free_111 : decode cX11_free 111 = .ok (.aload_n 0, 1) := by decide +kernel
theorem dX11_free_112 : decode cX11_free 112 = .ok (.getfield 49, 3) := by decide +kernel
theorem dX11_free_115 : decode cX11_free 115 = .ok (.getfield 225, 3) := by decide +kernel
theorem dX11_free_118 : decode cX11_free 118 = .ok (.aload_n 0, 1) := by decide +kernel
theorem dX11_free_119 : decode cX11_free 119 = .ok (.getfield 49, 3) := by decide +kernel
theorem dX11_free_122 : decode cX11_free 122 = .ok (.getfield 373, 3) := by decide +kernel
theorem dX11_free_125 : decode cX11_free 125 = .ok (.iload 6, 2) := by decide +kernel
theorem dX11_free_127 : decode cX11_free 127 = .ok (.iaload, 1) := by decide +kernel
theorem dX11_free_128 : decode cX11_free 128 = .ok (.iaload, 1) := by decide +kernel
theorem dX11_free_129 : decode cX11_free 129 = .ok (.istore 8, 2) := by decide +kernel
theorem dX11_free_131 : decode cX11_free 131 = .ok (.iload 8, 2) := by decide +kernel
theorem dX11_free_133 : decode cX11_free 133 = .ok (.iload 5, 2) := by decide +kernel
theorem dX11_free_135 : decode cX11_free 135 = .ok (.isub, 1) := by decide +kernel
theorem dX11_free_136 : decode cX11_free 136 = .ok (.iload_n 3, 1) := by decide +kernel
theorem dX11_free_137 : decode cX11_free 137 = .ok (.if_icmp .le 13, 3) := by decide +kernel
theorem dX11_free_140 : decode cX11_free 140 = .ok (.iload 8, 2) := by decide +kernel
theorem dX11_free_142 : decode cX11_free 142 = .ok (.iload 5, 2) := by decide +kernel
theorem dX11_free_144 : decode cX11_free 144 = .ok (.isub, 1) := by decide +kernel
theorem dX11_free_145 : decode cX11_free 145 = .ok (.istore_n 3, 1) := by decide +kernel
theorem dX11_free_146 : decode cX11_free 146 = .ok (.iload 5, 2) := by decide +kernel
theorem dX11_free_148 : decode cX11_free 148 = .ok (.istore 4, 2) := by decide +kernel
theorem dX11_free_150 : decode cX11_free 150 = .ok (.iload 7, 2) := by decide +kernel
theorem dX11_free_152 : decode cX11_free 152 = .ok (.ifCond .eq 8, 3) := by decide +kernel
theorem dX11_free_155 : decode cX11_free 155 = .ok (.iload 8, 2) := by decide +kernel
theorem dX11_free_157 : decode cX11_free 157 = .ok (.goto 23, 3) := by decide +kernel
theorem dX11_free_160 : decode cX11_free 160 = .ok (.aload_n 0, 1) := by decide +kernel
theorem dX11_free_161 : decode cX11_free 161 = .ok (.getfield 49, 3) := by decide +kernel
theorem dX11_free_164 : decode cX11_free 164 = .ok (.getfield 364, 3) := by decide +kernel
theorem dX11_free_167 : decode cX11_free 167 = .ok (.aload_n 0, 1) := by decide +kernel
theorem dX11_free_168 : decode cX11_free 168 = .ok (.getfield 49, 3) := by decide +kernel
theorem dX11_free_171 : decode cX11_free 171 = .ok (.getfield 373, 3) := by decide +kernel
theorem dX11_free_174 : decode cX11_free 174 = .ok (.iload 6, 2) := by decide +kernel
theorem dX11_free_176 : decode cX11_free 176 = .ok (.iaload, 1) := by decide +kernel
theorem dX11_free_177 : decode cX11_free 177 = .ok (.iaload, 1) := by decide +kernel
theorem dX11_free_178 : decode cX11_free 178 = .ok (.iconst 1, 1) := by decide +kernel
theorem dX11_free_179 : decode cX11_free 179 = .ok (.iadd, 1) := by decide +kernel
theorem dX11_free_180 : decode cX11_free 180 = .ok (.istore 5, 2) := by decide +kernel
theorem dX11_free_182 : decode cX11_free 182 = .ok (.iinc 6 1, 3) := by decide +kernel
theorem dX11_free_185 : decode cX11_free 185 = .ok (.goto (-148), 3) := by decide +kernel
theorem dX11_free_188 : decode cX11_free 188 = .ok (.iload_n 2, 1) := by decide +kernel
theorem dX11_free_189 : decode cX11_free 189 = .ok (.ifCond .ne 7, 3) := by decide +kernel
theorem dX11_free_192 : decode cX11_free 192 = .ok (.iload_n 3, 1) := by decide +kernel
theorem dX11_free_193 : decode cX11_free 193 = .ok (.goto 5, 3) := by decide +kernel
theorem dX11_free_196 : decode cX11_free 196 = .ok (.iload 4, 2) := by decide +kernel
theorem dX11_free_198 : decode cX11_free 198 = .ok (.ireturn, 1) := by decide +kernel
theorem dX11_works_0 : decode cX11_works 0 = .ok (.aload_n 0, 1) := by decide +kernel
theorem dX11_works_1 : decode cX11_works 1 = .ok (.iload_n 1, 1) := by decide +kernel
theorem dX11_works_2 : decode cX11_works 2 = .ok (.invokevirtual 207, 3) := by decide +kernel
theorem dX11_works_5 : decode cX11_works 5 = .ok (.ifCond .eq 10, 3) := by decide +kernel
theorem dX11_works_8 : decode cX11_works 8 = .ok (.iload_n 2, 1) := by decide +kernel
theorem dX11_works_9 : decode cX11_works 9 = .ok (.invokestatic 194, 3) := by decide +kernel
theorem dX11_works_12 : decode cX11_works 12 = .ok (.ifCond .ne 5, 3) := by decide +kernel
theorem dX11_works_15 : decode cX11_works 15 = .ok (.iconst (-1), 1) := by decide +kernel
theorem dX11_works_16 : decode cX11_works 16 = .ok (.ireturn, 1) := by decide +kernel
theorem dX11_works_17 : decode cX11_works 17 = .ok (.aload_n 0, 1) := by decide +kernel
theorem dX11_works_18 : decode cX11_works 18 = .ok (.getfield 49, 3) := by decide +kernel
theorem dX11_works_21 : decode cX11_works 21 = .ok (.invokevirtual 367, 3) := by decide +kernel
theorem dX11_works_24 : decode cX11_works 24 = .ok (.aload_n 0, 1) := by decide +kernel
theorem dX11_works_25 : decode cX11_works 25 = .ok (.getfield 58, 3) := by decide +kernel
theorem dX11_works_28 : decode cX11_works 28 = .ok (.iload_n 2, 1) := by decide +kernel
theorem dX11_works_29 : decode cX11_works 29 = .ok (.iconst (-1), 1) := by decide +kernel
theorem dX11_works_30 : decode cX11_works 30 = .ok (.invokevirtual 376, 3) := by decide +kernel
theorem dX11_works_33 : decode cX11_works 33 = .ok (.pop, 1) := by decide +kernel
theorem dX11_works_34 : decode cX11_works 34 = .ok (.aload_n 0, 1) := by decide +kernel
theorem dX11_works_35 : decode cX11_works 35 = .ok (.getfield 58, 3) := by decide +kernel
theorem dX11_works_38 : decode cX11_works 38 = .ok (.getfield 379, 3) := by decide +kernel
theorem dX11_works_41 : decode cX11_works 41 = .ok (.iload_n 1, 1) := by decide +kernel
theorem dX11_works_42 : decode cX11_works 42 = .ok (.iaload, 1) := by decide +kernel
theorem dX11_works_43 : decode cX11_works 43 = .ok (.istore_n 3, 1) := by decide +kernel
theorem dX11_works_44 : decode cX11_works 44 = .ok (.iload_n 3, 1) := by decide +kernel
theorem dX11_works_45 : decode cX11_works 45 = .ok (.iconst (-1), 1) := by decide +kernel
theorem dX11_works_46 : decode cX11_works 46 = .ok (.if_icmp .ne 8, 3) := by decide +kernel
theorem dX11_works_49 : decode cX11_works 49 = .ok (.bipush (-2), 2) := by decide +kernel
theorem dX11_works_51 : decode cX11_works 51 = .ok (.goto 4, 3) := by decide +kernel
theorem dX11_works_54 : decode cX11_works 54 = .ok (.iload_n 3, 1) := by decide +kernel
theorem dX11_works_55 : decode cX11_works 55 = .ok (.ireturn, 1) := by decide +kernel
theorem dX11_hours_0 : decode cX11_hours 0 = .ok (.aload_n 0, 1) := by decide +kernel
theorem dX11_hours_1 : decode cX11_hours 1 = .ok (.iload_n 1, 1) := by decide +kernel
theorem dX11_hours_2 : decode cX11_hours 2 = .ok (.invokevirtual 207, 3) := by decide +kernel
theorem dX11_hours_5 : decode cX11_hours 5 = .ok (.ifCond .ne 5, 3) := by decide +kernel
theorem dX11_hours_8 : decode cX11_hours 8 = .ok (.iconst (-1), 1) := by decide +kernel
theorem dX11_hours_9 : decode cX11_hours 9 = .ok (.ireturn, 1) := by decide +kernel
theorem dX11_hours_10 : decode cX11_hours 10 = .ok (.aload_n 0, 1) := by decide +kernel
theorem dX11_hours_11 : decode cX11_hours 11 = .ok (.getfield 49, 3) := by decide +kernel
theorem dX11_hours_14 : decode cX11_hours 14 = .ok (.invokevirtual 367, 3) := by decide +kernel
theorem dX11_hours_17 : decode cX11_hours 17 = .ok (.iconst 0, 1) := by decide +kernel
theorem dX11_hours_18 : decode cX11_hours 18 = .ok (.istore_n 2, 1) := by decide +kernel
theorem dX11_hours_19 : decode cX11_hours 19 = .ok (.iconst 0, 1) := by decide +kernel
theorem dX11_hours_20 : decode cX11_hours 20 = .ok (.istore_n 3, 1) := by decide +kernel
theorem dX11_hours_21 : decode cX11_hours 21 = .ok (.iload_n 3, 1) := by decide +kernel
theorem dX11_hours_22 : decode cX11_hours 22 = .ok (.sipush 336, 3) := by decide +kernel
theorem dX11_hours_25 : decode cX11_hours 25 = .ok (.if_icmp .ge 52, 3) := by decide +kernel
theorem dX11_hours_28 : decode cX11_hours 28 = .ok (.aload_n 0, 1) := by decide +kernel
theorem dX11_hours_29 : decode cX11_hours 29 = .ok (.getfield 49, 3) := by decide +kernel
theorem dX11_hours_32 : decode cX11_hours 32 = .ok (.getfield 382, 3) := by decide +kernel
theorem dX11_hours_35 : decode cX11_hours 35 = .ok (.iload_n 3, 1) := by decide +kernel
theorem dX11_hours_36 : decode cX11_hours 36 = .ok (.iaload, 1) := by decide +kernel
theorem dX11_hours_37 : decode cX11_hours 37 = .ok (.ifCond .le 34, 3) := by decide +kernel
theorem dX11_hours_40 : decode cX11_hours 40 = .ok (.aload_n 0, 1) := by decide +kernel
theorem dX11_hours_41 : decode cX11_hours 41 = .ok (.getfield 58, 3) := by decide +kernel
theorem dX11_hours_44 : decode cX11_hours 44 = .ok (.iload_n 3, 1) := by decide +kernel
theorem dX11_hours_45 : decode cX11_hours 45 = .ok (.iconst (-1), 1) := by decide +kernel
theorem dX11_hours_46 : decode cX11_hours 46 = .ok (.invokevirtual 376, 3) := by decide +kernel
theorem dX11_hours_49 : decode cX11_hours 49 = .ok (.pop, 1) := by decide +kernel
theorem dX11_hours_50 : decode cX11_hours 50 = .ok (.iload_n 2, 1) := by decide +kernel
theorem dX11_hours_51 : decode cX11_hours 51 = .ok (.aload_n 0, 1) := by decide +kernel
theorem dX11_hours_52 : decode cX11_hours 52 = .ok (.getfield 58, 3) := by decide +kernel
theorem dX11_hours_55 : decode cX11_hours 55 = .ok (.getfield 379, 3) := by decide +kernel
theorem dX11_hours_58 : decode cX11_hours 58 = .ok (.iload_n 1, 1) := by decide +kernel
theorem dX11_hours_59 : decode cX11_hours 59 = .ok (.iaload, 1) := by decide +kernel
theorem dX11_hours_60 : decode cX11_hours 60 = .ok (.iconst (-1), 1) := by decide +kernel
theorem dX11_hours_61 : decode cX11_hours 61 = .ok (.if_icmp .ne 7, 3) := by decide +kernel
theorem dX11_hours_64 : decode cX11_hours 64 = .ok (.iconst 0, 1) := by decide +kernel
theorem dX11_hours_65 : decode cX11_hours 65 = .ok (.goto 4, 3) := by decide +kernel
theorem dX11_hours_68 : decode cX11_hours 68 = .ok (.iconst 1, 1) := by decide +kernel
theorem dX11_hours_69 : decode cX11_hours 69 = .ok (.iadd, 1) := by decide +kernel
theorem dX11_hours_70 : decode cX11_hours 70 = .ok (.istore_n 2, 1) := by decide +kernel
theorem dX11_hours_71 : decode cX11_hours 71 = .ok (.iinc 3 1, 3) := by decide +kernel
theorem dX11_hours_74 : decode cX11_hours 74 = .ok (.goto (-53), 3) := by decide +kernel
theorem dX11_hours_77 : decode cX11_hours 77 = .ok (.iload_n 2, 1) := by decide +kernel
theorem dX11_hours_78 : decode cX11_hours 78 = .ok (.ireturn, 1) := by decide +kernel
theorem dX11_left_0 : decode cX11_left 0 = .ok (.aload_n 0, 1) := by decide +kernel
theorem dX11_left_1 : decode cX11_left 1 = .ok (.iload_n 1, 1) := by decide +kernel
theorem dX11_left_2 : decode cX11_left 2 = .ok (.invokevirtual 216, 3) := by decide +kernel
theorem dX11_left_5 : decode cX11_left 5 = .ok (.ifCond .eq 10, 3) := by decide +kernel
theorem dX11_left_8 : decode cX11_left 8 = .ok (.iload_n 2, 1) := by decide +kernel
theorem dX11_left_9 : decode cX11_left 9 = .ok (.invokestatic 194, 3) := by decide +kernel
theorem dX11_left_12 : decode cX11_left 12 = .ok (.ifCond .ne 5, 3) := by decide +kernel
theorem dX11_left_15 : decode cX11_left 15 = .ok (.iconst (-1), 1) := by decide +kernel
theorem dX11_left_16 : decode cX11_left 16 = .ok (.ireturn, 1) := by decide +kernel
theorem dX11_left_17 : decode cX11_left 17 = .ok (.aload_n 0, 1) := by decide +kernel
theorem dX11_left_18 : decode cX11_left 18 = .ok (.getfield 16, 3) := by decide +kernel
theorem dX11_left_21 : decode cX11_left 21 = .ok (.iload_n 1, 1) := by decide +kernel
theorem dX11_left_22 : decode cX11_left 22 = .ok (.iconst 3, 1) := by decide +kernel
theorem dX11_left_23 : decode cX11_left 23 = .ok (.invokevirtual 219, 3) := by decide +kernel
theorem dX11_left_26 : decode cX11_left 26 = .ok (.aload_n 0, 1) := by decide +kernel
theorem dX11_left_27 : decode cX11_left 27 = .ok (.getfield 49, 3) := by decide +kernel
theorem dX11_left_30 : decode cX11_left 30 = .ok (.iload_n 1, 1) := by decide +kernel
theorem dX11_left_31 : decode cX11_left 31 = .ok (.iload_n 2, 1) := by decide +kernel
theorem dX11_left_32 : decode cX11_left 32 = .ok (.invokevirtual 385, 3) := by decide +kernel
theorem dX11_left_35 : decode cX11_left 35 = .ok (.isub, 1) := by decide +kernel
theorem dX11_left_36 : decode cX11_left 36 = .ok (.ireturn, 1) := by decide +kernel
theorem dX11_shift_0 : decode cX11_shift 0 = .ok (.iload_n 1, 1) := by decide +kernel
theorem dX11_shift_1 : decode cX11_shift 1 = .ok (.iload_n 2, 1) := by decide +kernel
theorem dX11_shift_2 : decode cX11_shift 2 = .ok (.invokestatic 200, 3) := by decide +kernel
theorem dX11_shift_5 : decode cX11_shift 5 = .ok (.ifCond .ne 5, 3) := by decide +kernel
theorem dX11_shift_8 : decode cX11_shift 8 = .ok (.iconst (-1), 1) := by decide +kernel
theorem dX11_shift_9 : decode cX11_shift 9 = .ok (.ireturn, 1) := by decide +kernel
theorem dX11_shift_10 : decode cX11_shift 10 = .ok (.iload_n 1, 1) := by decide +kernel
theorem dX11_shift_11 : decode cX11_shift 11 = .ok (.iconst 3, 1) := by decide +kernel
theorem dX11_shift_12 : decode cX11_shift 12 = .ok (.imul, 1) := by decide +kernel
theorem dX11_shift_13 : decode cX11_shift 13 = .ok (.iload_n 2, 1) := by decide +kernel
theorem dX11_shift_14 : decode cX11_shift 14 = .ok (.iadd, 1) := by decide +kernel
theorem dX11_shift_15 : decode cX11_shift 15 = .ok (.istore 4, 2) := by decide +kernel
theorem dX11_shift_17 : decode cX11_shift 17 = .ok (.iload 4, 2) := by decide +kernel
theorem dX11_shift_19 : decode cX11_shift 19 = .ok (.bipush 16, 2) := by decide +kernel
theorem dX11_shift_21 : decode cX11_shift 21 = .ok (.imul, 1) := by decide +kernel
theorem dX11_shift_22 : decode cX11_shift 22 = .ok (.istore 5, 2) := by decide +kernel
theorem dX11_shift_24 : decode cX11_shift 24 = .ok (.iload 5, 2) := by decide +kernel
theorem dX11_shift_26 : decode cX11_shift 26 = .ok (.bipush 16, 2) := by decide +kernel
theorem dX11_shift_28 : decode cX11_shift 28 = .ok (.iadd, 1) := by decide +kernel
theorem dX11_shift_29 : decode cX11_shift 29 = .ok (.istore 6, 2) := by decide +kernel
theorem dX11_shift_31 : decode cX11_shift 31 = .ok (.iload_n 3, 1) := by decide +kernel
theorem dX11_shift_32 : decode cX11_shift 32 = .ok (.tableswitch 88 0 3 #[32, 39, 51, 63], 32) := by decide +kernel
theorem dX11_shift_64 : decode cX11_shift 64 = .ok (.aload_n 0, 1) := by decide +kernel
theorem dX11_shift_65 : decode cX11_shift 65 = .ok (.iload 4, 2) := by decide +kernel
theorem dX11_shift_67 : decode cX11_shift 67 = .ok (.invokevirtual 388, 3) := by decide +kernel
theorem dX11_shift_70 : decode cX11_shift 70 = .ok (.ireturn, 1) := by decide +kernel
theorem dX11_shift_71 : decode cX11_shift 71 = .ok (.aload_n 0, 1) := by decide +kernel
theorem dX11_shift_72 : decode cX11_shift 72 = .ok (.getfield 49, 3) := by decide +kernel
theorem dX11_shift_75 : decode cX11_shift 75 = .ok (.iload 5, 2) := by decide +kernel
theorem dX11_shift_77 : decode cX11_shift 77 = .ok (.iload 6, 2) := by decide +kernel
theorem dX11_shift_79 : decode cX11_shift 79 = .ok (.invokevirtual 391, 3) := by decide +kernel
theorem dX11_shift_82 : decode cX11_shift 82 = .ok (.ireturn, 1) := by decide +kernel
theorem dX11_shift_83 : decode cX11_shift 83 = .ok (.aload_n 0, 1) := by decide +kernel
theorem dX11_shift_84 : decode cX11_shift 84 = .ok (.getfield 49, 3) := by decide +kernel
theorem dX11_shift_87 : decode cX11_shift 87 = .ok (.iload 5, 2) := by decide +kernel
theorem dX11_shift_89 : decode cX11_shift 89 = .ok (.iload 6, 2) := by decide +kernel
theorem dX11_shift_91 : decode cX11_shift 91 = .ok (.invokevirtual 174, 3) := by decide +kernel
theorem dX11_shift_94 : decode cX11_shift 94 = .ok (.ireturn, 1) := by decide +kernel
theorem dX11_shift_95 : decode cX11_shift 95 = .ok (.bipush 16, 2) := by decide +kernel
theorem dX11_shift_97 : decode cX11_shift 97 = .ok (.aload_n 0, 1) := by decide +kernel
theorem dX11_shift_98 : decode cX11_shift 98 = .ok (.getfield 16, 3) := by decide +kernel
theorem dX11_shift_101 : decode cX11_shift 101 = .ok (.iload 4, 2) := by decide +kernel
theorem dX11_shift_103 : decode cX11_shift 103 = .ok (.invokevirtual 204, 3) := by decide +kernel
theorem dX11_shift_106 : decode cX11_shift 106 = .ok (.imul, 1) := by decide +kernel
theorem dX11_shift_107 : decode cX11_shift 107 = .ok (.aload_n 0, 1) := by decide +kernel
theorem dX11_shift_108 : decode cX11_shift 108 = .ok (.getfield 49, 3) := by decide +kernel
theorem dX11_shift_111 : decode cX11_shift 111 = .ok (.iload 5, 2) := by decide +kernel
theorem dX11_shift_113 : decode cX11_shift 113 = .ok (.iload 6, 2) := by decide +kernel
theorem dX11_shift_115 : decode cX11_shift 115 = .ok (.invokevirtual 174, 3) := by decide +kernel
theorem dX11_shift_118 : decode cX11_shift 118 = .ok (.isub, 1) := by decide +kernel
theorem dX11_shift_119 : decode cX11_shift 119 = .ok (.ireturn, 1) := by decide +kernel
theorem dX11_shift_120 : decode cX11_shift 120 = .ok (.iconst (-1), 1) := by decide +kernel
theorem dX11_shift_121 : decode cX11_shift 121 = .ok (.ireturn, 1) := by decide +kernel
theorem dX11_movedIn_0 : decode cX11_movedIn 0 = .ok (.iload_n 1, 1) := by decide +kernel
theorem dX11_movedIn_1 : decode cX11_movedIn 1 = .ok (.bipush 16, 2) := by decide +kernel
theorem dX11_movedIn_3 : decode cX11_movedIn 3 = .ok (.imul, 1) := by decide +kernel
theorem dX11_movedIn_4 : decode cX11_movedIn 4 = .ok (.istore_n 2, 1) := by decide +kernel
theorem dX11_movedIn_5 : decode cX11_movedIn 5 = .ok (.iconst 0, 1) := by decide +kernel
theorem dX11_movedIn_6 : decode cX11_movedIn 6 = .ok (.istore_n 3, 1) := by decide +kernel
theorem dX11_movedIn_7 : decode cX11_movedIn 7 = .ok (.iconst 0, 1) := by decide +kernel
theorem dX11_movedIn_8 : decode cX11_movedIn 8 = .ok (.istore 4, 2) := by decide +kernel
theorem dX11_movedIn_10 : decode cX11_movedIn 10 = .ok (.iload 4, 2) := by decide +kernel
theorem dX11_movedIn_12 : decode cX11_movedIn 12 = .ok (.aload_n 0, 1) := by decide +kernel
theorem dX11_movedIn_13 : decode cX11_movedIn 13 = .ok (.getfield 16, 3) := by decide +kernel
theorem dX11_movedIn_16 : decode cX11_movedIn 16 = .ok (.getfield 158, 3) := by decide +kernel
theorem dX11_movedIn_19 : decode cX11_movedIn 19 = .ok (.if_icmp .ge 36, 3) := by decide +kernel
theorem dX11_movedIn_22 : decode cX11_movedIn 22 = .ok (.iload_n 3, 1) := by decide +kernel
theorem dX11_movedIn_23 : decode cX11_movedIn 23 = .ok (.aload_n 0, 1) := by decide +kernel
theorem dX11_movedIn_24 : decode cX11_movedIn 24 = .ok (.getfield 49, 3) := by decide +kernel
theorem dX11_movedIn_27 : decode cX11_movedIn 27 = .ok (.iload 4, 2) := by decide +kernel
theorem dX11_movedIn_29 : decode cX11_movedIn 29 = .ok (.iload_n 2, 1) := by decide +kernel
theorem dX11_movedIn_30 : decode cX11_movedIn 30 = .ok (.bipush 16, 2) := by decide +kernel
theorem dX11_movedIn_32 : decode cX11_movedIn 32 = .ok (.iadd, 1) := by decide +kernel
theorem dX11_movedIn_33 : decode cX11_movedIn 33 = .ok (.invokevirtual 385, 3) := by decide +kernel
theorem dX11_movedIn_36 : decode cX11_movedIn 36 = .ok (.aload_n 0, 1) := by decide +kernel
theorem dX11_movedIn_37 : decode cX11_movedIn 37 = .ok (.getfield 49, 3) := by decide +kernel
theorem dX11_movedIn_40 : decode cX11_movedIn 40 = .ok (.iload 4, 2) := by decide +kernel
theorem dX11_movedIn_42 : decode cX11_movedIn 42 = .ok (.iload_n 2, 1) := by decide +kernel
theorem dX11_movedIn_43 : decode cX11_movedIn 43 = .ok (.invokevirtual 385, 3) := by decide +kernel
theorem dX11_movedIn_46 : decode cX11_movedIn 46 = .ok (.isub, 1) := by decide +kernel
theorem dX11_movedIn_47 : decode cX11_movedIn 47 = .ok (.iadd, 1) := by decide +kernel
theorem dX11_movedIn_48 : decode cX11_movedIn 48 = .ok (.istore_n 3, 1) := by decide +kernel
theorem dX11_movedIn_49 : decode cX11_movedIn 49 = .ok (.iinc 4 1, 3) := by decide +kernel
theorem dX11_movedIn_52 : decode cX11_movedIn 52 = .ok (.goto (-42), 3) := by decide +kernel
theorem dX11_movedIn_55 : decode cX11_movedIn 55 = .ok (.iload_n 3, 1) := by decide +kernel
theorem dX11_movedIn_56 : decode cX11_movedIn 56 = .ok (.ireturn, 1) := by decide +kernel
theorem dX11_busiest_0 : decode cX11_busiest 0 = .ok (.iload_n 1, 1) := by decide +kernel
theorem dX11_busiest_1 : decode cX11_busiest 1 = .ok (.ifCond .lt 8, 3) := by decide +kernel
theorem dX11_busiest_4 : decode cX11_busiest 4 = .ok (.iload_n 1, 1) := by decide +kernel
theorem dX11_busiest_5 : decode cX11_busiest 5 = .ok (.iconst 1, 1) := by decide +kernel
theorem dX11_busiest_6 : decode cX11_busiest 6 = .ok (.if_icmp .le 5, 3) := by decide +kernel
theorem dX11_busiest_9 : decode cX11_busiest 9 = .ok (.iconst (-1), 1) := by decide +kernel
theorem dX11_busiest_10 : decode cX11_busiest 10 = .ok (.ireturn, 1) := by decide +kernel
theorem dX11_busiest_11 : decode cX11_busiest 11 = .ok (.iconst 0, 1) := by decide +kernel
theorem dX11_busiest_12 : decode cX11_busiest 12 = .ok (.istore_n 2, 1) := by decide +kernel
theorem dX11_busiest_13 : decode cX11_busiest 13 = .ok (.iconst 0, 1) := by decide +kernel
theorem dX11_busiest_14 : decode cX11_busiest 14 = .ok (.istore_n 3, 1) := by decide +kernel
theorem dX11_busiest_15 : decode cX11_busiest 15 = .ok (.iconst 0, 1) := by decide +kernel
theorem dX11_busiest_16 : decode cX11_busiest 16 = .ok (.istore 4, 2) := by decide +kernel
theorem dX11_busiest_18 : decode cX11_busiest 18 = .ok (.iload 4, 2) := by decide +kernel
theorem dX11_busiest_20 : decode cX11_busiest 20 = .ok (.bipush 21, 2) := by decide +kernel
theorem dX11_busiest_22 : decode cX11_busiest 22 = .ok (.if_icmp .ge 29, 3) := by decide +kernel
theorem dX11_busiest_25 : decode cX11_busiest 25 = .ok (.aload_n 0, 1) := by decide +kernel
theorem dX11_busiest_26 : decode cX11_busiest 26 = .ok (.iload 4, 2) := by decide +kernel
theorem dX11_busiest_28 : decode cX11_busiest 28 = .ok (.invokevirtual 388, 3) := by decide +kernel
theorem dX11_busiest_31 : decode cX11_busiest 31 = .ok (.istore 5, 2) := by decide +kernel
theorem dX11_busiest_33 : decode cX11_busiest 33 = .ok (.iload 5, 2) := by decide +kernel
theorem dX11_busiest_35 : decode cX11_busiest 35 = .ok (.iload_n 3, 1) := by decide +kernel
theorem dX11_busiest_36 : decode cX11_busiest 36 = .ok (.if_icmp .le 9, 3) := by decide +kernel
theorem dX11_busiest_39 : decode cX11_busiest 39 = .ok (.iload 4, 2) := by decide +kernel
theorem dX11_busiest_41 : decode cX11_busiest 41 = .ok (.istore_n 2, 1) := by decide +kernel
theorem dX11_busiest_42 : decode cX11_busiest 42 = .ok (.iload 5, 2) := by decide +kernel
theorem dX11_busiest_44 : decode cX11_busiest 44 = .ok (.istore_n 3, 1) := by decide +kernel
theorem dX11_busiest_45 : decode cX11_busiest 45 = .ok (.iinc 4 1, 3) := by decide +kernel
theorem dX11_busiest_48 : decode cX11_busiest 48 = .ok (.goto (-30), 3) := by decide +kernel
theorem dX11_busiest_51 : decode cX11_busiest 51 = .ok (.iload_n 1, 1) := by decide +kernel
theorem dX11_busiest_52 : decode cX11_busiest 52 = .ok (.ifCond .ne 7, 3) := by decide +kernel
theorem dX11_busiest_55 : decode cX11_busiest 55 = .ok (.iload_n 2, 1) := by decide +kernel
theorem dX11_busiest_56 : decode cX11_busiest 56 = .ok (.goto 4, 3) := by decide +kernel
theorem dX11_busiest_59 : decode cX11_busiest 59 = .ok (.iload_n 3, 1) := by decide +kernel
theorem dX11_busiest_60 : decode cX11_busiest 60 = .ok (.ireturn, 1) := by decide +kernel
theorem dX11_without_0 : decode cX11_without 0 = .ok (.aload_n 0, 1) := by decide +kernel
theorem dX11_without_1 : decode cX11_without 1 = .ok (.iload_n 1, 1) := by decide +kernel
theorem dX11_without_2 : decode cX11_without 2 = .ok (.invokevirtual 207, 3) := by decide +kernel
theorem dX11_without_5 : decode cX11_without 5 = .ok (.ifCond .ne 5, 3) := by decide +kernel
theorem dX11_without_8 : decode cX11_without 8 = .ok (.iconst (-1), 1) := by decide +kernel
theorem dX11_without_9 : decode cX11_without 9 = .ok (.ireturn, 1) := by decide +kernel
theorem dX11_without_10 : decode cX11_without 10 = .ok (.aload_n 0, 1) := by decide +kernel
theorem dX11_without_11 : decode cX11_without 11 = .ok (.getfield 49, 3) := by decide +kernel
theorem dX11_without_14 : decode cX11_without 14 = .ok (.invokevirtual 367, 3) := by decide +kernel
theorem dX11_without_17 : decode cX11_without 17 = .ok (.iconst 0, 1) := by decide +kernel
theorem dX11_without_18 : decode cX11_without 18 = .ok (.istore_n 2, 1) := by decide +kernel
theorem dX11_without_19 : decode cX11_without 19 = .ok (.iconst 0, 1) := by decide +kernel
theorem dX11_without_20 : decode cX11_without 20 = .ok (.istore_n 3, 1) := by decide +kernel
theorem dX11_without_21 : decode cX11_without 21 = .ok (.iload_n 3, 1) := by decide +kernel
theorem dX11_without_22 : decode cX11_without 22 = .ok (.sipush 336, 3) := by decide +kernel
theorem dX11_without_25 : decode cX11_without 25 = .ok (.if_icmp .ge 36, 3) := by decide +kernel
theorem dX11_without_28 : decode cX11_without 28 = .ok (.aload_n 0, 1) := by decide +kernel
theorem dX11_without_29 : decode cX11_without 29 = .ok (.getfield 49, 3) := by decide +kernel
theorem dX11_without_32 : decode cX11_without 32 = .ok (.getfield 382, 3) := by decide +kernel
theorem dX11_without_35 : decode cX11_without 35 = .ok (.iload_n 3, 1) := by decide +kernel
theorem dX11_without_36 : decode cX11_without 36 = .ok (.iaload, 1) := by decide +kernel
theorem dX11_without_37 : decode cX11_without 37 = .ok (.ifCond .le 18, 3) := by decide +kernel
theorem dX11_without_40 : decode cX11_without 40 = .ok (.aload_n 0, 1) := by decide +kernel
theorem dX11_without_41 : decode cX11_without 41 = .ok (.getfield 58, 3) := by decide +kernel
theorem dX11_without_44 : decode cX11_without 44 = .ok (.iload_n 3, 1) := by decide +kernel
theorem dX11_without_45 : decode cX11_without 45 = .ok (.iload_n 1, 1) := by decide +kernel
theorem dX11_without_46 : decode cX11_without 46 = .ok (.invokevirtual 376, 3) := by decide +kernel
theorem dX11_without_49 : decode cX11_without 49 = .ok (.ifCond .ne 6, 3) := by decide +kernel
theorem dX11_without_52 : decode cX11_without 52 = .ok (.iinc 2 1, 3) := by decide +kernel
theorem dX11_without_55 : decode cX11_without 55 = .ok (.iinc 3 1, 3) := by decide +kernel
theorem dX11_without_58 : decode cX11_without 58 = .ok (.goto (-37), 3) := by decide +kernel
theorem dX11_without_61 : decode cX11_without 61 = .ok (.iload_n 2, 1) := by decide +kernel
theorem dX11_without_62 : decode cX11_without 62 = .ok (.ireturn, 1) := by decide +kernel
theorem dX11_used_0 : decode cX11_used 0 = .ok (.iload_n 1, 1) := by decide +kernel
theorem dX11_used_1 : decode cX11_used 1 = .ok (.ifCond .lt 9, 3) := by decide +kernel
theorem dX11_used_4 : decode cX11_used 4 = .ok (.iload_n 1, 1) := by decide +kernel
theorem dX11_used_5 : decode cX11_used 5 = .ok (.bipush 7, 2) := by decide +kernel
theorem dX11_used_7 : decode cX11_used 7 = .ok (.if_icmp .lt 5, 3) := by decide +kernel
theorem dX11_used_10 : decode cX11_used 10 = .ok (.iconst (-1), 1) := by decide +kernel
theorem dX11_used_11 : decode cX11_used 11 = .ok (.ireturn, 1) := by decide +kernel
theorem dX11_used_12 : decode cX11_used 12 = .ok (.iconst 0, 1) := by decide +kernel
theorem dX11_used_13 : decode cX11_used 13 = .ok (.istore_n 2, 1) := by decide +kernel
theorem dX11_used_14 : decode cX11_used 14 = .ok (.iconst 0, 1) := by decide +kernel
theorem dX11_used_15 : decode cX11_used 15 = .ok (.istore_n 3, 1) := by decide +kernel
theorem dX11_used_16 : decode cX11_used 16 = .ok (.iload_n 3, 1) := by decide +kernel
theorem dX11_used_17 : decode cX11_used 17 = .ok (.aload_n 0, 1) := by decide +kernel
theorem dX11_used_18 : decode cX11_used 18 = .ok (.getfield 16, 3) := by decide +kernel
theorem dX11_used_21 : decode cX11_used 21 = .ok (.getfield 158, 3) := by decide +kernel
theorem dX11_used_24 : decode cX11_used 24 = .ok (.if_icmp .ge 40, 3) := by decide +kernel
theorem dX11_used_27 : decode cX11_used 27 = .ok (.iload_n 2, 1) := by decide +kernel
theorem dX11_used_28 : decode cX11_used 28 = .ok (.aload_n 0, 1) := by decide +kernel
theorem dX11_used_29 : decode cX11_used 29 = .ok (.getfield 16, 3) := by decide +kernel
theorem dX11_used_32 : decode cX11_used 32 = .ok (.iload_n 3, 1) := by decide +kernel
theorem dX11_used_33 : decode cX11_used 33 = .ok (.iconst 0, 1) := by decide +kernel
theorem dX11_used_34 : decode cX11_used 34 = .ok (.invokevirtual 219, 3) := by decide +kernel
theorem dX11_used_37 : decode cX11_used 37 = .ok (.aload_n 0, 1) := by decide +kernel
theorem dX11_used_38 : decode cX11_used 38 = .ok (.getfield 49, 3) := by decide +kernel
theorem dX11_used_41 : decode cX11_used 41 = .ok (.iload_n 3, 1) := by decide +kernel
theorem dX11_used_42 : decode cX11_used 42 = .ok (.iload_n 1, 1) := by decide +kernel
theorem dX11_used_43 : decode cX11_used 43 = .ok (.bipush 48, 2) := by decide +kernel
theorem dX11_used_45 : decode cX11_used 45 = .ok (.imul, 1) := by decide +kernel
theorem dX11_used_46 : decode cX11_used 46 = .ok (.iload_n 1, 1) := by decide +kernel
theorem dX11_used_47 : decode cX11_used 47 = .ok (.iconst 1, 1) := by decide +kernel
theorem dX11_used_48 : decode cX11_used 48 = .ok (.iadd, 1) := by decide +kernel
theorem dX11_used_49 : decode cX11_used 49 = .ok (.bipush 48, 2) := by decide +kernel
theorem dX11_used_51 : decode cX11_used 51 = .ok (.imul, 1) := by decide +kernel
theorem dX11_used_52 : decode cX11_used 52 = .ok (.invokevirtual 394, 3) := by decide +kernel
theorem dX11_used_55 : decode cX11_used 55 = .ok (.imul, 1) := by decide +kernel
theorem dX11_used_56 : decode cX11_used 56 = .ok (.iadd, 1) := by decide +kernel
theorem dX11_used_57 : decode cX11_used 57 = .ok (.istore_n 2, 1) := by decide +kernel
theorem dX11_used_58 : decode cX11_used 58 = .ok (.iinc 3 1, 3) := by decide +kernel
theorem dX11_used_61 : decode cX11_used 61 = .ok (.goto (-45), 3) := by decide +kernel
theorem dX11_used_64 : decode cX11_used 64 = .ok (.iload_n 2, 1) := by decide +kernel
theorem dX11_used_65 : decode cX11_used 65 = .ok (.bipush 100, 2) := by decide +kernel
theorem dX11_used_67 : decode cX11_used 67 = .ok (.imul, 1) := by decide +kernel
theorem dX11_used_68 : decode cX11_used 68 = .ok (.iconst 1, 1) := by decide +kernel
theorem dX11_used_69 : decode cX11_used 69 = .ok (.aload_n 0, 1) := by decide +kernel
theorem dX11_used_70 : decode cX11_used 70 = .ok (.getfield 16, 3) := by decide +kernel
theorem dX11_used_73 : decode cX11_used 73 = .ok (.getfield 146, 3) := by decide +kernel
theorem dX11_used_76 : decode cX11_used 76 = .ok (.iconst 0, 1) := by decide +kernel
theorem dX11_used_77 : decode cX11_used 77 = .ok (.iaload, 1) := by decide +kernel
theorem dX11_used_78 : decode cX11_used 78 = .ok (.invokestatic 397, 3) := by decide +kernel
theorem dX11_used_81 : decode cX11_used 81 = .ok (.bipush 48, 2) := by decide +kernel
theorem dX11_used_83 : decode cX11_used 83 = .ok (.imul, 1) := by decide +kernel
theorem dX11_used_84 : decode cX11_used 84 = .ok (.idiv, 1) := by decide +kernel
theorem dX11_used_85 : decode cX11_used 85 = .ok (.ireturn, 1) := by decide +kernel
theorem dX11_rank_0 : decode cX11_rank 0 = .ok (.iload_n 1, 1) := by decide +kernel
theorem dX11_rank_1 : decode cX11_rank 1 = .ok (.ifCond .lt 17, 3) := by decide +kernel
theorem dX11_rank_4 : decode cX11_rank 4 = .ok (.iload_n 1, 1) := by decide +kernel
theorem dX11_rank_5 : decode cX11_rank 5 = .ok (.iconst 4, 1) := by decide +kernel
theorem dX11_rank_6 : decode cX11_rank 6 = .ok (.if_icmp .ge 12, 3) := by decide +kernel
theorem dX11_rank_9 : decode cX11_rank 9 = .ok (.iload_n 2, 1) := by decide +kernel
theorem dX11_rank_10 : decode cX11_rank 10 = .ok (.ifCond .lt 8, 3) := by decide +kernel
theorem dX11_rank_13 : decode cX11_rank 13 = .ok (.iload_n 2, 1) := by decide +kernel
theorem dX11_rank_14 : decode cX11_rank 14 = .ok (.iconst 4, 1) := by decide +kernel
theorem dX11_rank_15 : decode cX11_rank 15 = .ok (.if_icmp .le 5, 3) := by decide +kernel
theorem dX11_rank_18 : decode cX11_rank 18 = .ok (.iconst (-1), 1) := by decide +kernel
theorem dX11_rank_19 : decode cX11_rank 19 = .ok (.ireturn, 1) := by decide +kernel
theorem dX11_rank_20 : decode cX11_rank 20 = .ok (.iconst 0, 1) := by decide +kernel
theorem dX11_rank_21 : decode cX11_rank 21 = .ok (.istore_n 3, 1) := by decide +kernel
theorem dX11_rank_22 : decode cX11_rank 22 = .ok (.iconst 0, 1) := by decide +kernel
theorem dX11_rank_23 : decode cX11_rank 23 = .ok (.istore 4, 2) := by decide +kernel
theorem dX11_rank_25 : decode cX11_rank 25 = .ok (.iconst 0, 1) := by decide +kernel
theorem dX11_rank_26 : decode cX11_rank 26 = .ok (.istore 5, 2) := by decide +kernel
theorem dX11_rank_28 : decode cX11_rank 28 = .ok (.iload 5, 2) := by decide +kernel
theorem dX11_rank_30 : decode cX11_rank 30 = .ok (.aload_n 0, 1) := by decide +kernel
theorem dX11_rank_31 : decode cX11_rank 31 = .ok (.getfield 16, 3) := by decide +kernel
theorem dX11_rank_34 : decode cX11_rank 34 = .ok (.getfield 158, 3) := by decide +kernel
theorem dX11_rank_37 : decode cX11_rank 37 = .ok (.if_icmp .ge 66, 3) := by decide +kernel
theorem dX11_rank_40 : decode cX11_rank 40 = .ok (.aload_n 0, 1) := by decide +kernel
theorem dX11_rank_41 : decode cX11_rank 41 = .ok (.getfield 16, 3) := by decide +kernel
theorem dX11_rank_44 : decode cX11_rank 44 = .ok (.iload 5, 2) := by decide +kernel
theorem dX11_rank_46 : decode cX11_rank 46 = .ok (.bipush 6, 2) := by decide +kernel
theorem dX11_rank_48 : decode cX11_rank 48 = .ok (.invokevirtual 219, 3) := by decide +kernel
theorem dX11_rank_51 : decode cX11_rank 51 = .ok (.iload_n 1, 1) := by decide +kernel
theorem dX11_rank_52 : decode cX11_rank 52 = .ok (.if_icmp .ne 45, 3) := by decide +kernel
theorem dX11_rank_55 : decode cX11_rank 55 = .ok (.iload_n 2, 1) := by decide +kernel
theorem dX11_rank_56 : decode cX11_rank 56 = .ok (.ifCond .eq 15, 3) := by decide +kernel
theorem dX11_rank_59 : decode cX11_rank 59 = .ok (.aload_n 0, 1) := by decide +kernel
theorem dX11_rank_60 : decode cX11_rank 60 = .ok (.getfield 49, 3) := by decide +kernel
theorem dX11_rank_63 : decode cX11_rank 63 = .ok (.iload 5, 2) := by decide +kernel
theorem dX11_rank_65 : decode cX11_rank 65 = .ok (.invokevirtual 178, 3) := by decide +kernel
theorem dX11_rank_68 : decode cX11_rank 68 = .ok (.ifCond .eq 29, 3) := by decide +kernel
theorem dX11_rank_71 : decode cX11_rank 71 = .ok (.iload_n 3, 1) := by decide +kernel
theorem dX11_rank_72 : decode cX11_rank 72 = .ok (.aload_n 0, 1) := by decide +kernel
theorem dX11_rank_73 : decode cX11_rank 73 = .ok (.iload 5, 2) := by decide +kernel
theorem dX11_rank_75 : decode cX11_rank 75 = .ok (.iload_n 2, 1) := by decide +kernel
theorem dX11_rank_76 : decode cX11_rank 76 = .ok (.invokevirtual 399, 3) := by decide +kernel
theorem dX11_rank_79 : decode cX11_rank 79 = .ok (.iadd, 1) := by decide +kernel
theorem dX11_rank_80 : decode cX11_rank 80 = .ok (.istore_n 3, 1) := by decide +kernel
theorem dX11_rank_81 : decode cX11_rank 81 = .ok (.iload 4, 2) := by decide +kernel
theorem dX11_rank_83 : decode cX11_rank 83 = .ok (.aload_n 0, 1) := by decide +kernel
theorem dX11_rank_84 : decode cX11_rank 84 = .ok (.getfield 49, 3) := by decide +kernel
theorem dX11_rank_87 : decode cX11_rank 87 = .ok (.iload 5, 2) := by decide +kernel
theorem dX11_rank_89 : decode cX11_rank 89 = .ok (.invokevirtual 239, 3) := by decide +kernel
theorem dX11_rank_92 : decode cX11_rank 92 = .ok (.invokestatic 397, 3) := by decide +kernel
theorem dX11_rank_95 : decode cX11_rank 95 = .ok (.istore 4, 2) := by decide +kernel
theorem dX11_rank_97 : decode cX11_rank 97 = .ok (.iinc 5 1, 3) := by decide +kernel
theorem dX11_rank_100 : decode cX11_rank 100 = .ok (.goto (-72), 3) := by decide +kernel
theorem dX11_rank_103 : decode cX11_rank 103 = .ok (.iload_n 2, 1) := by decide +kernel
theorem dX11_rank_104 : decode cX11_rank 104 = .ok (.iconst 3, 1) := by decide +kernel
theorem dX11_rank_105 : decode cX11_rank 105 = .ok (.if_icmp .ne 8, 3) := by decide +kernel
theorem dX11_rank_108 : decode cX11_rank 108 = .ok (.iload 4, 2) := by decide +kernel
theorem dX11_rank_110 : decode cX11_rank 110 = .ok (.goto 4, 3) := by decide +kernel
theorem dX11_rank_113 : decode cX11_rank 113 = .ok (.iload_n 3, 1) := by decide +kernel
theorem dX11_rank_114 : decode cX11_rank 114 = .ok (.ireturn, 1) := by decide +kernel
theorem dX11_rankShare_0 : decode cX11_rankShare 0 = .ok (.iload_n 2, 1) := by decide +kernel
theorem dX11_rankShare_1 : decode cX11_rankShare 1 = .ok (.lookupswitch 45 #[(2, 27), (4, 36)], 27) := by decide +kernel
theorem dX11_rankShare_28 : decode cX11_rankShare 28 = .ok (.aload_n 0, 1) := by decide +kernel
theorem dX11_rankShare_29 : decode cX11_rankShare 29 = .ok (.getfield 49, 3) := by decide +kernel
theorem dX11_rankShare_32 : decode cX11_rankShare 32 = .ok (.iload_n 1, 1) := by decide +kernel
theorem dX11_rankShare_33 : decode cX11_rankShare 33 = .ok (.invokevirtual 239, 3) := by decide +kernel
theorem dX11_rankShare_36 : decode cX11_rankShare 36 = .ok (.ireturn, 1) := by decide +kernel
theorem dX11_rankShare_37 : decode cX11_rankShare 37 = .ok (.aload_n 0, 1) := by decide +kernel
theorem dX11_rankShare_38 : decode cX11_rankShare 38 = .ok (.getfield 49, 3) := by decide +kernel
theorem dX11_rankShare_41 : decode cX11_rankShare 41 = .ok (.iload_n 1, 1) := by decide +kernel
theorem dX11_rankShare_42 : decode cX11_rankShare 42 = .ok (.invokevirtual 182, 3) := by decide +kernel
theorem dX11_rankShare_45 : decode cX11_rankShare 45 = .ok (.ireturn, 1) := by decide +kernel
theorem dX11_rankShare_46 : decode cX11_rankShare 46 = .ok (.iconst 1, 1) := by decide +kernel
theorem dX11_rankShare_47 : decode cX11_rankShare 47 = .ok (.ireturn, 1) := by decide +kernel
theorem dX11_leaver_0 : decode cX11_leaver 0 = .ok (.iload_n 1, 1) := by decide +kernel
theorem dX11_leaver_1 : decode cX11_leaver 1 = .ok (.ifCond .ge 5, 3) := by decide +kernel
theorem dX11_leaver_4 : decode cX11_leaver 4 = .ok (.iconst (-1), 1) := by decide +kernel
theorem dX11_leaver_5 : decode cX11_leaver 5 = .ok (.ireturn, 1) := by decide +kernel
theorem dX11_leaver_6 : decode cX11_leaver 6 = .ok (.iconst 0, 1) := by decide +kernel
theorem dX11_leaver_7 : decode cX11_leaver 7 = .ok (.istore_n 2, 1) := by decide +kernel
theorem dX11_leaver_8 : decode cX11_leaver 8 = .ok (.iload_n 2, 1) := by decide +kernel
theorem dX11_leaver_9 : decode cX11_leaver 9 = .ok (.aload_n 0, 1) := by decide +kernel
theorem dX11_leaver_10 : decode cX11_leaver 10 = .ok (.getfield 16, 3) := by decide +kernel
theorem dX11_leaver_13 : decode cX11_leaver 13 = .ok (.getfield 158, 3) := by decide +kernel
theorem dX11_leaver_16 : decode cX11_leaver 16 = .ok (.if_icmp .ge 31, 3) := by decide +kernel
theorem dX11_leaver_19 : decode cX11_leaver 19 = .ok (.aload_n 0, 1) := by decide +kernel
theorem dX11_leaver_20 : decode cX11_leaver 20 = .ok (.getfield 49, 3) := by decide +kernel
theorem dX11_leaver_23 : decode cX11_leaver 23 = .ok (.iload_n 2, 1) := by decide +kernel
theorem dX11_leaver_24 : decode cX11_leaver 24 = .ok (.invokevirtual 178, 3) := by decide +kernel
theorem dX11_leaver_27 : decode cX11_leaver 27 = .ok (.ifCond .eq 14, 3) := by decide +kernel
theorem dX11_leaver_30 : decode cX11_leaver 30 = .ok (.aload_n 0, 1) := by decide +kernel
theorem dX11_leaver_31 : decode cX11_leaver 31 = .ok (.iload_n 2, 1) := by decide +kernel
theorem dX11_leaver_32 : decode cX11_leaver 32 = .ok (.invokevirtual 402, 3) := by decide +kernel
theorem dX11_leaver_35 : decode cX11_leaver 35 = .ok (.iload_n 1, 1) := by decide +kernel
theorem dX11_leaver_36 : decode cX11_leaver 36 = .ok (.if_icmp .ne 5, 3) := by decide +kernel
theorem dX11_leaver_39 : decode cX11_leaver 39 = .ok (.iload_n 2, 1) := by decide +kernel
theorem dX11_leaver_40 : decode cX11_leaver 40 = .ok (.ireturn, 1) := by decide +kernel
theorem dX11_leaver_41 : decode cX11_leaver 41 = .ok (.iinc 2 1, 3) := by decide +kernel
theorem dX11_leaver_44 : decode cX11_leaver 44 = .ok (.goto (-36), 3) := by decide +kernel
theorem dX11_leaver_47 : decode cX11_leaver 47 = .ok (.bipush (-2), 2) := by decide +kernel
theorem dX11_leaver_49 : decode cX11_leaver 49 = .ok (.ireturn, 1) := by decide +kernel
theorem dX11_leaversAhead_0 : decode cX11_leaversAhead 0 = .ok (.iconst 0, 1) := by decide +kernel
theorem dX11_leaversAhead_1 : decode cX11_leaversAhead 1 = .ok (.istore_n 2, 1) := by decide +kernel
theorem dX11_leaversAhead_2 : decode cX11_leaversAhead 2 = .ok (.iconst 0, 1) := by decide +kernel
theorem dX11_leaversAhead_3 : decode cX11_leaversAhead 3 = .ok (.istore_n 3, 1) := by decide +kernel
theorem dX11_leaversAhead_4 : decode cX11_leaversAhead 4 = .ok (.iload_n 3, 1) := by decide +kernel
theorem dX11_leaversAhead_5 : decode cX11_leaversAhead 5 = .ok (.aload_n 0, 1) := by decide +kernel
theorem dX11_leaversAhead_6 : decode cX11_leaversAhead 6 = .ok (.getfield 16, 3) := by decide +kernel
theorem dX11_leaversAhead_9 : decode cX11_leaversAhead 9 = .ok (.getfield 158, 3) := by decide +kernel
theorem dX11_leaversAhead_12 : decode cX11_leaversAhead 12 = .ok (.if_icmp .ge 82, 3) := by decide +kernel
theorem dX11_leaversAhead_15 : decode cX11_leaversAhead 15 = .ok (.aload_n 0, 1) := by decide +kernel
theorem dX11_leaversAhead_16 : decode cX11_leaversAhead 16 = .ok (.getfield 49, 3) := by decide +kernel
theorem dX11_leaversAhead_19 : decode cX11_leaversAhead 19 = .ok (.getfield 236, 3) := by decide +kernel
theorem dX11_leaversAhead_22 : decode cX11_leaversAhead 22 = .ok (.iload_n 3, 1) := by decide +kernel
theorem dX11_leaversAhead_23 : decode cX11_leaversAhead 23 = .ok (.iaload, 1) := by decide +kernel
theorem dX11_leaversAhead_24 : decode cX11_leaversAhead 24 = .ok (.aload_n 0, 1) := by decide +kernel
theorem dX11_leaversAhead_25 : decode cX11_leaversAhead 25 = .ok (.getfield 49, 3) := by decide +kernel
theorem dX11_leaversAhead_28 : decode cX11_leaversAhead 28 = .ok (.getfield 236, 3) := by decide +kernel
theorem dX11_leaversAhead_31 : decode cX11_leaversAhead 31 = .ok (.iload_n 1, 1) := by decide +kernel
theorem dX11_leaversAhead_32 : decode cX11_leaversAhead 32 = .ok (.iaload, 1) := by decide +kernel
theorem dX11_leaversAhead_33 : decode cX11_leaversAhead 33 = .ok (.if_icmp .lt 29, 3) := by decide +kernel
theorem dX11_leaversAhead_36 : decode cX11_leaversAhead 36 = .ok (.aload_n 0, 1) := by decide +kernel
theorem dX11_leaversAhead_37 : decode cX11_leaversAhead 37 = .ok (.getfield 49, 3) := by decide +kernel
theorem dX11_leaversAhead_40 : decode cX11_leaversAhead 40 = .ok (.getfield 236, 3) := by decide +kernel
theorem dX11_leaversAhead_43 : decode cX11_leaversAhead 43 = .ok (.iload_n 3, 1) := by decide +kernel
theorem dX11_leaversAhead_44 : decode cX11_leaversAhead 44 = .ok (.iaload, 1) := by decide +kernel
theorem dX11_leaversAhead_45 : decode cX11_leaversAhead 45 = .ok (.aload_n 0, 1) := by decide +kernel
theorem dX11_leaversAhead_46 : decode cX11_leaversAhead 46 = .ok (.getfield 49, 3) := by decide +kernel
theorem dX11_leaversAhead_49 : decode cX11_leaversAhead 49 = .ok (.getfield 236, 3) := by decide +kernel
theorem dX11_leaversAhead_52 : decode cX11_leaversAhead 52 = .ok (.iload_n 1, 1) := by decide +kernel
theorem dX11_leaversAhead_53 : decode cX11_leaversAhead 53 = .ok (.iaload, 1) := by decide +kernel
theorem dX11_leaversAhead_54 : decode cX11_leaversAhead 54 = .ok (.if_icmp .ne 12, 3) := by decide +kernel
theorem dX11_leaversAhead_57 : decode cX11_leaversAhead 57 = .ok (.iload_n 3, 1) := by decide +kernel
theorem dX11_leaversAhead_58 : decode cX11_leaversAhead 58 = .ok (.iload_n 1, 1) := by decide +kernel
theorem dX11_leaversAhead_59 : decode cX11_leaversAhead 59 = .ok (.if_icmp .ge 7, 3) := by decide +kernel
theorem dX11_leaversAhead_62 : decode cX11_leaversAhead 62 = .ok (.iconst 1, 1) := by decide +kernel
theorem dX11_leaversAhead_63 : decode cX11_leaversAhead 63 = .ok (.goto 4, 3) := by decide +kernel
theorem dX11_leaversAhead_66 : decode cX11_leaversAhead 66 = .ok (.iconst 0, 1) := by decide +kernel
theorem dX11_leaversAhead_67 : decode cX11_leaversAhead 67 = .ok (.istore 4, 2) := by decide +kernel
theorem dX11_leaversAhead_69 : decode cX11_leaversAhead 69 = .ok (.aload_n 0, 1) := by decide +kernel
theorem dX11_leaversAhead_70 : decode cX11_leaversAhead 70 = .ok (.getfield 49, 3) := by decide +kernel
theorem dX11_leaversAhead_73 : decode cX11_leaversAhead 73 = .ok (.iload_n 3, 1) := by decide +kernel
theorem dX11_leaversAhead_74 : decode cX11_leaversAhead 74 = .ok (.invokevirtual 178, 3) := by decide +kernel
theorem dX11_leaversAhead_77 : decode cX11_leaversAhead 77 = .ok (.ifCond .eq 11, 3) := by decide +kernel
theorem dX11_leaversAhead_80 : decode cX11_leaversAhead 80 = .ok (.iload 4, 2) := by decide +kernel
theorem dX11_leaversAhead_82 : decode cX11_leaversAhead 82 = .ok (.ifCond .eq 6, 3) := by decide +kernel
theorem dX11_leaversAhead_85 : decode cX11_leaversAhead 85 = .ok (.iinc 2 1, 3) := by decide +kernel
theorem dX11_leaversAhead_88 : decode cX11_leaversAhead 88 = .ok (.iinc 3 1, 3) := by decide +kernel
theorem dX11_leaversAhead_91 : decode cX11_leaversAhead 91 = .ok (.goto (-87), 3) := by decide +kernel
theorem dX11_leaversAhead_94 : decode cX11_leaversAhead 94 = .ok (.iload_n 2, 1) := by decide +kernel
theorem dX11_leaversAhead_95 : decode cX11_leaversAhead 95 = .ok (.ireturn, 1) := by decide +kernel
theorem dX11_meet_0 : decode cX11_meet 0 = .ok (.aload_n 0, 1) := by decide +kernel
theorem dX11_meet_1 : decode cX11_meet 1 = .ok (.iload_n 1, 1) := by decide +kernel
theorem dX11_meet_2 : decode cX11_meet 2 = .ok (.invokevirtual 216, 3) := by decide +kernel
theorem dX11_meet_5 : decode cX11_meet 5 = .ok (.ifCond .eq 16, 3) := by decide +kernel
theorem dX11_meet_8 : decode cX11_meet 8 = .ok (.aload_n 0, 1) := by decide +kernel
theorem dX11_meet_9 : decode cX11_meet 9 = .ok (.iload_n 2, 1) := by decide +kernel
theorem dX11_meet_10 : decode cX11_meet 10 = .ok (.invokevirtual 216, 3) := by decide +kernel
theorem dX11_meet_13 : decode cX11_meet 13 = .ok (.ifCond .eq 8, 3) := by decide +kernel
theorem dX11_meet_16 : decode cX11_meet 16 = .ok (.iload_n 1, 1) := by decide +kernel
theorem dX11_meet_17 : decode cX11_meet 17 = .ok (.iload_n 2, 1) := by decide +kernel
theorem dX11_meet_18 : decode cX11_meet 18 = .ok (.if_icmp .ne 5, 3) := by decide +kernel
theorem dX11_meet_21 : decode cX11_meet 21 = .ok (.iconst (-1), 1) := by decide +kernel
theorem dX11_meet_22 : decode cX11_meet 22 = .ok (.ireturn, 1) := by decide +kernel
theorem dX11_meet_23 : decode cX11_meet 23 = .ok (.aload_n 0, 1) := by decide +kernel
theorem dX11_meet_24 : decode cX11_meet 24 = .ok (.getfield 49, 3) := by decide +kernel
theorem dX11_meet_27 : decode cX11_meet 27 = .ok (.iload_n 1, 1) := by decide +kernel
theorem dX11_meet_28 : decode cX11_meet 28 = .ok (.invokevirtual 178, 3) := by decide +kernel
theorem dX11_meet_31 : decode cX11_meet 31 = .ok (.ifCond .eq 32, 3) := by decide +kernel
theorem dX11_meet_34 : decode cX11_meet 34 = .ok (.aload_n 0, 1) := by decide +kernel
theorem dX11_meet_35 : decode cX11_meet 35 = .ok (.getfield 49, 3) := by decide +kernel
theorem dX11_meet_38 : decode cX11_meet 38 = .ok (.iload_n 2, 1) := by decide +kernel
theorem dX11_meet_39 : decode cX11_meet 39 = .ok (.aload_n 0, 1) := by decide +kernel
theorem dX11_meet_40 : decode cX11_meet 40 = .ok (.getfield 49, 3) := by decide +kernel
theorem dX11_meet_43 : decode cX11_meet 43 = .ok (.getfield 228, 3) := by decide +kernel
theorem dX11_meet_46 : decode cX11_meet 46 = .ok (.iload_n 1, 1) := by decide +kernel
theorem dX11_meet_47 : decode cX11_meet 47 = .ok (.iaload, 1) := by decide +kernel
theorem dX11_meet_48 : decode cX11_meet 48 = .ok (.aload_n 0, 1) := by decide +kernel
theorem dX11_meet_49 : decode cX11_meet 49 = .ok (.getfield 49, 3) := by decide +kernel
theorem dX11_meet_52 : decode cX11_meet 52 = .ok (.getfield 236, 3) := by decide +kernel
theorem dX11_meet_55 : decode cX11_meet 55 = .ok (.iload_n 1, 1) := by decide +kernel
theorem dX11_meet_56 : decode cX11_meet 56 = .ok (.iaload, 1) := by decide +kernel
theorem dX11_meet_57 : decode cX11_meet 57 = .ok (.invokevirtual 394, 3) := by decide +kernel
theorem dX11_meet_60 : decode cX11_meet 60 = .ok (.goto 4, 3) := by decide +kernel
theorem dX11_meet_63 : decode cX11_meet 63 = .ok (.iconst 0, 1) := by decide +kernel
theorem dX11_meet_64 : decode cX11_meet 64 = .ok (.ireturn, 1) := by decide +kernel
theorem dX11_write_0 : decode cX11_write 0 = .ok (.aload_n 0, 1) := by decide +kernel
theorem dX11_write_1 : decode cX11_write 1 = .ok (.getfield 106, 3) := by decide +kernel
theorem dX11_write_4 : decode cX11_write 4 = .ok (.iconst 0, 1) := by decide +kernel
theorem dX11_write_5 : decode cX11_write 5 = .ok (.putfield 405, 3) := by decide +kernel
theorem dX11_write_8 : decode cX11_write 8 = .ok (.iconst 0, 1) := by decide +kernel
theorem dX11_write_9 : decode cX11_write 9 = .ok (.istore_n 1, 1) := by decide +kernel
theorem dX11_write_10 : decode cX11_write 10 = .ok (.iload_n 1, 1) := by decide +kernel
theorem dX11_write_11 : decode cX11_write 11 = .ok (.aload_n 0, 1) := by decide +kernel
theorem dX11_write_12 : decode cX11_write 12 = .ok (.getfield 16, 3) := by decide +kernel
theorem dX11_write_15 : decode cX11_write 15 = .ok (.getfield 158, 3) := by decide +kernel
theorem dX11_write_18 : decode cX11_write 18 = .ok (.if_icmp .ge 119, 3) := by decide +kernel
theorem dX11_write_21 : decode cX11_write 21 = .ok (.aload_n 0, 1) := by decide +kernel
theorem dX11_write_22 : decode cX11_write 22 = .ok (.getfield 49, 3) := by decide +kernel
theorem dX11_write_25 : decode cX11_write 25 = .ok (.iload_n 1, 1) := by decide +kernel
theorem dX11_write_26 : decode cX11_write 26 = .ok (.invokevirtual 178, 3) := by decide +kernel
theorem dX11_write_29 : decode cX11_write 29 = .ok (.ifCond .eq 102, 3) := by decide +kernel
theorem dX11_write_32 : decode cX11_write 32 = .ok (.iconst 0, 1) := by decide +kernel
theorem dX11_write_33 : decode cX11_write 33 = .ok (.istore_n 2, 1) := by decide +kernel
theorem dX11_write_34 : decode cX11_write 34 = .ok (.iload_n 2, 1) := by decide +kernel
theorem dX11_write_35 : decode cX11_write 35 = .ok (.bipush 8, 2) := by decide +kernel
theorem dX11_write_37 : decode cX11_write 37 = .ok (.if_icmp .ge 37, 3) := by decide +kernel
theorem dX11_write_40 : decode cX11_write 40 = .ok (.aload_n 0, 1) := by decide +kernel
theorem dX11_write_41 : decode cX11_write 41 = .ok (.getfield 16, 3) := by decide +kernel
theorem dX11_write_44 : decode cX11_write 44 = .ok (.iload_n 1, 1) := by decide +kernel
theorem dX11_write_45 : decode cX11_write 45 = .ok (.iload_n 2, 1) := by decide +kernel
theorem dX11_write_46 : decode cX11_write 46 = .ok (.invokevirtual 242, 3) := by decide +kernel
theorem dX11_write_49 : decode cX11_write 49 = .ok (.ifCond .eq 25, 3) := by decide +kernel
theorem dX11_write_52 : decode cX11_write 52 = .ok (.aload_n 0, 1) := by decide +kernel
theorem dX11_write_53 : decode cX11_write 53 = .ok (.getfield 106, 3) := by decide +kernel
theorem dX11_write_56 : decode cX11_write 56 = .ok (.aload_n 0, 1) := by decide +kernel
theorem dX11_write_57 : decode cX11_write 57 = .ok (.getfield 16, 3) := by decide +kernel
theorem dX11_write_60 : decode cX11_write 60 = .ok (.iload_n 1, 1) := by decide +kernel
theorem dX11_write_61 : decode cX11_write 61 = .ok (.iload_n 2, 1) := by decide +kernel
theorem dX11_write_62 : decode cX11_write 62 = .ok (.invokevirtual 242, 3) := by decide +kernel
theorem dX11_write_65 : decode cX11_write 65 = .ok (.invokevirtual 408, 3) := by decide +kernel
theorem dX11_write_68 : decode cX11_write 68 = .ok (.iinc 2 1, 3) := by decide +kernel
theorem dX11_write_71 : decode cX11_write 71 = .ok (.goto (-37), 3) := by decide +kernel
theorem dX11_write_74 : decode cX11_write 74 = .ok (.aload_n 0, 1) := by decide +kernel
theorem dX11_write_75 : decode cX11_write 75 = .ok (.getfield 106, 3) := by decide +kernel
theorem dX11_write_78 : decode cX11_write 78 = .ok (.aload_n 0, 1) := by decide +kernel
theorem dX11_write_79 : decode cX11_write 79 = .ok (.getfield 49, 3) := by decide +kernel
theorem dX11_write_82 : decode cX11_write 82 = .ok (.getfield 225, 3) := by decide +kernel
theorem dX11_write_85 : decode cX11_write 85 = .ok (.iload_n 1, 1) := by decide +kernel
theorem dX11_write_86 : decode cX11_write 86 = .ok (.iaload, 1) := by decide +kernel
theorem dX11_write_87 : decode cX11_write 87 = .ok (.invokevirtual 411, 3) := by decide +kernel
theorem dX11_write_90 : decode cX11_write 90 = .ok (.aload_n 0, 1) := by decide +kernel
theorem dX11_write_91 : decode cX11_write 91 = .ok (.getfield 106, 3) := by decide +kernel
theorem dX11_write_94 : decode cX11_write 94 = .ok (.aload_n 0, 1) := by decide +kernel
theorem dX11_write_95 : decode cX11_write 95 = .ok (.getfield 49, 3) := by decide +kernel
theorem dX11_write_98 : decode cX11_write 98 = .ok (.getfield 228, 3) := by decide +kernel
theorem dX11_write_101 : decode cX11_write 101 = .ok (.iload_n 1, 1) := by decide +kernel
theorem dX11_write_102 : decode cX11_write 102 = .ok (.iaload, 1) := by decide +kernel
theorem dX11_write_103 : decode cX11_write 103 = .ok (.invokevirtual 411, 3) := by decide +kernel
theorem dX11_write_106 : decode cX11_write 106 = .ok (.aload_n 0, 1) := by decide +kernel
theorem dX11_write_107 : decode cX11_write 107 = .ok (.getfield 106, 3) := by decide +kernel
theorem dX11_write_110 : decode cX11_write 110 = .ok (.aload_n 0, 1) := by decide +kernel
theorem dX11_write_111 : decode cX11_write 111 = .ok (.getfield 49, 3) := by decide +kernel
theorem dX11_write_114 : decode cX11_write 114 = .ok (.getfield 231, 3) := by decide +kernel
theorem dX11_write_117 : decode cX11_write 117 = .ok (.iload_n 1, 1) := by decide +kernel
theorem dX11_write_118 : decode cX11_write 118 = .ok (.iaload, 1) := by decide +kernel
theorem dX11_write_119 : decode cX11_write 119 = .ok (.invokevirtual 411, 3) := by decide +kernel
theorem dX11_write_122 : decode cX11_write 122 = .ok (.aload_n 0, 1) := by decide +kernel
theorem dX11_write_123 : decode cX11_write 123 = .ok (.getfield 106, 3) := by decide +kernel
theorem dX11_write_126 : decode cX11_write 126 = .ok (.bipush 59, 2) := by decide +kernel
theorem dX11_write_128 : decode cX11_write 128 = .ok (.invokevirtual 408, 3) := by decide +kernel
theorem dX11_write_131 : decode cX11_write 131 = .ok (.iinc 1 1, 3) := by decide +kernel
theorem dX11_write_134 : decode cX11_write 134 = .ok (.goto (-124), 3) := by decide +kernel
theorem dX11_write_137 : decode cX11_write 137 = .ok (.aload_n 0, 1) := by decide +kernel
theorem dX11_write_138 : decode cX11_write 138 = .ok (.getfield 106, 3) := by decide +kernel
theorem dX11_write_141 : decode cX11_write 141 = .ok (.getfield 405, 3) := by decide +kernel
theorem dX11_write_144 : decode cX11_write 144 = .ok (.ireturn, 1) := by decide +kernel
theorem dX11_octet_0 : decode cX11_octet 0 = .ok (.iload_n 1, 1) := by decide +kernel
theorem dX11_octet_1 : decode cX11_octet 1 = .ok (.ifCond .lt 26, 3) := by decide +kernel
theorem dX11_octet_4 : decode cX11_octet 4 = .ok (.iload_n 1, 1) := by decide +kernel
theorem dX11_octet_5 : decode cX11_octet 5 = .ok (.aload_n 0, 1) := by decide +kernel
theorem dX11_octet_6 : decode cX11_octet 6 = .ok (.getfield 106, 3) := by decide +kernel
theorem dX11_octet_9 : decode cX11_octet 9 = .ok (.getfield 405, 3) := by decide +kernel
theorem dX11_octet_12 : decode cX11_octet 12 = .ok (.if_icmp .ge 15, 3) := by decide +kernel
theorem dX11_octet_15 : decode cX11_octet 15 = .ok (.aload_n 0, 1) := by decide +kernel
theorem dX11_octet_16 : decode cX11_octet 16 = .ok (.getfield 106, 3) := by decide +kernel
theorem dX11_octet_19 : decode cX11_octet 19 = .ok (.getfield 414, 3) := by decide +kernel
theorem dX11_octet_22 : decode cX11_octet 22 = .ok (.iload_n 1, 1) := by decide +kernel
theorem dX11_octet_23 : decode cX11_octet 23 = .ok (.baload, 1) := by decide +kernel
theorem dX11_octet_24 : decode cX11_octet 24 = .ok (.goto 4, 3) := by decide +kernel
theorem dX11_octet_27 : decode cX11_octet 27 = .ok (.iconst (-1), 1) := by decide +kernel
theorem dX11_octet_28 : decode cX11_octet 28 = .ok (.ireturn, 1) := by decide +kernel
theorem dX11_differs_0 : decode cX11_differs 0 = .ok (.aload_n 0, 1) := by decide +kernel
theorem dX11_differs_1 : decode cX11_differs 1 = .ok (.getfield 99, 3) := by decide +kernel
theorem dX11_differs_4 : decode cX11_differs 4 = .ok (.iload_n 1, 1) := by decide +kernel
theorem dX11_differs_5 : decode cX11_differs 5 = .ok (.invokevirtual 417, 3) := by decide +kernel
theorem dX11_differs_8 : decode cX11_differs 8 = .ok (.ifCond .ne 5, 3) := by decide +kernel
theorem dX11_differs_11 : decode cX11_differs 11 = .ok (.iconst (-1), 1) := by decide +kernel
theorem dX11_differs_12 : decode cX11_differs 12 = .ok (.ireturn, 1) := by decide +kernel
theorem dX11_differs_13 : decode cX11_differs 13 = .ok (.iconst 0, 1) := by decide +kernel
theorem dX11_differs_14 : decode cX11_differs 14 = .ok (.istore_n 2, 1) := by decide +kernel
theorem dX11_differs_15 : decode cX11_differs 15 = .ok (.iconst 0, 1) := by decide +kernel
theorem dX11_differs_16 : decode cX11_differs 16 = .ok (.istore_n 3, 1) := by decide +kernel
theorem dX11_differs_17 : decode cX11_differs 17 = .ok (.iload_n 3, 1) := by decide +kernel
theorem dX11_differs_18 : decode cX11_differs 18 = .ok (.aload_n 0, 1) := by decide +kernel
theorem dX11_differs_19 : decode cX11_differs 19 = .ok (.getfield 16, 3) := by decide +kernel
theorem dX11_differs_22 : decode cX11_differs 22 = .ok (.getfield 158, 3) := by decide +kernel
theorem dX11_differs_25 : decode cX11_differs 25 = .ok (.if_icmp .ge 35, 3) := by decide +kernel
theorem dX11_differs_28 : decode cX11_differs 28 = .ok (.aload_n 0, 1) := by decide +kernel
theorem dX11_differs_29 : decode cX11_differs 29 = .ok (.getfield 49, 3) := by decide +kernel
theorem dX11_differs_32 : decode cX11_differs 32 = .ok (.iload_n 3, 1) := by decide +kernel
theorem dX11_differs_33 : decode cX11_differs 33 = .ok (.aload_n 0, 1) := by decide +kernel
theorem dX11_differs_34 : decode cX11_differs 34 = .ok (.getfield 99, 3) := by decide +kernel
theorem dX11_differs_37 : decode cX11_differs 37 = .ok (.getfield 420, 3) := by decide +kernel
theorem dX11_differs_40 : decode cX11_differs 40 = .ok (.iload_n 1, 1) := by decide +kernel
theorem dX11_differs_41 : decode cX11_differs 41 = .ok (.aaload, 1) := by decide +kernel
theorem dX11_differs_42 : decode cX11_differs 42 = .ok (.invokevirtual 424, 3) := by decide +kernel
theorem dX11_differs_45 : decode cX11_differs 45 = .ok (.ifCond .ne 9, 3) := by decide +kernel
theorem dX11_differs_48 : decode cX11_differs 48 = .ok (.iload_n 2, 1) := by decide +kernel
theorem dX11_differs_49 : decode cX11_differs 49 = .ok (.iconst 1, 1) := by decide +kernel
theorem dX11_differs_50 : decode cX11_differs 50 = .ok (.iload_n 3, 1) := by decide +kernel
theorem dX11_differs_51 : decode cX11_differs 51 = .ok (.ishl, 1) := by decide +kernel
theorem dX11_differs_52 : decode cX11_differs 52 = .ok (.ior, 1) := by decide +kernel
theorem dX11_differs_53 : decode cX11_differs 53 = .ok (.istore_n 2, 1) := by decide +kernel
theorem dX11_differs_54 : decode cX11_differs 54 = .ok (.iinc 3 1, 3) := by decide +kernel
theorem dX11_differs_57 : decode cX11_differs 57 = .ok (.goto (-40), 3) := by decide +kernel
theorem dX11_differs_60 : decode cX11_differs 60 = .ok (.iload_n 2, 1) := by decide +kernel
theorem dX11_differs_61 : decode cX11_differs 61 = .ok (.ireturn, 1) := by decide +kernel
theorem dX11_undo_0 : decode cX11_undo 0 = .ok (.aload_n 0, 1) := by decide +kernel
theorem dX11_undo_1 : decode cX11_undo 1 = .ok (.getfield 99, 3) := by decide +kernel
theorem dX11_undo_4 : decode cX11_undo 4 = .ok (.aload_n 0, 1) := by decide +kernel
theorem dX11_undo_5 : decode cX11_undo 5 = .ok (.getfield 110, 3) := by decide +kernel
theorem dX11_undo_8 : decode cX11_undo 8 = .ok (.invokevirtual 428, 3) := by decide +kernel
theorem dX11_undo_11 : decode cX11_undo 11 = .ok (.ifCond .ne 5, 3) := by decide +kernel
theorem dX11_undo_14 : decode cX11_undo 14 = .ok (.iconst (-1), 1) := by decide +kernel
theorem dX11_undo_15 : decode cX11_undo 15 = .ok (.ireturn, 1) := by decide +kernel
theorem dX11_undo_16 : decode cX11_undo 16 = .ok (.aload_n 0, 1) := by decide +kernel
theorem dX11_undo_17 : decode cX11_undo 17 = .ok (.getfield 49, 3) := by decide +kernel
theorem dX11_undo_20 : decode cX11_undo 20 = .ok (.aload_n 0, 1) := by decide +kernel
theorem dX11_undo_21 : decode cX11_undo 21 = .ok (.getfield 110, 3) := by decide +kernel
theorem dX11_undo_24 : decode cX11_undo 24 = .ok (.invokevirtual 335, 3) := by decide +kernel
theorem dX11_undo_27 : decode cX11_undo 27 = .ok (.aload_n 0, 1) := by decide +kernel
theorem dX11_undo_28 : decode cX11_undo 28 = .ok (.getfield 92, 3) := by decide +kernel
theorem dX11_undo_31 : decode cX11_undo 31 = .ok (.iconst 0, 1) := by decide +kernel
theorem dX11_undo_32 : decode cX11_undo 32 = .ok (.putfield 136, 3) := by decide +kernel
theorem dX11_undo_35 : decode cX11_undo 35 = .ok (.aload_n 0, 1) := by decide +kernel
theorem dX11_undo_36 : decode cX11_undo 36 = .ok (.getfield 99, 3) := by decide +kernel
theorem dX11_undo_39 : decode cX11_undo 39 = .ok (.getfield 165, 3) := by decide +kernel
theorem dX11_undo_42 : decode cX11_undo 42 = .ok (.ireturn, 1) := by decide +kernel
theorem dX11_mark_0 : decode cX11_mark 0 = .ok (.iload_n 1, 1) := by decide +kernel
theorem dX11_mark_1 : decode cX11_mark 1 = .ok (.ifCond .lt 8, 3) := by decide +kernel
theorem dX11_mark_4 : decode cX11_mark 4 = .ok (.iload_n 1, 1) := by decide +kernel
theorem dX11_mark_5 : decode cX11_mark 5 = .ok (.iconst 4, 1) := by decide +kernel
theorem dX11_mark_6 : decode cX11_mark 6 = .ok (.if_icmp .lt 5, 3) := by decide +kernel
theorem dX11_mark_9 : decode cX11_mark 9 = .ok (.iconst (-1), 1) := by decide +kernel
theorem dX11_mark_10 : decode cX11_mark 10 = .ok (.ireturn, 1) := by decide +kernel
theorem dX11_mark_11 : decode cX11_mark 11 = .ok (.aload_n 0, 1) := by decide +kernel
theorem dX11_mark_12 : decode cX11_mark 12 = .ok (.getfield 49, 3) := by decide +kernel
theorem dX11_mark_15 : decode cX11_mark 15 = .ok (.aload_n 0, 1) := by decide +kernel
theorem dX11_mark_16 : decode cX11_mark 16 = .ok (.getfield 99, 3) := by decide +kernel
theorem dX11_mark_19 : decode cX11_mark 19 = .ok (.getfield 420, 3) := by decide +kernel
theorem dX11_mark_22 : decode cX11_mark 22 = .ok (.iload_n 1, 1) := by decide +kernel
theorem dX11_mark_23 : decode cX11_mark 23 = .ok (.aaload, 1) := by decide +kernel
theorem dX11_mark_24 : decode cX11_mark 24 = .ok (.invokevirtual 295, 3) := by decide +kernel
theorem dX11_mark_27 : decode cX11_mark 27 = .ok (.aload_n 0, 1) := by decide +kernel
theorem dX11_mark_28 : decode cX11_mark 28 = .ok (.getfield 99, 3) := by decide +kernel
theorem dX11_mark_31 : decode cX11_mark 31 = .ok (.dup, 1) := by decide +kernel
theorem dX11_mark_32 : decode cX11_mark 32 = .ok (.getfield 432, 3) := by decide +kernel
theorem dX11_mark_35 : decode cX11_mark 35 = .ok (.iconst 1, 1) := by decide +kernel
theorem dX11_mark_36 : decode cX11_mark 36 = .ok (.iload_n 1, 1) := by decide +kernel
theorem dX11_mark_37 : decode cX11_mark 37 = .ok (.ishl, 1) := by decide +kernel
theorem dX11_mark_38 : decode cX11_mark 38 = .ok (.ior, 1) := by decide +kernel
theorem dX11_mark_39 : decode cX11_mark 39 = .ok (.putfield 432, 3) := by decide +kernel
theorem dX11_mark_42 : decode cX11_mark 42 = .ok (.aload_n 0, 1) := by decide +kernel
theorem dX11_mark_43 : decode cX11_mark 43 = .ok (.getfield 49, 3) := by decide +kernel
theorem dX11_mark_46 : decode cX11_mark 46 = .ok (.invokevirtual 161, 3) := by decide +kernel
theorem dX11_mark_49 : decode cX11_mark 49 = .ok (.ireturn, 1) := by decide +kernel
theorem dX11_back_0 : decode cX11_back 0 = .ok (.aload_n 0, 1) := by decide +kernel
theorem dX11_back_1 : decode cX11_back 1 = .ok (.getfield 99, 3) := by decide +kernel
theorem dX11_back_4 : decode cX11_back 4 = .ok (.iload_n 1, 1) := by decide +kernel
theorem dX11_back_5 : decode cX11_back 5 = .ok (.invokevirtual 417, 3) := by decide +kernel
theorem dX11_back_8 : decode cX11_back 8 = .ok (.ifCond .ne 5, 3) := by decide +kernel
theorem dX11_back_11 : decode cX11_back 11 = .ok (.iconst (-1), 1) := by decide +kernel
theorem dX11_back_12 : decode cX11_back 12 = .ok (.ireturn, 1) := by decide +kernel
theorem dX11_back_13 : decode cX11_back 13 = .ok (.aload_n 0, 1) := by decide +kernel
theorem dX11_back_14 : decode cX11_back 14 = .ok (.getfield 49, 3) := by decide +kernel
theorem dX11_back_17 : decode cX11_back 17 = .ok (.aload_n 0, 1) := by decide +kernel
theorem dX11_back_18 : decode cX11_back 18 = .ok (.getfield 99, 3) := by decide +kernel
theorem dX11_back_21 : decode cX11_back 21 = .ok (.getfield 420, 3) := by decide +kernel
theorem dX11_back_24 : decode cX11_back 24 = .ok (.iload_n 1, 1) := by decide +kernel
theorem dX11_back_25 : decode cX11_back 25 = .ok (.aaload, 1) := by decide +kernel
theorem dX11_back_26 : decode cX11_back 26 = .ok (.invokevirtual 335, 3) := by decide +kernel
theorem dX11_back_29 : decode cX11_back 29 = .ok (.aload_n 0, 1) := by decide +kernel
theorem dX11_back_30 : decode cX11_back 30 = .ok (.getfield 99, 3) := by decide +kernel
theorem dX11_back_33 : decode cX11_back 33 = .ok (.iconst 0, 1) := by decide +kernel
theorem dX11_back_34 : decode cX11_back 34 = .ok (.putfield 165, 3) := by decide +kernel
theorem dX11_back_37 : decode cX11_back 37 = .ok (.aload_n 0, 1) := by decide +kernel
theorem dX11_back_38 : decode cX11_back 38 = .ok (.getfield 92, 3) := by decide +kernel
theorem dX11_back_41 : decode cX11_back 41 = .ok (.iconst 0, 1) := by decide +kernel
theorem dX11_back_42 : decode cX11_back 42 = .ok (.putfield 136, 3) := by decide +kernel
theorem dX11_back_45 : decode cX11_back 45 = .ok (.aload_n 0, 1) := by decide +kernel
theorem dX11_back_46 : decode cX11_back 46 = .ok (.getfield 49, 3) := by decide +kernel
theorem dX11_back_49 : decode cX11_back 49 = .ok (.invokevirtual 161, 3) := by decide +kernel
theorem dX11_back_52 : decode cX11_back 52 = .ok (.ireturn, 1) := by decide +kernel
theorem dX11_isShip_0 : decode cX11_isShip 0 = .ok (.iload_n 1, 1) := by decide +kernel
theorem dX11_isShip_1 : decode cX11_isShip 1 = .ok (.ifCond .lt 18, 3) := by decide +kernel
theorem dX11_isShip_4 : decode cX11_isShip 4 = .ok (.iload_n 1, 1) := by decide +kernel
theorem dX11_isShip_5 : decode cX11_isShip 5 = .ok (.aload_n 0, 1) := by decide +kernel
theorem dX11_isShip_6 : decode cX11_isShip 6 = .ok (.getfield 16, 3) := by decide +kernel
theorem dX11_isShip_9 : decode cX11_isShip 9 = .ok (.getfield 158, 3) := by decide +kernel
theorem dX11_isShip_12 : decode cX11_isShip 12 = .ok (.if_icmp .ge 7, 3) := by decide +kernel
theorem dX11_isShip_15 : decode cX11_isShip 15 = .ok (.iconst 1, 1) := by decide +kernel
theorem dX11_isShip_16 : decode cX11_isShip 16 = .ok (.goto 4, 3) := by decide +kernel
theorem dX11_isShip_19 : decode cX11_isShip 19 = .ok (.iconst 0, 1) := by decide +kernel
theorem dX11_isShip_20 : decode cX11_isShip 20 = .ok (.ireturn, 1) := by decide +kernel
theorem dX11_isCrane_0 : decode cX11_isCrane 0 = .ok (.iload_n 1, 1) := by decide +kernel
theorem dX11_isCrane_1 : decode cX11_isCrane 1 = .ok (.ifCond .lt 18, 3) := by decide +kernel
theorem dX11_isCrane_4 : decode cX11_isCrane 4 = .ok (.iload_n 1, 1) := by decide +kernel
theorem dX11_isCrane_5 : decode cX11_isCrane 5 = .ok (.aload_n 0, 1) := by decide +kernel
theorem dX11_isCrane_6 : decode cX11_isCrane 6 = .ok (.getfield 16, 3) := by decide +kernel
theorem dX11_isCrane_9 : decode cX11_isCrane 9 = .ok (.getfield 152, 3) := by decide +kernel
theorem dX11_isCrane_12 : decode cX11_isCrane 12 = .ok (.if_icmp .ge 7, 3) := by decide +kernel
theorem dX11_isCrane_15 : decode cX11_isCrane 15 = .ok (.iconst 1, 1) := by decide +kernel
theorem dX11_isCrane_16 : decode cX11_isCrane 16 = .ok (.goto 4, 3) := by decide +kernel
theorem dX11_isCrane_19 : decode cX11_isCrane 19 = .ok (.iconst 0, 1) := by decide +kernel
theorem dX11_isCrane_20 : decode cX11_isCrane 20 = .ok (.ireturn, 1) := by decide +kernel
theorem dX11_isMetre_0 : decode cX11_isMetre 0 = .ok (.iload_n 1, 1) := by decide +kernel
theorem dX11_isMetre_1 : decode cX11_isMetre 1 = .ok (.ifCond .lt 20, 3) := by decide +kernel
theorem dX11_isMetre_4 : decode cX11_isMetre 4 = .ok (.iload_n 1, 1) := by decide +kernel
theorem dX11_isMetre_5 : decode cX11_isMetre 5 = .ok (.aload_n 0, 1) := by decide +kernel
theorem dX11_isMetre_6 : decode cX11_isMetre 6 = .ok (.getfield 16, 3) := by decide +kernel
theorem dX11_isMetre_9 : decode cX11_isMetre 9 = .ok (.getfield 146, 3) := by decide +kernel
theorem dX11_isMetre_12 : decode cX11_isMetre 12 = .ok (.iconst 0, 1) := by decide +kernel
theorem dX11_isMetre_13 : decode cX11_isMetre 13 = .ok (.iaload, 1) := by decide +kernel
theorem dX11_isMetre_14 : decode cX11_isMetre 14 = .ok (.if_icmp .ge 7, 3) := by decide +kernel
theorem dX11_isMetre_17 : decode cX11_isMetre 17 = .ok (.iconst 1, 1) := by decide +kernel
theorem dX11_isMetre_18 : decode cX11_isMetre 18 = .ok (.goto 4, 3) := by decide +kernel
theorem dX11_isMetre_21 : decode cX11_isMetre 21 = .ok (.iconst 0, 1) := by decide +kernel
theorem dX11_isMetre_22 : decode cX11_isMetre 22 = .ok (.ireturn, 1) := by decide +kernel
theorem dX11_isSlot_0 : decode cX11_isSlot 0 = .ok (.iload_n 0, 1) := by decide +kernel
theorem dX11_isSlot_1 : decode cX11_isSlot 1 = .ok (.ifCond .lt 14, 3) := by decide +kernel
theorem dX11_isSlot_4 : decode cX11_isSlot 4 = .ok (.iload_n 0, 1) := by decide +kernel
theorem dX11_isSlot_5 : decode cX11_isSlot 5 = .ok (.sipush 336, 3) := by decide +kernel
theorem dX11_isSlot_8 : decode cX11_isSlot 8 = .ok (.if_icmp .ge 7, 3) := by decide +kernel
theorem dX11_isSlot_11 : decode cX11_isSlot 11 = .ok (.iconst 1, 1) := by decide +kernel
theorem dX11_isSlot_12 : decode cX11_isSlot 12 = .ok (.goto 4, 3) := by decide +kernel
theorem dX11_isSlot_15 : decode cX11_isSlot 15 = .ok (.iconst 0, 1) := by decide +kernel
theorem dX11_isSlot_16 : decode cX11_isSlot 16 = .ok (.ireturn, 1) := by decide +kernel
theorem dX11_isShift_0 : decode cX11_isShift 0 = .ok (.iload_n 0, 1) := by decide +kernel
theorem dX11_isShift_1 : decode cX11_isShift 1 = .ok (.ifCond .lt 22, 3) := by decide +kernel
theorem dX11_isShift_4 : decode cX11_isShift 4 = .ok (.iload_n 0, 1) := by decide +kernel
theorem dX11_isShift_5 : decode cX11_isShift 5 = .ok (.bipush 7, 2) := by decide +kernel
theorem dX11_isShift_7 : decode cX11_isShift 7 = .ok (.if_icmp .ge 16, 3) := by decide +kernel
theorem dX11_isShift_10 : decode cX11_isShift 10 = .ok (.iload_n 1, 1) := by decide +kernel
theorem dX11_isShift_11 : decode cX11_isShift 11 = .ok (.ifCond .lt 12, 3) := by decide +kernel
theorem dX11_isShift_14 : decode cX11_isShift 14 = .ok (.iload_n 1, 1) := by decide +kernel
theorem dX11_isShift_15 : decode cX11_isShift 15 = .ok (.iconst 3, 1) := by decide +kernel
theorem dX11_isShift_16 : decode cX11_isShift 16 = .ok (.if_icmp .ge 7, 3) := by decide +kernel
theorem dX11_isShift_19 : decode cX11_isShift 19 = .ok (.iconst 1, 1) := by decide +kernel
theorem dX11_isShift_20 : decode cX11_isShift 20 = .ok (.goto 4, 3) := by decide +kernel
theorem dX11_isShift_23 : decode cX11_isShift 23 = .ok (.iconst 0, 1) := by decide +kernel
theorem dX11_isShift_24 : decode cX11_isShift 24 = .ok (.ireturn, 1) := by decide +kernel
theorem dX11_isWater_0 : decode cX11_isWater 0 = .ok (.iload_n 0, 1) := by decide +kernel
theorem dX11_isWater_1 : decode cX11_isWater 1 = .ok (.ifCond .lt 14, 3) := by decide +kernel
theorem dX11_isWater_4 : decode cX11_isWater 4 = .ok (.iload_n 0, 1) := by decide +kernel
theorem dX11_isWater_5 : decode cX11_isWater 5 = .ok (.sipush 300, 3) := by decide +kernel
theorem dX11_isWater_8 : decode cX11_isWater 8 = .ok (.if_icmp .gt 7, 3) := by decide +kernel
theorem dX11_isWater_11 : decode cX11_isWater 11 = .ok (.iconst 1, 1) := by decide +kernel
theorem dX11_isWater_12 : decode cX11_isWater 12 = .ok (.goto 4, 3) := by decide +kernel
theorem dX11_isWater_15 : decode cX11_isWater 15 = .ok (.iconst 0, 1) := by decide +kernel
theorem dX11_isWater_16 : decode cX11_isWater 16 = .ok (.ireturn, 1) := by decide +kernel
theorem dX11_isCraneNumber_0 : decode cX11_isCraneNumber 0 = .ok (.iload_n 0, 1) := by decide +kernel
theorem dX11_isCraneNumber_1 : decode cX11_isCraneNumber 1 = .ok (.iconst 1, 1) := by decide +kernel
theorem dX11_isCraneNumber_2 : decode cX11_isCraneNumber 2 = .ok (.if_icmp .lt 13, 3) := by decide +kernel
theorem dX11_isCraneNumber_5 : decode cX11_isCraneNumber 5 = .ok (.iload_n 0, 1) := by decide +kernel
theorem dX11_isCraneNumber_6 : decode cX11_isCraneNumber 6 = .ok (.bipush 8, 2) := by decide +kernel
theorem dX11_isCraneNumber_8 : decode cX11_isCraneNumber 8 = .ok (.if_icmp .gt 7, 3) := by decide +kernel
theorem dX11_isCraneNumber_11 : decode cX11_isCraneNumber 11 = .ok (.iconst 1, 1) := by decide +kernel
theorem dX11_isCraneNumber_12 : decode cX11_isCraneNumber 12 = .ok (.goto 4, 3) := by decide +kernel
theorem dX11_isCraneNumber_15 : decode cX11_isCraneNumber 15 = .ok (.iconst 0, 1) := by decide +kernel
theorem dX11_isCraneNumber_16 : decode cX11_isCraneNumber 16 = .ok (.ireturn, 1) := by decide +kernel
theorem dX11_isRule_0 : decode cX11_isRule 0 = .ok (.iload_n 0, 1) := by decide +kernel
theorem dX11_isRule_1 : decode cX11_isRule 1 = .ok (.ifCond .lt 12, 3) := by decide +kernel
theorem dX11_isRule_4 : decode cX11_isRule 4 = .ok (.iload_n 0, 1) := by decide +kernel
theorem dX11_isRule_5 : decode cX11_isRule 5 = .ok (.iconst 4, 1) := by decide +kernel
theorem dX11_isRule_6 : decode cX11_isRule 6 = .ok (.if_icmp .ge 7, 3) := by decide +kernel
theorem dX11_isRule_9 : decode cX11_isRule 9 = .ok (.iconst 1, 1) := by decide +kernel
theorem dX11_isRule_10 : decode cX11_isRule 10 = .ok (.goto 4, 3) := by decide +kernel
theorem dX11_isRule_13 : decode cX11_isRule 13 = .ok (.iconst 0, 1) := by decide +kernel
theorem dX11_isRule_14 : decode cX11_isRule 14 = .ok (.ireturn, 1) := by decide +kernel
