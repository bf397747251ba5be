theorem dX8_init_0 : decode cX8_init 0 = .ok (.aload_n 0, 1) := by decide +kernel
theorem dX8_init_1 : decode cX8_init 1 = .ok (.invokespecial 3, 3) := by decide +kernel
theorem dX8_init_4 : decode cX8_init 4 = .ok (.aload_n 0, 1) := by decide +kernel
theorem dX8_init_5 : decode cX8_init 5 = .ok (.bipush 6, 2) := by decide +kernel
theorem dX8_init_7 : decode cX8_init 7 = .ok (.newarray .int, 2) := by decide +kernel
theorem dX8_init_9 : decode cX8_init 9 = .ok (.putfield 9, 3) := by decide +kernel
theorem dX8_init_12 : decode cX8_init 12 = .ok (.aload_n 0, 1) := by decide +kernel
theorem dX8_init_13 : decode cX8_init 13 = .ok (.bipush 8, 2) := by decide +kernel
theorem dX8_init_15 : decode cX8_init 15 = .ok (.newarray .int, 2) := by decide +kernel
theorem dX8_init_17 : decode cX8_init 17 = .ok (.putfield 15, 3) := by decide +kernel
theorem dX8_init_20 : decode cX8_init 20 = .ok (.aload_n 0, 1) := by decide +kernel
theorem dX8_init_21 : decode cX8_init 21 = .ok (.bipush 8, 2) := by decide +kernel
theorem dX8_init_23 : decode cX8_init 23 = .ok (.newarray .int, 2) := by decide +kernel
theorem dX8_init_25 : decode cX8_init 25 = .ok (.putfield 18, 3) := by decide +kernel
theorem dX8_init_28 : decode cX8_init 28 = .ok (.aload_n 0, 1) := by decide +kernel
theorem dX8_init_29 : decode cX8_init 29 = .ok (.bipush 8, 2) := by decide +kernel
theorem dX8_init_31 : decode cX8_init 31 = .ok (.newarray .int, 2) := by decide +kernel
theorem dX8_init_33 : decode cX8_init 33 = .ok (.putfield 21, 3) := by decide +kernel
theorem dX8_init_36 : decode cX8_init 36 = .ok (.aload_n 0, 1) := by decide +kernel
theorem dX8_init_37 : decode cX8_init 37 = .ok (.bipush 8, 2) := by decide +kernel
theorem dX8_init_39 : decode cX8_init 39 = .ok (.newarray .int, 2) := by decide +kernel
theorem dX8_init_41 : decode cX8_init 41 = .ok (.putfield 24, 3) := by decide +kernel
theorem dX8_init_44 : decode cX8_init 44 = .ok (.aload_n 0, 1) := by decide +kernel
theorem dX8_init_45 : decode cX8_init 45 = .ok (.bipush 30, 2) := by decide +kernel
theorem dX8_init_47 : decode cX8_init 47 = .ok (.newarray .int, 2) := by decide +kernel
theorem dX8_init_49 : decode cX8_init 49 = .ok (.putfield 27, 3) := by decide +kernel
theorem dX8_init_52 : decode cX8_init 52 = .ok (.aload_n 0, 1) := by decide +kernel
theorem dX8_init_53 : decode cX8_init 53 = .ok (.bipush 30, 2) := by decide +kernel
theorem dX8_init_55 : decode cX8_init 55 = .ok (.newarray .int, 2) := by decide +kernel
theorem dX8_init_57 : decode cX8_init 57 = .ok (.putfield 30, 3) := by decide +kernel
theorem dX8_init_60 : decode cX8_init 60 = .ok (.aload_n 0, 1) := by decide +kernel
theorem dX8_init_61 : decode cX8_init 61 = .ok (.bipush 21, 2) := by decide +kernel
theorem dX8_init_63 : decode cX8_init 63 = .ok (.newarray .int, 2) := by decide +kernel
theorem dX8_init_65 : decode cX8_init 65 = .ok (.putfield 33, 3) := by decide +kernel
theorem dX8_init_68 : decode cX8_init 68 = .ok (.aload_n 0, 1) := by decide +kernel
theorem dX8_init_69 : decode cX8_init 69 = .ok (.bipush 126, 2) := by decide +kernel
theorem dX8_init_71 : decode cX8_init 71 = .ok (.newarray .int, 2) := by decide +kernel
theorem dX8_init_73 : decode cX8_init 73 = .ok (.putfield 36, 3) := by decide +kernel
theorem dX8_init_76 : decode cX8_init 76 = .ok (.aload_n 0, 1) := by decide +kernel
theorem dX8_init_77 : decode cX8_init 77 = .ok (.bipush 112, 2) := by decide +kernel
theorem dX8_init_79 : decode cX8_init 79 = .ok (.newarray .int, 2) := by decide +kernel
theorem dX8_init_81 : decode cX8_init 81 = .ok (.putfield 39, 3) := by decide +kernel
theorem dX8_init_84 : decode cX8_init 84 = .ok (.return_, 1) := by decide +kernel
theorem dX8_forget_0 : decode cX8_forget 0 = .ok (.getstatic 42, 3) := by decide +kernel
theorem dX8_forget_3 : decode cX8_forget 3 = .ok (.iconst 0, 1) := by decide +kernel
theorem dX8_forget_4 : decode cX8_forget 4 = .ok (.aload_n 0, 1) := by decide +kernel
theorem dX8_forget_5 : decode cX8_forget 5 = .ok (.getfield 9, 3) := by decide +kernel
theorem dX8_forget_8 : decode cX8_forget 8 = .ok (.iconst 0, 1) := by decide +kernel
theorem dX8_forget_9 : decode cX8_forget 9 = .ok (.bipush 6, 2) := by decide +kernel
theorem dX8_forget_11 : decode cX8_forget 11 = .ok (.invokestatic 45, 3) := by decide +kernel
theorem dX8_forget_14 : decode cX8_forget 14 = .ok (.aload_n 0, 1) := by decide +kernel
theorem dX8_forget_15 : decode cX8_forget 15 = .ok (.iconst 0, 1) := by decide +kernel
theorem dX8_forget_16 : decode cX8_forget 16 = .ok (.putfield 51, 3) := by decide +kernel
theorem dX8_forget_19 : decode cX8_forget 19 = .ok (.aload_n 0, 1) := by decide +kernel
theorem dX8_forget_20 : decode cX8_forget 20 = .ok (.iconst 0, 1) := by decide +kernel
theorem dX8_forget_21 : decode cX8_forget 21 = .ok (.putfield 55, 3) := by decide +kernel
theorem dX8_forget_24 : decode cX8_forget 24 = .ok (.aload_n 0, 1) := by decide +kernel
theorem dX8_forget_25 : decode cX8_forget 25 = .ok (.iconst 0, 1) := by decide +kernel
theorem dX8_forget_26 : decode cX8_forget 26 = .ok (.putfield 58, 3) := by decide +kernel
theorem dX8_forget_29 : decode cX8_forget 29 = .ok (.aload_n 0, 1) := by decide +kernel
theorem dX8_forget_30 : decode cX8_forget 30 = .ok (.iconst 0, 1) := by decide +kernel
theorem dX8_forget_31 : decode cX8_forget 31 = .ok (.putfield 61, 3) := by decide +kernel
theorem dX8_forget_34 : decode cX8_forget 34 = .ok (.aload_n 0, 1) := by decide +kernel
theorem dX8_forget_35 : decode cX8_forget 35 = .ok (.getfield 33, 3) := by decide +kernel
theorem dX8_forget_38 : decode cX8_forget 38 = .ok (.iconst (-1), 1) := by decide +kernel
theorem dX8_forget_39 : decode cX8_forget 39 = .ok (.invokestatic 64, 3) := by decide +kernel
theorem dX8_forget_42 : decode cX8_forget 42 = .ok (.aload_n 0, 1) := by decide +kernel
theorem dX8_forget_43 : decode cX8_forget 43 = .ok (.iconst 0, 1) := by decide +kernel
theorem dX8_forget_44 : decode cX8_forget 44 = .ok (.putfield 70, 3) := by decide +kernel
theorem dX8_forget_47 : decode cX8_forget 47 = .ok (.return_, 1) := by decide +kernel
theorem dX8_takeOver_0 : decode cX8_takeOver 0 = .ok (.aload_n 1, 1) := by decide +kernel
theorem dX8_takeOver_1 : decode cX8_takeOver 1 = .ok (.getfield 9, 3) := by decide +kernel
theorem dX8_takeOver_4 : decode cX8_takeOver 4 = .ok (.iconst 0, 1) := by decide +kernel
theorem dX8_takeOver_5 : decode cX8_takeOver 5 = .ok (.aload_n 0, 1) := by decide +kernel
theorem dX8_takeOver_6 : decode cX8_takeOver 6 = .ok (.getfield 9, 3) := by decide +kernel
theorem dX8_takeOver_9 : decode cX8_takeOver 9 = .ok (.iconst 0, 1) := by decide +kernel
theorem dX8_takeOver_10 : decode cX8_takeOver 10 = .ok (.bipush 6, 2) := by decide +kernel
theorem dX8_takeOver_12 : decode cX8_takeOver 12 = .ok (.invokestatic 45, 3) := by decide +kernel
theorem dX8_takeOver_15 : decode cX8_takeOver 15 = .ok (.aload_n 0, 1) := by decide +kernel
theorem dX8_takeOver_16 : decode cX8_takeOver 16 = .ok (.aload_n 1, 1) := by decide +kernel
theorem dX8_takeOver_17 : decode cX8_takeOver 17 = .ok (.getfield 51, 3) := by decide +kernel
theorem dX8_takeOver_20 : decode cX8_takeOver 20 = .ok (.putfield 51, 3) := by decide +kernel
theorem dX8_takeOver_23 : decode cX8_takeOver 23 = .ok (.aload_n 0, 1) := by decide +kernel
theorem dX8_takeOver_24 : decode cX8_takeOver 24 = .ok (.aload_n 1, 1) := by decide +kernel
theorem dX8_takeOver_25 : decode cX8_takeOver 25 = .ok (.getfield 55, 3) := by decide +kernel
theorem dX8_takeOver_28 : decode cX8_takeOver 28 = .ok (.putfield 55, 3) := by decide +kernel
theorem dX8_takeOver_31 : decode cX8_takeOver 31 = .ok (.aload_n 1, 1) := by decide +kernel
theorem dX8_takeOver_32 : decode cX8_takeOver 32 = .ok (.getfield 15, 3) := by decide +kernel
theorem dX8_takeOver_35 : decode cX8_takeOver 35 = .ok (.iconst 0, 1) := by decide +kernel
theorem dX8_takeOver_36 : decode cX8_takeOver 36 = .ok (.aload_n 0, 1) := by decide +kernel
theorem dX8_takeOver_37 : decode cX8_takeOver 37 = .ok (.getfield 15, 3) := by decide +kernel
theorem dX8_takeOver_40 : decode cX8_takeOver 40 = .ok (.iconst 0, 1) := by decide +kernel
theorem dX8_takeOver_41 : decode cX8_takeOver 41 = .ok (.bipush 8, 2) := by decide +kernel
theorem dX8_takeOver_43 : decode cX8_takeOver 43 = .ok (.invokestatic 45, 3) := by decide +kernel
theorem dX8_takeOver_46 : decode cX8_takeOver 46 = .ok (.aload_n 1, 1) := by decide +kernel
theorem dX8_takeOver_47 : decode cX8_takeOver 47 = .ok (.getfield 18, 3) := by decide +kernel
theorem dX8_takeOver_50 : decode cX8_takeOver 50 = .ok (.iconst 0, 1) := by decide +kernel
theorem dX8_takeOver_51 : decode cX8_takeOver 51 = .ok (.aload_n 0, 1) := by decide +kernel
theorem dX8_takeOver_52 : decode cX8_takeOver 52 = .ok (.getfield 18, 3) := by decide +kernel
theorem dX8_takeOver_55 : decode cX8_takeOver 55 = .ok (.iconst 0, 1) := by decide +kernel
theorem dX8_takeOver_56 : decode cX8_takeOver 56 = .ok (.bipush 8, 2) := by decide +kernel
theorem dX8_takeOver_58 : decode cX8_takeOver 58 = .ok (.invokestatic 45, 3) := by decide +kernel
theorem dX8_takeOver_61 : decode cX8_takeOver 61 = .ok (.aload_n 0, 1) := by decide +kernel
theorem dX8_takeOver_62 : decode cX8_takeOver 62 = .ok (.aload_n 1, 1) := by decide +kernel
theorem dX8_takeOver_63 : decode cX8_takeOver 63 = .ok (.getfield 58, 3) := by decide +kernel
theorem dX8_takeOver_66 : decode cX8_takeOver 66 = .ok (.putfield 58, 3) := by decide +kernel
theorem dX8_takeOver_69 : decode cX8_takeOver 69 = .ok (.aload_n 1, 1) := by decide +kernel
theorem dX8_takeOver_70 : decode cX8_takeOver 70 = .ok (.getfield 21, 3) := by decide +kernel
theorem dX8_takeOver_73 : decode cX8_takeOver 73 = .ok (.iconst 0, 1) := by decide +kernel
theorem dX8_takeOver_74 : decode cX8_takeOver 74 = .ok (.aload_n 0, 1) := by decide +kernel
theorem dX8_takeOver_75 : decode cX8_takeOver 75 = .ok (.getfield 21, 3) := by decide +kernel
theorem dX8_takeOver_78 : decode cX8_takeOver 78 = .ok (.iconst 0, 1) := by decide +kernel
theorem dX8_takeOver_79 : decode cX8_takeOver 79 = .ok (.bipush 8, 2) := by decide +kernel
theorem dX8_takeOver_81 : decode cX8_takeOver 81 = .ok (.invokestatic 45, 3) := by decide +kernel
theorem dX8_takeOver_84 : decode cX8_takeOver 84 = .ok (.aload_n 1, 1) := by decide +kernel
theorem dX8_takeOver_85 : decode cX8_takeOver 85 = .ok (.getfield 24, 3) := by decide +kernel
theorem dX8_takeOver_88 : decode cX8_takeOver 88 = .ok (.iconst 0, 1) := by decide +kernel
theorem dX8_takeOver_89 : decode cX8_takeOver 89 = .ok (.aload_n 0, 1) := by decide +kernel
theorem dX8_takeOver_90 : decode cX8_takeOver 90 = .ok (.getfield 24, 3) := by decide +kernel
theorem dX8_takeOver_93 : decode cX8_takeOver 93 = .ok (.iconst 0, 1) := by decide +kernel
theorem dX8_takeOver_94 : decode cX8_takeOver 94 = .ok (.bipush 8, 2) := by decide +kernel
theorem dX8_takeOver_96 : decode cX8_takeOver 96 = .ok (.invokestatic 45, 3) := by decide +kernel
theorem dX8_takeOver_99 : decode cX8_takeOver 99 = .ok (.aload_n 0, 1) := by decide +kernel
theorem dX8_takeOver_100 : decode cX8_takeOver 100 = .ok (.aload_n 1, 1) := by decide +kernel
theorem dX8_takeOver_101 : decode cX8_takeOver 101 = .ok (.getfield 61, 3) := by decide +kernel
theorem dX8_takeOver_104 : decode cX8_takeOver 104 = .ok (.putfield 61, 3) := by decide +kernel
theorem dX8_takeOver_107 : decode cX8_takeOver 107 = .ok (.aload_n 1, 1) := by decide +kernel
theorem dX8_takeOver_108 : decode cX8_takeOver 108 = .ok (.getfield 27, 3) := by decide +kernel
theorem dX8_takeOver_111 : decode cX8_takeOver 111 = .ok (.iconst 0, 1) := by decide +kernel
theorem dX8_takeOver_112 : decode cX8_takeOver 112 = .ok (.aload_n 0, 1) := by decide +kernel
theorem dX8_takeOver_113 : decode cX8_takeOver 113 = .ok (.getfield 27, 3) := by decide +kernel
theorem dX8_takeOver_116 : decode cX8_takeOver 116 = .ok (.iconst 0, 1) := by decide +kernel
theorem dX8_takeOver_117 : decode cX8_takeOver 117 = .ok (.bipush 30, 2) := by decide +kernel
theorem dX8_takeOver_119 : decode cX8_takeOver 119 = .ok (.invokestatic 45, 3) := by decide +kernel
theorem dX8_takeOver_122 : decode cX8_takeOver 122 = .ok (.aload_n 1, 1) := by decide +kernel
theorem dX8_takeOver_123 : decode cX8_takeOver 123 = .ok (.getfield 30, 3) := by decide +kernel
theorem dX8_takeOver_126 : decode cX8_takeOver 126 = .ok (.iconst 0, 1) := by decide +kernel
theorem dX8_takeOver_127 : decode cX8_takeOver 127 = .ok (.aload_n 0, 1) := by decide +kernel
theorem dX8_takeOver_128 : decode cX8_takeOver 128 = .ok (.getfield 30, 3) := by decide +kernel
theorem dX8_takeOver_131 : decode cX8_takeOver 131 = .ok (.iconst 0, 1) := by decide +kernel
theorem dX8_takeOver_132 : decode cX8_takeOver 132 = .ok (.bipush 30, 2) := by decide +kernel
theorem dX8_takeOver_134 : decode cX8_takeOver 134 = .ok (.invokestatic 45, 3) := by decide +kernel
theorem dX8_takeOver_137 : decode cX8_takeOver 137 = .ok (.aload_n 1, 1) := by decide +kernel
theorem dX8_takeOver_138 : decode cX8_takeOver 138 = .ok (.getfield 33, 3) := by decide +kernel
theorem dX8_takeOver_141 : decode cX8_takeOver 141 = .ok (.iconst 0, 1) := by decide +kernel
theorem dX8_takeOver_142 : decode cX8_takeOver 142 = .ok (.aload_n 0, 1) := by decide +kernel
theorem dX8_takeOver_143 : decode cX8_takeOver 143 = .ok (.getfield 33, 3) := by decide +kernel
theorem dX8_takeOver_146 : decode cX8_takeOver 146 = .ok (.iconst 0, 1) := by decide +kernel
theorem dX8_takeOver_147 : decode cX8_takeOver 147 = .ok (.bipush 21, 2) := by decide +kernel
theorem dX8_takeOver_149 : decode cX8_takeOver 149 = .ok (.invokestatic 45, 3) := by decide +kernel
theorem dX8_takeOver_152 : decode cX8_takeOver 152 = .ok (.aload_n 0, 1) := by decide +kernel
theorem dX8_takeOver_153 : decode cX8_takeOver 153 = .ok (.aload_n 1, 1) := by decide +kernel
theorem dX8_takeOver_154 : decode cX8_takeOver 154 = .ok (.getfield 70, 3) := by decide +kernel
theorem dX8_takeOver_157 : decode cX8_takeOver 157 = .ok (.putfield 70, 3) := by decide +kernel
theorem dX8_takeOver_160 : decode cX8_takeOver 160 = .ok (.aload_n 1, 1) := by decide +kernel
theorem dX8_takeOver_161 : decode cX8_takeOver 161 = .ok (.getfield 36, 3) := by decide +kernel
theorem dX8_takeOver_164 : decode cX8_takeOver 164 = .ok (.iconst 0, 1) := by decide +kernel
theorem dX8_takeOver_165 : decode cX8_takeOver 165 = .ok (.aload_n 0, 1) := by decide +kernel
theorem dX8_takeOver_166 : decode cX8_takeOver 166 = .ok (.getfield 36, 3) := by decide +kernel
theorem dX8_takeOver_169 : decode cX8_takeOver 169 = .ok (.iconst 0, 1) := by decide +kernel
theorem dX8_takeOver_170 : decode cX8_takeOver 170 = .ok (.bipush 126, 2) := by decide +kernel
theorem dX8_takeOver_172 : decode cX8_takeOver 172 = .ok (.invokestatic 45, 3) := by decide +kernel
theorem dX8_takeOver_175 : decode cX8_takeOver 175 = .ok (.aload_n 1, 1) := by decide +kernel
theorem dX8_takeOver_176 : decode cX8_takeOver 176 = .ok (.getfield 39, 3) := by decide +kernel
theorem dX8_takeOver_179 : decode cX8_takeOver 179 = .ok (.iconst 0, 1) := by decide +kernel
theorem dX8_takeOver_180 : decode cX8_takeOver 180 = .ok (.aload_n 0, 1) := by decide +kernel
theorem dX8_takeOver_181 : decode cX8_takeOver 181 = .ok (.getfield 39, 3) := by decide +kernel
theorem dX8_takeOver_184 : decode cX8_takeOver 184 = .ok (.iconst 0, 1) := by decide +kernel
theorem dX8_takeOver_185 : decode cX8_takeOver 185 = .ok (.bipush 112, 2) := by decide +kernel
theorem dX8_takeOver_187 : decode cX8_takeOver 187 = .ok (.invokestatic 45, 3) := by decide +kernel
theorem dX8_takeOver_190 : decode cX8_takeOver 190 = .ok (.return_, 1) := by decide +kernel
theorem dX8_isSetAlready_0 : decode cX8_isSetAlready 0 = .ok (.iload_n 1, 1) := by decide +kernel
theorem dX8_isSetAlready_1 : decode cX8_isSetAlready 1 = .ok (.bipush 6, 2) := by decide +kernel
theorem dX8_isSetAlready_3 : decode cX8_isSetAlready 3 = .ok (.if_icmp .ge 18, 3) := by decide +kernel
theorem dX8_isSetAlready_6 : decode cX8_isSetAlready 6 = .ok (.aload_n 0, 1) := by decide +kernel
theorem dX8_isSetAlready_7 : decode cX8_isSetAlready 7 = .ok (.getfield 51, 3) := by decide +kernel
theorem dX8_isSetAlready_10 : decode cX8_isSetAlready 10 = .ok (.iload_n 1, 1) := by decide +kernel
theorem dX8_isSetAlready_11 : decode cX8_isSetAlready 11 = .ok (.ishr, 1) := by decide +kernel
theorem dX8_isSetAlready_12 : decode cX8_isSetAlready 12 = .ok (.iconst 1, 1) := by decide +kernel
theorem dX8_isSetAlready_13 : decode cX8_isSetAlready 13 = .ok (.iand, 1) := by decide +kernel
theorem dX8_isSetAlready_14 : decode cX8_isSetAlready 14 = .ok (.ifCond .eq 7, 3) := by decide +kernel
theorem dX8_isSetAlready_17 : decode cX8_isSetAlready 17 = .ok (.iconst 1, 1) := by decide +kernel
theorem dX8_isSetAlready_18 : decode cX8_isSetAlready 18 = .ok (.goto 4, 3) := by decide +kernel
theorem dX8_isSetAlready_21 : decode cX8_isSetAlready 21 = .ok (.iconst 0, 1) := by decide +kernel
theorem dX8_isSetAlready_22 : decode cX8_isSetAlready 22 = .ok (.ireturn, 1) := by decide +kernel
theorem dX8_isFull_0 : decode cX8_isFull 0 = .ok (.iload_n 1, 1) := by decide +kernel
theorem dX8_isFull_1 : decode cX8_isFull 1 = .ok (.tableswitch 95 6 10 #[35, 50, 65, 95, 80], 35) := by decide +kernel
theorem dX8_isFull_36 : decode cX8_isFull 36 = .ok (.aload_n 0, 1) := by decide +kernel
theorem dX8_isFull_37 : decode cX8_isFull 37 = .ok (.getfield 55, 3) := by decide +kernel
theorem dX8_isFull_40 : decode cX8_isFull 40 = .ok (.bipush 8, 2) := by decide +kernel
theorem dX8_isFull_42 : decode cX8_isFull 42 = .ok (.if_icmp .lt 7, 3) := by decide +kernel
theorem dX8_isFull_45 : decode cX8_isFull 45 = .ok (.iconst 1, 1) := by decide +kernel
theorem dX8_isFull_46 : decode cX8_isFull 46 = .ok (.goto 4, 3) := by decide +kernel
theorem dX8_isFull_49 : decode cX8_isFull 49 = .ok (.iconst 0, 1) := by decide +kernel
theorem dX8_isFull_50 : decode cX8_isFull 50 = .ok (.ireturn, 1) := by decide +kernel
theorem dX8_isFull_51 : decode cX8_isFull 51 = .ok (.aload_n 0, 1) := by decide +kernel
theorem dX8_isFull_52 : decode cX8_isFull 52 = .ok (.getfield 58, 3) := by decide +kernel
theorem dX8_isFull_55 : decode cX8_isFull 55 = .ok (.bipush 8, 2) := by decide +kernel
theorem dX8_isFull_57 : decode cX8_isFull 57 = .ok (.if_icmp .lt 7, 3) := by decide +kernel
theorem dX8_isFull_60 : decode cX8_isFull 60 = .ok (.iconst 1, 1) := by decide +kernel
theorem dX8_isFull_61 : decode cX8_isFull 61 = .ok (.goto 4, 3) := by decide +kernel
theorem dX8_isFull_64 : decode cX8_isFull 64 = .ok (.iconst 0, 1) := by decide +kernel
theorem dX8_isFull_65 : decode cX8_isFull 65 = .ok (.ireturn, 1) := by decide +kernel
theorem dX8_isFull_66 : decode cX8_isFull 66 = .ok (.aload_n 0, 1) := by decide +kernel
theorem dX8_isFull_67 : decode cX8_isFull 67 = .ok (.getfield 61, 3) := by decide +kernel
theorem dX8_isFull_70 : decode cX8_isFull 70 = .ok (.bipush 30, 2) := by decide +kernel
theorem dX8_isFull_72 : decode cX8_isFull 72 = .ok (.if_icmp .lt 7, 3) := by decide +kernel
theorem dX8_isFull_75 : decode cX8_isFull 75 = .ok (.iconst 1, 1) := by decide +kernel
theorem dX8_isFull_76 : decode cX8_isFull 76 = .ok (.goto 4, 3) := by decide +kernel
theorem dX8_isFull_79 : decode cX8_isFull 79 = .ok (.iconst 0, 1) := by decide +kernel
theorem dX8_isFull_80 : decode cX8_isFull 80 = .ok (.ireturn, 1) := by decide +kernel
theorem dX8_isFull_81 : decode cX8_isFull 81 = .ok (.aload_n 0, 1) := by decide +kernel
theorem dX8_isFull_82 : decode cX8_isFull 82 = .ok (.getfield 70, 3) := by decide +kernel
theorem dX8_isFull_85 : decode cX8_isFull 85 = .ok (.bipush 14, 2) := by decide +kernel
theorem dX8_isFull_87 : decode cX8_isFull 87 = .ok (.if_icmp .lt 7, 3) := by decide +kernel
theorem dX8_isFull_90 : decode cX8_isFull 90 = .ok (.iconst 1, 1) := by decide +kernel
theorem dX8_isFull_91 : decode cX8_isFull 91 = .ok (.goto 4, 3) := by decide +kernel
theorem dX8_isFull_94 : decode cX8_isFull 94 = .ok (.iconst 0, 1) := by decide +kernel
theorem dX8_isFull_95 : decode cX8_isFull 95 = .ok (.ireturn, 1) := by decide +kernel
theorem dX8_isFull_96 : decode cX8_isFull 96 = .ok (.iconst 0, 1) := by decide +kernel
theorem dX8_isFull_97 : decode cX8_isFull 97 = .ok (.ireturn, 1) := by decide +kernel
theorem dX8_isToldAlready_0 : decode cX8_isToldAlready 0 = .ok (.iload_n 1, 1) := by decide +kernel
theorem dX8_isToldAlready_1 : decode cX8_isToldAlready 1 = .ok (.tableswitch 114 6 9 #[31, 114, 58, 85], 31) := by decide +kernel
theorem dX8_isToldAlready_32 : decode cX8_isToldAlready 32 = .ok (.iload_n 2, 1) := by decide +kernel
theorem dX8_isToldAlready_33 : decode cX8_isToldAlready 33 = .ok (.ifCond .ne 24, 3) := by decide +kernel
theorem dX8_isToldAlready_36 : decode cX8_isToldAlready 36 = .ok (.aload_n 0, 1) := by decide +kernel
theorem dX8_isToldAlready_37 : decode cX8_isToldAlready 37 = .ok (.getfield 15, 3) := by decide +kernel
theorem dX8_isToldAlready_40 : decode cX8_isToldAlready 40 = .ok (.aload_n 0, 1) := by decide +kernel
theorem dX8_isToldAlready_41 : decode cX8_isToldAlready 41 = .ok (.getfield 55, 3) := by decide +kernel
theorem dX8_isToldAlready_44 : decode cX8_isToldAlready 44 = .ok (.aload_n 3, 1) := by decide +kernel
theorem dX8_isToldAlready_45 : decode cX8_isToldAlready 45 = .ok (.iconst 0, 1) := by decide +kernel
theorem dX8_isToldAlready_46 : decode cX8_isToldAlready 46 = .ok (.iaload, 1) := by decide +kernel
theorem dX8_isToldAlready_47 : decode cX8_isToldAlready 47 = .ok (.invokestatic 73, 3) := by decide +kernel
theorem dX8_isToldAlready_50 : decode cX8_isToldAlready 50 = .ok (.ifCond .eq 7, 3) := by decide +kernel
theorem dX8_isToldAlready_53 : decode cX8_isToldAlready 53 = .ok (.iconst 1, 1) := by decide +kernel
theorem dX8_isToldAlready_54 : decode cX8_isToldAlready 54 = .ok (.goto 4, 3) := by decide +kernel
theorem dX8_isToldAlready_57 : decode cX8_isToldAlready 57 = .ok (.iconst 0, 1) := by decide +kernel
theorem dX8_isToldAlready_58 : decode cX8_isToldAlready 58 = .ok (.ireturn, 1) := by decide +kernel
theorem dX8_isToldAlready_59 : decode cX8_isToldAlready 59 = .ok (.iload_n 2, 1) := by decide +kernel
theorem dX8_isToldAlready_60 : decode cX8_isToldAlready 60 = .ok (.ifCond .ne 24, 3) := by decide +kernel
theorem dX8_isToldAlready_63 : decode cX8_isToldAlready 63 = .ok (.aload_n 0, 1) := by decide +kernel
theorem dX8_isToldAlready_64 : decode cX8_isToldAlready 64 = .ok (.getfield 27, 3) := by decide +kernel
theorem dX8_isToldAlready_67 : decode cX8_isToldAlready 67 = .ok (.aload_n 0, 1) := by decide +kernel
theorem dX8_isToldAlready_68 : decode cX8_isToldAlready 68 = .ok (.getfield 61, 3) := by decide +kernel
theorem dX8_isToldAlready_71 : decode cX8_isToldAlready 71 = .ok (.aload_n 3, 1) := by decide +kernel
theorem dX8_isToldAlready_72 : decode cX8_isToldAlready 72 = .ok (.iconst 0, 1) := by decide +kernel
theorem dX8_isToldAlready_73 : decode cX8_isToldAlready 73 = .ok (.iaload, 1) := by decide +kernel
theorem dX8_isToldAlready_74 : decode cX8_isToldAlready 74 = .ok (.invokestatic 73, 3) := by decide +kernel
theorem dX8_isToldAlready_77 : decode cX8_isToldAlready 77 = .ok (.ifCond .eq 7, 3) := by decide +kernel
theorem dX8_isToldAlready_80 : decode cX8_isToldAlready 80 = .ok (.iconst 1, 1) := by decide +kernel
theorem dX8_isToldAlready_81 : decode cX8_isToldAlready 81 = .ok (.goto 4, 3) := by decide +kernel
theorem dX8_isToldAlready_84 : decode cX8_isToldAlready 84 = .ok (.iconst 0, 1) := by decide +kernel
theorem dX8_isToldAlready_85 : decode cX8_isToldAlready 85 = .ok (.ireturn, 1) := by decide +kernel
theorem dX8_isToldAlready_86 : decode cX8_isToldAlready 86 = .ok (.iload_n 2, 1) := by decide +kernel
theorem dX8_isToldAlready_87 : decode cX8_isToldAlready 87 = .ok (.iconst 1, 1) := by decide +kernel
theorem dX8_isToldAlready_88 : decode cX8_isToldAlready 88 = .ok (.if_icmp .ne 25, 3) := by decide +kernel
theorem dX8_isToldAlready_91 : decode cX8_isToldAlready 91 = .ok (.aload_n 0, 1) := by decide +kernel
theorem dX8_isToldAlready_92 : decode cX8_isToldAlready 92 = .ok (.getfield 33, 3) := by decide +kernel
theorem dX8_isToldAlready_95 : decode cX8_isToldAlready 95 = .ok (.aload_n 3, 1) := by decide +kernel
theorem dX8_isToldAlready_96 : decode cX8_isToldAlready 96 = .ok (.iconst 0, 1) := by decide +kernel
theorem dX8_isToldAlready_97 : decode cX8_isToldAlready 97 = .ok (.iaload, 1) := by decide +kernel
theorem dX8_isToldAlready_98 : decode cX8_isToldAlready 98 = .ok (.iconst 3, 1) := by decide +kernel
theorem dX8_isToldAlready_99 : decode cX8_isToldAlready 99 = .ok (.imul, 1) := by decide +kernel
theorem dX8_isToldAlready_100 : decode cX8_isToldAlready 100 = .ok (.aload_n 3, 1) := by decide +kernel
theorem dX8_isToldAlready_101 : decode cX8_isToldAlready 101 = .ok (.iconst 1, 1) := by decide +kernel
theorem dX8_isToldAlready_102 : decode cX8_isToldAlready 102 = .ok (.iaload, 1) := by decide +kernel
theorem dX8_isToldAlready_103 : decode cX8_isToldAlready 103 = .ok (.iadd, 1) := by decide +kernel
theorem dX8_isToldAlready_104 : decode cX8_isToldAlready 104 = .ok (.iaload, 1) := by decide +kernel
theorem dX8_isToldAlready_105 : decode cX8_isToldAlready 105 = .ok (.iconst (-1), 1) := by decide +kernel
theorem dX8_isToldAlready_106 : decode cX8_isToldAlready 106 = .ok (.if_icmp .eq 7, 3) := by decide +kernel
theorem dX8_isToldAlready_109 : decode cX8_isToldAlready 109 = .ok (.iconst 1, 1) := by decide +kernel
theorem dX8_isToldAlready_110 : decode cX8_isToldAlready 110 = .ok (.goto 4, 3) := by decide +kernel
theorem dX8_isToldAlready_113 : decode cX8_isToldAlready 113 = .ok (.iconst 0, 1) := by decide +kernel
theorem dX8_isToldAlready_114 : decode cX8_isToldAlready 114 = .ok (.ireturn, 1) := by decide +kernel
theorem dX8_isToldAlready_115 : decode cX8_isToldAlready 115 = .ok (.iconst 0, 1) := by decide +kernel
theorem dX8_isToldAlready_116 : decode cX8_isToldAlready 116 = .ok (.ireturn, 1) := by decide +kernel
theorem dX8_holds_0 : decode cX8_holds 0 = .ok (.iconst 0, 1) := by decide +kernel
theorem dX8_holds_1 : decode cX8_holds 1 = .ok (.istore_n 3, 1) := by decide +kernel
theorem dX8_holds_2 : decode cX8_holds 2 = .ok (.iload_n 3, 1) := by decide +kernel
theorem dX8_holds_3 : decode cX8_holds 3 = .ok (.iload_n 1, 1) := by decide +kernel
theorem dX8_holds_4 : decode cX8_holds 4 = .ok (.if_icmp .ge 18, 3) := by decide +kernel
theorem dX8_holds_7 : decode cX8_holds 7 = .ok (.aload_n 0, 1) := by decide +kernel
theorem dX8_holds_8 : decode cX8_holds 8 = .ok (.iload_n 3, 1) := by decide +kernel
theorem dX8_holds_9 : decode cX8_holds 9 = .ok (.iaload, 1) := by decide +kernel
theorem dX8_holds_10 : decode cX8_holds 10 = .ok (.iload_n 2, 1) := by decide +kernel
theorem dX8_holds_11 : decode cX8_holds 11 = .ok (.if_icmp .ne 5, 3) := by decide +kernel
theorem dX8_holds_14 : decode cX8_holds 14 = .ok (.iconst 1, 1) := by decide +kernel
theorem dX8_holds_15 : decode cX8_holds 15 = .ok (.ireturn, 1) := by decide +kernel
theorem dX8_holds_16 : decode cX8_holds 16 = .ok (.iinc 3 1, 3) := by decide +kernel
theorem dX8_holds_19 : decode cX8_holds 19 = .ok (.goto (-17), 3) := by decide +kernel
theorem dX8_holds_22 : decode cX8_holds 22 = .ok (.iconst 0, 1) := by decide +kernel
theorem dX8_holds_23 : decode cX8_holds 23 = .ok (.ireturn, 1) := by decide +kernel
theorem dX8_nameNextShip_0 : decode cX8_nameNextShip 0 = .ok (.aload_n 0, 1) := by decide +kernel
theorem dX8_nameNextShip_1 : decode cX8_nameNextShip 1 = .ok (.getfield 70, 3) := by decide +kernel
theorem dX8_nameNextShip_4 : decode cX8_nameNextShip 4 = .ok (.bipush 14, 2) := by decide +kernel
theorem dX8_nameNextShip_6 : decode cX8_nameNextShip 6 = .ok (.if_icmp .ge 50, 3) := by decide +kernel
theorem dX8_nameNextShip_9 : decode cX8_nameNextShip 9 = .ok (.iconst 0, 1) := by decide +kernel
theorem dX8_nameNextShip_10 : decode cX8_nameNextShip 10 = .ok (.istore 4, 2) := by decide +kernel
theorem dX8_nameNextShip_12 : decode cX8_nameNextShip 12 = .ok (.iload 4, 2) := by decide +kernel
theorem dX8_nameNextShip_14 : decode cX8_nameNextShip 14 = .ok (.bipush 8, 2) := by decide +kernel
theorem dX8_nameNextShip_16 : decode cX8_nameNextShip 16 = .ok (.if_icmp .ge 40, 3) := by decide +kernel
theorem dX8_nameNextShip_19 : decode cX8_nameNextShip 19 = .ok (.aload_n 0, 1) := by decide +kernel
theorem dX8_nameNextShip_20 : decode cX8_nameNextShip 20 = .ok (.getfield 39, 3) := by decide +kernel
theorem dX8_nameNextShip_23 : decode cX8_nameNextShip 23 = .ok (.aload_n 0, 1) := by decide +kernel
theorem dX8_nameNextShip_24 : decode cX8_nameNextShip 24 = .ok (.getfield 70, 3) := by decide +kernel
theorem dX8_nameNextShip_27 : decode cX8_nameNextShip 27 = .ok (.bipush 8, 2) := by decide +kernel
theorem dX8_nameNextShip_29 : decode cX8_nameNextShip 29 = .ok (.imul, 1) := by decide +kernel
theorem dX8_nameNextShip_30 : decode cX8_nameNextShip 30 = .ok (.iload 4, 2) := by decide +kernel
theorem dX8_nameNextShip_32 : decode cX8_nameNextShip 32 = .ok (.iadd, 1) := by decide +kernel
theorem dX8_nameNextShip_33 : decode cX8_nameNextShip 33 = .ok (.iload 4, 2) := by decide +kernel
theorem dX8_nameNextShip_35 : decode cX8_nameNextShip 35 = .ok (.iload_n 3, 1) := by decide +kernel
theorem dX8_nameNextShip_36 : decode cX8_nameNextShip 36 = .ok (.if_icmp .ge 12, 3) := by decide +kernel
theorem dX8_nameNextShip_39 : decode cX8_nameNextShip 39 = .ok (.aload_n 1, 1) := by decide +kernel
theorem dX8_nameNextShip_40 : decode cX8_nameNextShip 40 = .ok (.iload_n 2, 1) := by decide +kernel
theorem dX8_nameNextShip_41 : decode cX8_nameNextShip 41 = .ok (.iload 4, 2) := by decide +kernel
theorem dX8_nameNextShip_43 : decode cX8_nameNextShip 43 = .ok (.iadd, 1) := by decide +kernel
theorem dX8_nameNextShip_44 : decode cX8_nameNextShip 44 = .ok (.baload, 1) := by decide +kernel
theorem dX8_nameNextShip_45 : decode cX8_nameNextShip 45 = .ok (.goto 4, 3) := by decide +kernel
theorem dX8_nameNextShip_48 : decode cX8_nameNextShip 48 = .ok (.iconst 0, 1) := by decide +kernel
theorem dX8_nameNextShip_49 : decode cX8_nameNextShip 49 = .ok (.iastore, 1) := by decide +kernel
theorem dX8_nameNextShip_50 : decode cX8_nameNextShip 50 = .ok (.iinc 4 1, 3) := by decide +kernel
theorem dX8_nameNextShip_53 : decode cX8_nameNextShip 53 = .ok (.goto (-41), 3) := by decide +kernel
theorem dX8_nameNextShip_56 : decode cX8_nameNextShip 56 = .ok (.return_, 1) := by decide +kernel
theorem dX8_isNextNameToldAlready_0 : decode cX8_isNextNameToldAlready 0 = .ok (.iconst 0, 1) := by decide +kernel
theorem dX8_isNextNameToldAlready_1 : decode cX8_isNextNameToldAlready 1 = .ok (.istore_n 1, 1) := by decide +kernel
theorem dX8_isNextNameToldAlready_2 : decode cX8_isNextNameToldAlready 2 = .ok (.iload_n 1, 1) := by decide +kernel
theorem dX8_isNextNameToldAlready_3 : decode cX8_isNextNameToldAlready 3 = .ok (.aload_n 0, 1) := by decide +kernel
theorem dX8_isNextNameToldAlready_4 : decode cX8_isNextNameToldAlready 4 = .ok (.getfield 70, 3) := by decide +kernel
theorem dX8_isNextNameToldAlready_7 : decode cX8_isNextNameToldAlready 7 = .ok (.if_icmp .ge 49, 3) := by decide +kernel
theorem dX8_isNextNameToldAlready_10 : decode cX8_isNextNameToldAlready 10 = .ok (.iconst 0, 1) := by decide +kernel
theorem dX8_isNextNameToldAlready_11 : decode cX8_isNextNameToldAlready 11 = .ok (.istore_n 2, 1) := by decide +kernel
theorem dX8_isNextNameToldAlready_12 : decode cX8_isNextNameToldAlready 12 = .ok (.iload_n 2, 1) := by decide +kernel
theorem dX8_isNextNameToldAlready_13 : decode cX8_isNextNameToldAlready 13 = .ok (.bipush 8, 2) := by decide +kernel
theorem dX8_isNextNameToldAlready_15 : decode cX8_isNextNameToldAlready 15 = .ok (.if_icmp .ge 27, 3) := by decide +kernel
theorem dX8_isNextNameToldAlready_18 : decode cX8_isNextNameToldAlready 18 = .ok (.aload_n 0, 1) := by decide +kernel
theorem dX8_isNextNameToldAlready_19 : decode cX8_isNextNameToldAlready 19 = .ok (.iload_n 1, 1) := by decide +kernel
theorem dX8_isNextNameToldAlready_20 : decode cX8_isNextNameToldAlready 20 = .ok (.iload_n 2, 1) := by decide +kernel
theorem dX8_isNextNameToldAlready_21 : decode cX8_isNextNameToldAlready 21 = .ok (.invokevirtual 77, 3) := by decide +kernel
theorem dX8_isNextNameToldAlready_24 : decode cX8_isNextNameToldAlready 24 = .ok (.aload_n 0, 1) := by decide +kernel
theorem dX8_isNextNameToldAlready_25 : decode cX8_isNextNameToldAlready 25 = .ok (.aload_n 0, 1) := by decide +kernel
theorem dX8_isNextNameToldAlready_26 : decode cX8_isNextNameToldAlready 26 = .ok (.getfield 70, 3) := by decide +kernel
theorem dX8_isNextNameToldAlready_29 : decode cX8_isNextNameToldAlready 29 = .ok (.iload_n 2, 1) := by decide +kernel
theorem dX8_isNextNameToldAlready_30 : decode cX8_isNextNameToldAlready 30 = .ok (.invokevirtual 77, 3) := by decide +kernel
theorem dX8_isNextNameToldAlready_33 : decode cX8_isNextNameToldAlready 33 = .ok (.if_icmp .ne 9, 3) := by decide +kernel
theorem dX8_isNextNameToldAlready_36 : decode cX8_isNextNameToldAlready 36 = .ok (.iinc 2 1, 3) := by decide +kernel
theorem dX8_isNextNameToldAlready_39 : decode cX8_isNextNameToldAlready 39 = .ok (.goto (-27), 3) := by decide +kernel
theorem dX8_isNextNameToldAlready_42 : decode cX8_isNextNameToldAlready 42 = .ok (.iload_n 2, 1) := by decide +kernel
theorem dX8_isNextNameToldAlready_43 : decode cX8_isNextNameToldAlready 43 = .ok (.bipush 8, 2) := by decide +kernel
theorem dX8_isNextNameToldAlready_45 : decode cX8_isNextNameToldAlready 45 = .ok (.if_icmp .ne 5, 3) := by decide +kernel
theorem dX8_isNextNameToldAlready_48 : decode cX8_isNextNameToldAlready 48 = .ok (.iconst 1, 1) := by decide +kernel
theorem dX8_isNextNameToldAlready_49 : decode cX8_isNextNameToldAlready 49 = .ok (.ireturn, 1) := by decide +kernel
theorem dX8_isNextNameToldAlready_50 : decode cX8_isNextNameToldAlready 50 = .ok (.iinc 1 1, 3) := by decide +kernel
theorem dX8_isNextNameToldAlready_53 : decode cX8_isNextNameToldAlready 53 = .ok (.goto (-51), 3) := by decide +kernel
theorem dX8_isNextNameToldAlready_56 : decode cX8_isNextNameToldAlready 56 = .ok (.iconst 0, 1) := by decide +kernel
theorem dX8_isNextNameToldAlready_57 : decode cX8_isNextNameToldAlready 57 = .ok (.ireturn, 1) := by decide +kernel
theorem dX8_take_0 : decode cX8_take 0 = .ok (.iload_n 1, 1) := by decide +kernel
theorem dX8_take_1 : decode cX8_take 1 = .ok (.bipush 6, 2) := by decide +kernel
theorem dX8_take_3 : decode cX8_take 3 = .ok (.if_icmp .ge 27, 3) := by decide +kernel
theorem dX8_take_6 : decode cX8_take 6 = .ok (.aload_n 0, 1) := by decide +kernel
theorem dX8_take_7 : decode cX8_take 7 = .ok (.getfield 9, 3) := by decide +kernel
theorem dX8_take_10 : decode cX8_take 10 = .ok (.iload_n 1, 1) := by decide +kernel
theorem dX8_take_11 : decode cX8_take 11 = .ok (.aload_n 2, 1) := by decide +kernel
theorem dX8_take_12 : decode cX8_take 12 = .ok (.iconst 0, 1) := by decide +kernel
theorem dX8_take_13 : decode cX8_take 13 = .ok (.iaload, 1) := by decide +kernel
theorem dX8_take_14 : decode cX8_take 14 = .ok (.iastore, 1) := by decide +kernel
theorem dX8_take_15 : decode cX8_take 15 = .ok (.aload_n 0, 1) := by decide +kernel
theorem dX8_take_16 : decode cX8_take 16 = .ok (.dup, 1) := by decide +kernel
theorem dX8_take_17 : decode cX8_take 17 = .ok (.getfield 51, 3) := by decide +kernel
theorem dX8_take_20 : decode cX8_take 20 = .ok (.iconst 1, 1) := by decide +kernel
theorem dX8_take_21 : decode cX8_take 21 = .ok (.iload_n 1, 1) := by decide +kernel
theorem dX8_take_22 : decode cX8_take 22 = .ok (.ishl, 1) := by decide +kernel
theorem dX8_take_23 : decode cX8_take 23 = .ok (.ior, 1) := by decide +kernel
theorem dX8_take_24 : decode cX8_take 24 = .ok (.putfield 51, 3) := by decide +kernel
theorem dX8_take_27 : decode cX8_take 27 = .ok (.goto 186, 3) := by decide +kernel
theorem dX8_take_30 : decode cX8_take 30 = .ok (.iload_n 1, 1) := by decide +kernel
theorem dX8_take_31 : decode cX8_take 31 = .ok (.bipush 6, 2) := by decide +kernel
theorem dX8_take_33 : decode cX8_take 33 = .ok (.if_icmp .ne 40, 3) := by decide +kernel
theorem dX8_take_36 : decode cX8_take 36 = .ok (.aload_n 0, 1) := by decide +kernel
theorem dX8_take_37 : decode cX8_take 37 = .ok (.getfield 15, 3) := by decide +kernel
theorem dX8_take_40 : decode cX8_take 40 = .ok (.aload_n 0, 1) := by decide +kernel
theorem dX8_take_41 : decode cX8_take 41 = .ok (.getfield 55, 3) := by decide +kernel
theorem dX8_take_44 : decode cX8_take 44 = .ok (.aload_n 2, 1) := by decide +kernel
theorem dX8_take_45 : decode cX8_take 45 = .ok (.iconst 0, 1) := by decide +kernel
theorem dX8_take_46 : decode cX8_take 46 = .ok (.iaload, 1) := by decide +kernel
theorem dX8_take_47 : decode cX8_take 47 = .ok (.iastore, 1) := by decide +kernel
theorem dX8_take_48 : decode cX8_take 48 = .ok (.aload_n 0, 1) := by decide +kernel
theorem dX8_take_49 : decode cX8_take 49 = .ok (.getfield 18, 3) := by decide +kernel
theorem dX8_take_52 : decode cX8_take 52 = .ok (.aload_n 0, 1) := by decide +kernel
theorem dX8_take_53 : decode cX8_take 53 = .ok (.getfield 55, 3) := by decide +kernel
theorem dX8_take_56 : decode cX8_take 56 = .ok (.aload_n 2, 1) := by decide +kernel
theorem dX8_take_57 : decode cX8_take 57 = .ok (.iconst 1, 1) := by decide +kernel
theorem dX8_take_58 : decode cX8_take 58 = .ok (.iaload, 1) := by decide +kernel
theorem dX8_take_59 : decode cX8_take 59 = .ok (.iastore, 1) := by decide +kernel
theorem dX8_take_60 : decode cX8_take 60 = .ok (.aload_n 0, 1) := by decide +kernel
theorem dX8_take_61 : decode cX8_take 61 = .ok (.dup, 1) := by decide +kernel
theorem dX8_take_62 : decode cX8_take 62 = .ok (.getfield 55, 3) := by decide +kernel
theorem dX8_take_65 : decode cX8_take 65 = .ok (.iconst 1, 1) := by decide +kernel
theorem dX8_take_66 : decode cX8_take 66 = .ok (.iadd, 1) := by decide +kernel
theorem dX8_take_67 : decode cX8_take 67 = .ok (.putfield 55, 3) := by decide +kernel
theorem dX8_take_70 : decode cX8_take 70 = .ok (.goto 143, 3) := by decide +kernel
theorem dX8_take_73 : decode cX8_take 73 = .ok (.iload_n 1, 1) := by decide +kernel
theorem dX8_take_74 : decode cX8_take 74 = .ok (.bipush 7, 2) := by decide +kernel
theorem dX8_take_76 : decode cX8_take 76 = .ok (.if_icmp .ne 40, 3) := by decide +kernel
theorem dX8_take_79 : decode cX8_take 79 = .ok (.aload_n 0, 1) := by decide +kernel
theorem dX8_take_80 : decode cX8_take 80 = .ok (.getfield 21, 3) := by decide +kernel
theorem dX8_take_83 : decode cX8_take 83 = .ok (.aload_n 0, 1) := by decide +kernel
theorem dX8_take_84 : decode cX8_take 84 = .ok (.getfield 58, 3) := by decide +kernel
theorem dX8_take_87 : decode cX8_take 87 = .ok (.aload_n 2, 1) := by decide +kernel
theorem dX8_take_88 : decode cX8_take 88 = .ok (.iconst 0, 1) := by decide +kernel
theorem dX8_take_89 : decode cX8_take 89 = .ok (.iaload, 1) := by decide +kernel
theorem dX8_take_90 : decode cX8_take 90 = .ok (.iastore, 1) := by decide +kernel
theorem dX8_take_91 : decode cX8_take 91 = .ok (.aload_n 0, 1) := by decide +kernel
theorem dX8_take_92 : decode cX8_take 92 = .ok (.getfield 24, 3) := by decide +kernel
theorem dX8_take_95 : decode cX8_take 95 = .ok (.aload_n 0, 1) := by decide +kernel
theorem dX8_take_96 : decode cX8_take 96 = .ok (.getfield 58, 3) := by decide +kernel
theorem dX8_take_99 : decode cX8_take 99 = .ok (.aload_n 2, 1) := by decide +kernel
theorem dX8_take_100 : decode cX8_take 100 = .ok (.iconst 1, 1) := by decide +kernel
theorem dX8_take_101 : decode cX8_take 101 = .ok (.iaload, 1) := by decide +kernel
theorem dX8_take_102 : decode cX8_take 102 = .ok (.iastore, 1) := by decide +kernel
theorem dX8_take_103 : decode cX8_take 103 = .ok (.aload_n 0, 1) := by decide +kernel
theorem dX8_take_104 : decode cX8_take 104 = .ok (.dup, 1) := by decide +kernel
theorem dX8_take_105 : decode cX8_take 105 = .ok (.getfield 58, 3) := by decide +kernel
theorem dX8_take_108 : decode cX8_take 108 = .ok (.iconst 1, 1) := by decide +kernel
theorem dX8_take_109 : decode cX8_take 109 = .ok (.iadd, 1) := by decide +kernel
theorem dX8_take_110 : decode cX8_take 110 = .ok (.putfield 58, 3) := by decide +kernel
theorem dX8_take_113 : decode cX8_take 113 = .ok (.goto 100, 3) := by decide +kernel
theorem dX8_take_116 : decode cX8_take 116 = .ok (.iload_n 1, 1) := by decide +kernel
theorem dX8_take_117 : decode cX8_take 117 = .ok (.bipush 8, 2) := by decide +kernel
theorem dX8_take_119 : decode cX8_take 119 = .ok (.if_icmp .ne 40, 3) := by decide +kernel
theorem dX8_take_122 : decode cX8_take 122 = .ok (.aload_n 0, 1) := by decide +kernel
theorem dX8_take_123 : decode cX8_take 123 = .ok (.getfield 27, 3) := by decide +kernel
theorem dX8_take_126 : decode cX8_take 126 = .ok (.aload_n 0, 1) := by decide +kernel
theorem dX8_take_127 : decode cX8_take 127 = .ok (.getfield 61, 3) := by decide +kernel
theorem dX8_take_130 : decode cX8_take 130 = .ok (.aload_n 2, 1) := by decide +kernel
theorem dX8_take_131 : decode cX8_take 131 = .ok (.iconst 0, 1) := by decide +kernel
theorem dX8_take_132 : decode cX8_take 132 = .ok (.iaload, 1) := by decide +kernel
theorem dX8_take_133 : decode cX8_take 133 = .ok (.iastore, 1) := by decide +kernel
theorem dX8_take_134 : decode cX8_take 134 = .ok (.aload_n 0, 1) := by decide +kernel
theorem dX8_take_135 : decode cX8_take 135 = .ok (.getfield 30, 3) := by decide +kernel
theorem dX8_take_138 : decode cX8_take 138 = .ok (.aload_n 0, 1) := by decide +kernel
theorem dX8_take_139 : decode cX8_take 139 = .ok (.getfield 61, 3) := by decide +kernel
theorem dX8_take_142 : decode cX8_take 142 = .ok (.aload_n 2, 1) := by decide +kernel
theorem dX8_take_143 : decode cX8_take 143 = .ok (.iconst 1, 1) := by decide +kernel
theorem dX8_take_144 : decode cX8_take 144 = .ok (.iaload, 1) := by decide +kernel
theorem dX8_take_145 : decode cX8_take 145 = .ok (.iastore, 1) := by decide +kernel
theorem dX8_take_146 : decode cX8_take 146 = .ok (.aload_n 0, 1) := by decide +kernel
theorem dX8_take_147 : decode cX8_take 147 = .ok (.dup, 1) := by decide +kernel
theorem dX8_take_148 : decode cX8_take 148 = .ok (.getfield 61, 3) := by decide +kernel
theorem dX8_take_151 : decode cX8_take 151 = .ok (.iconst 1, 1) := by decide +kernel
theorem dX8_take_152 : decode cX8_take 152 = .ok (.iadd, 1) := by decide +kernel
theorem dX8_take_153 : decode cX8_take 153 = .ok (.putfield 61, 3) := by decide +kernel
theorem dX8_take_156 : decode cX8_take 156 = .ok (.goto 57, 3) := by decide +kernel
theorem dX8_take_159 : decode cX8_take 159 = .ok (.iload_n 1, 1) := by decide +kernel
theorem dX8_take_160 : decode cX8_take 160 = .ok (.bipush 9, 2) := by decide +kernel
theorem dX8_take_162 : decode cX8_take 162 = .ok (.if_icmp .ne 23, 3) := by decide +kernel
theorem dX8_take_165 : decode cX8_take 165 = .ok (.aload_n 0, 1) := by decide +kernel
theorem dX8_take_166 : decode cX8_take 166 = .ok (.getfield 33, 3) := by decide +kernel
theorem dX8_take_169 : decode cX8_take 169 = .ok (.aload_n 2, 1) := by decide +kernel
theorem dX8_take_170 : decode cX8_take 170 = .ok (.iconst 0, 1) := by decide +kernel
theorem dX8_take_171 : decode cX8_take 171 = .ok (.iaload, 1) := by decide +kernel
theorem dX8_take_172 : decode cX8_take 172 = .ok (.iconst 3, 1) := by decide +kernel
theorem dX8_take_173 : decode cX8_take 173 = .ok (.imul, 1) := by decide +kernel
theorem dX8_take_174 : decode cX8_take 174 = .ok (.aload_n 2, 1) := by decide +kernel
theorem dX8_take_175 : decode cX8_take 175 = .ok (.iconst 1, 1) := by decide +kernel
theorem dX8_take_176 : decode cX8_take 176 = .ok (.iaload, 1) := by decide +kernel
theorem dX8_take_177 : decode cX8_take 177 = .ok (.iadd, 1) := by decide +kernel
theorem dX8_take_178 : decode cX8_take 178 = .ok (.aload_n 2, 1) := by decide +kernel
theorem dX8_take_179 : decode cX8_take 179 = .ok (.iconst 2, 1) := by decide +kernel
theorem dX8_take_180 : decode cX8_take 180 = .ok (.iaload, 1) := by decide +kernel
theorem dX8_take_181 : decode cX8_take 181 = .ok (.iastore, 1) := by decide +kernel
theorem dX8_take_182 : decode cX8_take 182 = .ok (.goto 31, 3) := by decide +kernel
theorem dX8_take_185 : decode cX8_take 185 = .ok (.aload_n 2, 1) := by decide +kernel
theorem dX8_take_186 : decode cX8_take 186 = .ok (.iconst 0, 1) := by decide +kernel
theorem dX8_take_187 : decode cX8_take 187 = .ok (.aload_n 0, 1) := by decide +kernel
theorem dX8_take_188 : decode cX8_take 188 = .ok (.getfield 36, 3) := by decide +kernel
theorem dX8_take_191 : decode cX8_take 191 = .ok (.aload_n 0, 1) := by decide +kernel
theorem dX8_take_192 : decode cX8_take 192 = .ok (.getfield 70, 3) := by decide +kernel
theorem dX8_take_195 : decode cX8_take 195 = .ok (.bipush 9, 2) := by decide +kernel
theorem dX8_take_197 : decode cX8_take 197 = .ok (.imul, 1) := by decide +kernel
theorem dX8_take_198 : decode cX8_take 198 = .ok (.bipush 9, 2) := by decide +kernel
theorem dX8_take_200 : decode cX8_take 200 = .ok (.invokestatic 45, 3) := by decide +kernel
theorem dX8_take_203 : decode cX8_take 203 = .ok (.aload_n 0, 1) := by decide +kernel
theorem dX8_take_204 : decode cX8_take 204 = .ok (.dup, 1) := by decide +kernel
theorem dX8_take_205 : decode cX8_take 205 = .ok (.getfield 70, 3) := by decide +kernel
theorem dX8_take_208 : decode cX8_take 208 = .ok (.iconst 1, 1) := by decide +kernel
theorem dX8_take_209 : decode cX8_take 209 = .ok (.iadd, 1) := by decide +kernel
theorem dX8_take_210 : decode cX8_take 210 = .ok (.putfield 70, 3) := by decide +kernel
theorem dX8_take_213 : decode cX8_take 213 = .ok (.return_, 1) := by decide +kernel
theorem dX8_contractOf_0 : decode cX8_contractOf 0 = .ok (.aload_n 0, 1) := by decide +kernel
theorem dX8_contractOf_1 : decode cX8_contractOf 1 = .ok (.getfield 36, 3) := by decide +kernel
theorem dX8_contractOf_4 : decode cX8_contractOf 4 = .ok (.iload_n 1, 1) := by decide +kernel
theorem dX8_contractOf_5 : decode cX8_contractOf 5 = .ok (.bipush 9, 2) := by decide +kernel
theorem dX8_contractOf_7 : decode cX8_contractOf 7 = .ok (.imul, 1) := by decide +kernel
theorem dX8_contractOf_8 : decode cX8_contractOf 8 = .ok (.iload_n 2, 1) := by decide +kernel
theorem dX8_contractOf_9 : decode cX8_contractOf 9 = .ok (.iadd, 1) := by decide +kernel
theorem dX8_contractOf_10 : decode cX8_contractOf 10 = .ok (.iaload, 1) := by decide +kernel
theorem dX8_contractOf_11 : decode cX8_contractOf 11 = .ok (.ireturn, 1) := by decide +kernel
theorem dX8_nameByte_0 : decode cX8_nameByte 0 = .ok (.iload_n 1, 1) := by decide +kernel
theorem dX8_nameByte_1 : decode cX8_nameByte 1 = .ok (.bipush 14, 2) := by decide +kernel
theorem dX8_nameByte_3 : decode cX8_nameByte 3 = .ok (.if_icmp .ge 17, 3) := by decide +kernel
theorem dX8_nameByte_6 : decode cX8_nameByte 6 = .ok (.aload_n 0, 1) := by decide +kernel
theorem dX8_nameByte_7 : decode cX8_nameByte 7 = .ok (.getfield 39, 3) := by decide +kernel
theorem dX8_nameByte_10 : decode cX8_nameByte 10 = .ok (.iload_n 1, 1) := by decide +kernel
theorem dX8_nameByte_11 : decode cX8_nameByte 11 = .ok (.bipush 8, 2) := by decide +kernel
theorem dX8_nameByte_13 : decode cX8_nameByte 13 = .ok (.imul, 1) := by decide +kernel
theorem dX8_nameByte_14 : decode cX8_nameByte 14 = .ok (.iload_n 2, 1) := by decide +kernel
theorem dX8_nameByte_15 : decode cX8_nameByte 15 = .ok (.iadd, 1) := by decide +kernel
theorem dX8_nameByte_16 : decode cX8_nameByte 16 = .ok (.iaload, 1) := by decide +kernel
theorem dX8_nameByte_17 : decode cX8_nameByte 17 = .ok (.goto 4, 3) := by decide +kernel
theorem dX8_nameByte_20 : decode cX8_nameByte 20 = .ok (.iconst 0, 1) := by decide +kernel
theorem dX8_nameByte_21 : decode cX8_nameByte 21 = .ok (.ireturn, 1) := by decide +kernel
theorem dX8_gangsIn_0 : decode cX8_gangsIn 0 = .ok (.aload_n 0, 1) := by decide +kernel
theorem dX8_gangsIn_1 : decode cX8_gangsIn 1 = .ok (.getfield 33, 3) := by decide +kernel
theorem dX8_gangsIn_4 : decode cX8_gangsIn 4 = .ok (.iload_n 1, 1) := by decide +kernel
theorem dX8_gangsIn_5 : decode cX8_gangsIn 5 = .ok (.iaload, 1) := by decide +kernel
theorem dX8_gangsIn_6 : decode cX8_gangsIn 6 = .ok (.iconst (-1), 1) := by decide +kernel
theorem dX8_gangsIn_7 : decode cX8_gangsIn 7 = .ok (.if_icmp .ne 10, 3) := by decide +kernel
theorem dX8_gangsIn_10 : decode cX8_gangsIn 10 = .ok (.aload_n 0, 1) := by decide +kernel
theorem dX8_gangsIn_11 : decode cX8_gangsIn 11 = .ok (.getfield 58, 3) := by decide +kernel
theorem dX8_gangsIn_14 : decode cX8_gangsIn 14 = .ok (.goto 9, 3) := by decide +kernel
theorem dX8_gangsIn_17 : decode cX8_gangsIn 17 = .ok (.aload_n 0, 1) := by decide +kernel
theorem dX8_gangsIn_18 : decode cX8_gangsIn 18 = .ok (.getfield 33, 3) := by decide +kernel
theorem dX8_gangsIn_21 : decode cX8_gangsIn 21 = .ok (.iload_n 1, 1) := by decide +kernel
theorem dX8_gangsIn_22 : decode cX8_gangsIn 22 = .ok (.iaload, 1) := by decide +kernel
theorem dX8_gangsIn_23 : decode cX8_gangsIn 23 = .ok (.ireturn, 1) := by decide +kernel
theorem dX8_depthOf_0 : decode cX8_depthOf 0 = .ok (.iconst (-1), 1) := by decide +kernel
theorem dX8_depthOf_1 : decode cX8_depthOf 1 = .ok (.istore_n 2, 1) := by decide +kernel
theorem dX8_depthOf_2 : decode cX8_depthOf 2 = .ok (.bipush 100, 2) := by decide +kernel
theorem dX8_depthOf_4 : decode cX8_depthOf 4 = .ok (.istore_n 3, 1) := by decide +kernel
theorem dX8_depthOf_5 : decode cX8_depthOf 5 = .ok (.iconst 0, 1) := by decide +kernel
theorem dX8_depthOf_6 : decode cX8_depthOf 6 = .ok (.istore 4, 2) := by decide +kernel
theorem dX8_depthOf_8 : decode cX8_depthOf 8 = .ok (.iload 4, 2) := by decide +kernel
theorem dX8_depthOf_10 : decode cX8_depthOf 10 = .ok (.aload_n 0, 1) := by decide +kernel
theorem dX8_depthOf_11 : decode cX8_depthOf 11 = .ok (.getfield 55, 3) := by decide +kernel
theorem dX8_depthOf_14 : decode cX8_depthOf 14 = .ok (.if_icmp .ge 47, 3) := by decide +kernel
theorem dX8_depthOf_17 : decode cX8_depthOf 17 = .ok (.aload_n 0, 1) := by decide +kernel
theorem dX8_depthOf_18 : decode cX8_depthOf 18 = .ok (.getfield 15, 3) := by decide +kernel
theorem dX8_depthOf_21 : decode cX8_depthOf 21 = .ok (.iload 4, 2) := by decide +kernel
theorem dX8_depthOf_23 : decode cX8_depthOf 23 = .ok (.iaload, 1) := by decide +kernel
theorem dX8_depthOf_24 : decode cX8_depthOf 24 = .ok (.iload_n 1, 1) := by decide +kernel
theorem dX8_depthOf_25 : decode cX8_depthOf 25 = .ok (.if_icmp .gt 30, 3) := by decide +kernel
theorem dX8_depthOf_28 : decode cX8_depthOf 28 = .ok (.aload_n 0, 1) := by decide +kernel
theorem dX8_depthOf_29 : decode cX8_depthOf 29 = .ok (.getfield 15, 3) := by decide +kernel
theorem dX8_depthOf_32 : decode cX8_depthOf 32 = .ok (.iload 4, 2) := by decide +kernel
theorem dX8_depthOf_34 : decode cX8_depthOf 34 = .ok (.iaload, 1) := by decide +kernel
theorem dX8_depthOf_35 : decode cX8_depthOf 35 = .ok (.iload_n 2, 1) := by decide +kernel
theorem dX8_depthOf_36 : decode cX8_depthOf 36 = .ok (.if_icmp .le 19, 3) := by decide +kernel
theorem dX8_depthOf_39 : decode cX8_depthOf 39 = .ok (.aload_n 0, 1) := by decide +kernel
theorem dX8_depthOf_40 : decode cX8_depthOf 40 = .ok (.getfield 15, 3) := by decide +kernel
theorem dX8_depthOf_43 : decode cX8_depthOf 43 = .ok (.iload 4, 2) := by decide +kernel
theorem dX8_depthOf_45 : decode cX8_depthOf 45 = .ok (.iaload, 1) := by decide +kernel
theorem dX8_depthOf_46 : decode cX8_depthOf 46 = .ok (.istore_n 2, 1) := by decide +kernel
theorem dX8_depthOf_47 : decode cX8_depthOf 47 = .ok (.aload_n 0, 1) := by decide +kernel
theorem dX8_depthOf_48 : decode cX8_depthOf 48 = .ok (.getfield 18, 3) := by decide +kernel
theorem dX8_depthOf_51 : decode cX8_depthOf 51 = .ok (.iload 4, 2) := by decide +kernel
theorem dX8_depthOf_53 : decode cX8_depthOf 53 = .ok (.iaload, 1) := by decide +kernel
theorem dX8_depthOf_54 : decode cX8_depthOf 54 = .ok (.istore_n 3, 1) := by decide +kernel
theorem dX8_depthOf_55 : decode cX8_depthOf 55 = .ok (.iinc 4 1, 3) := by decide +kernel
theorem dX8_depthOf_58 : decode cX8_depthOf 58 = .ok (.goto (-50), 3) := by decide +kernel
theorem dX8_depthOf_61 : decode cX8_depthOf 61 = .ok (.iload_n 3, 1) := by decide +kernel
theorem dX8_depthOf_62 : decode cX8_depthOf 62 = .ok (.ireturn, 1) := by decide +kernel
theorem dX8_shallowest_0 : decode cX8_shallowest 0 = .ok (.aload_n 0, 1) := by decide +kernel
theorem dX8_shallowest_1 : decode cX8_shallowest 1 = .ok (.iload_n 1, 1) := by decide +kernel
theorem dX8_shallowest_2 : decode cX8_shallowest 2 = .ok (.invokevirtual 81, 3) := by decide +kernel
theorem dX8_shallowest_5 : decode cX8_shallowest 5 = .ok (.istore_n 3, 1) := by decide +kernel
theorem dX8_shallowest_6 : decode cX8_shallowest 6 = .ok (.iconst 0, 1) := by decide +kernel
theorem dX8_shallowest_7 : decode cX8_shallowest 7 = .ok (.istore 4, 2) := by decide +kernel
theorem dX8_shallowest_9 : decode cX8_shallowest 9 = .ok (.iload 4, 2) := by decide +kernel
theorem dX8_shallowest_11 : decode cX8_shallowest 11 = .ok (.aload_n 0, 1) := by decide +kernel
theorem dX8_shallowest_12 : decode cX8_shallowest 12 = .ok (.getfield 55, 3) := by decide +kernel
theorem dX8_shallowest_15 : decode cX8_shallowest 15 = .ok (.if_icmp .ge 43, 3) := by decide +kernel
theorem dX8_shallowest_18 : decode cX8_shallowest 18 = .ok (.aload_n 0, 1) := by decide +kernel
theorem dX8_shallowest_19 : decode cX8_shallowest 19 = .ok (.getfield 15, 3) := by decide +kernel
theorem dX8_shallowest_22 : decode cX8_shallowest 22 = .ok (.iload 4, 2) := by decide +kernel
theorem dX8_shallowest_24 : decode cX8_shallowest 24 = .ok (.iaload, 1) := by decide +kernel
theorem dX8_shallowest_25 : decode cX8_shallowest 25 = .ok (.iload_n 1, 1) := by decide +kernel
theorem dX8_shallowest_26 : decode cX8_shallowest 26 = .ok (.if_icmp .le 26, 3) := by decide +kernel
theorem dX8_shallowest_29 : decode cX8_shallowest 29 = .ok (.aload_n 0, 1) := by decide +kernel
theorem dX8_shallowest_30 : decode cX8_shallowest 30 = .ok (.getfield 15, 3) := by decide +kernel
theorem dX8_shallowest_33 : decode cX8_shallowest 33 = .ok (.iload 4, 2) := by decide +kernel
theorem dX8_shallowest_35 : decode cX8_shallowest 35 = .ok (.iaload, 1) := by decide +kernel
theorem dX8_shallowest_36 : decode cX8_shallowest 36 = .ok (.iload_n 2, 1) := by decide +kernel
theorem dX8_shallowest_37 : decode cX8_shallowest 37 = .ok (.if_icmp .gt 15, 3) := by decide +kernel
theorem dX8_shallowest_40 : decode cX8_shallowest 40 = .ok (.iload_n 3, 1) := by decide +kernel
theorem dX8_shallowest_41 : decode cX8_shallowest 41 = .ok (.aload_n 0, 1) := by decide +kernel
theorem dX8_shallowest_42 : decode cX8_shallowest 42 = .ok (.getfield 18, 3) := by decide +kernel
theorem dX8_shallowest_45 : decode cX8_shallowest 45 = .ok (.iload 4, 2) := by decide +kernel
theorem dX8_shallowest_47 : decode cX8_shallowest 47 = .ok (.iaload, 1) := by decide +kernel
theorem dX8_shallowest_48 : decode cX8_shallowest 48 = .ok (.invokestatic 85, 3) := by decide +kernel
theorem dX8_shallowest_51 : decode cX8_shallowest 51 = .ok (.istore_n 3, 1) := by decide +kernel
theorem dX8_shallowest_52 : decode cX8_shallowest 52 = .ok (.iinc 4 1, 3) := by decide +kernel
theorem dX8_shallowest_55 : decode cX8_shallowest 55 = .ok (.goto (-46), 3) := by decide +kernel
theorem dX8_shallowest_58 : decode cX8_shallowest 58 = .ok (.iload_n 3, 1) := by decide +kernel
theorem dX8_shallowest_59 : decode cX8_shallowest 59 = .ok (.ireturn, 1) := by decide +kernel
theorem dX8_movesWith_0 : decode cX8_movesWith 0 = .ok (.iload_n 1, 1) := by decide +kernel
theorem dX8_movesWith_1 : decode cX8_movesWith 1 = .ok (.iload_n 1, 1) := by decide +kernel
theorem dX8_movesWith_2 : decode cX8_movesWith 2 = .ok (.aload_n 0, 1) := by decide +kernel
theorem dX8_movesWith_3 : decode cX8_movesWith 3 = .ok (.getfield 9, 3) := by decide +kernel
theorem dX8_movesWith_6 : decode cX8_movesWith 6 = .ok (.iconst 4, 1) := by decide +kernel
theorem dX8_movesWith_7 : decode cX8_movesWith 7 = .ok (.iaload, 1) := by decide +kernel
theorem dX8_movesWith_8 : decode cX8_movesWith 8 = .ok (.imul, 1) := by decide +kernel
theorem dX8_movesWith_9 : decode cX8_movesWith 9 = .ok (.bipush 100, 2) := by decide +kernel
theorem dX8_movesWith_11 : decode cX8_movesWith 11 = .ok (.aload_n 0, 1) := by decide +kernel
theorem dX8_movesWith_12 : decode cX8_movesWith 12 = .ok (.getfield 9, 3) := by decide +kernel
theorem dX8_movesWith_15 : decode cX8_movesWith 15 = .ok (.iconst 5, 1) := by decide +kernel
theorem dX8_movesWith_16 : decode cX8_movesWith 16 = .ok (.iaload, 1) := by decide +kernel
theorem dX8_movesWith_17 : decode cX8_movesWith 17 = .ok (.iload_n 1, 1) := by decide +kernel
theorem dX8_movesWith_18 : decode cX8_movesWith 18 = .ok (.iconst 1, 1) := by decide +kernel
theorem dX8_movesWith_19 : decode cX8_movesWith 19 = .ok (.isub, 1) := by decide +kernel
theorem dX8_movesWith_20 : decode cX8_movesWith 20 = .ok (.imul, 1) := by decide +kernel
theorem dX8_movesWith_21 : decode cX8_movesWith 21 = .ok (.isub, 1) := by decide +kernel
theorem dX8_movesWith_22 : decode cX8_movesWith 22 = .ok (.imul, 1) := by decide +kernel
theorem dX8_movesWith_23 : decode cX8_movesWith 23 = .ok (.bipush 100, 2) := by decide +kernel
theorem dX8_movesWith_25 : decode cX8_movesWith 25 = .ok (.idiv, 1) := by decide +kernel
theorem dX8_movesWith_26 : decode cX8_movesWith 26 = .ok (.invokestatic 90, 3) := by decide +kernel
theorem dX8_movesWith_29 : decode cX8_movesWith 29 = .ok (.ireturn, 1) := by decide +kernel
theorem dX8_workWith_0 : decode cX8_workWith 0 = .ok (.iconst 1, 1) := by decide +kernel
theorem dX8_workWith_1 : decode cX8_workWith 1 = .ok (.aload_n 0, 1) := by decide +kernel
theorem dX8_workWith_2 : decode cX8_workWith 2 = .ok (.iload_n 2, 1) := by decide +kernel
theorem dX8_workWith_3 : decode cX8_workWith 3 = .ok (.invokevirtual 93, 3) := by decide +kernel
theorem dX8_workWith_6 : decode cX8_workWith 6 = .ok (.invokestatic 90, 3) := by decide +kernel
theorem dX8_workWith_9 : decode cX8_workWith 9 = .ok (.istore_n 3, 1) := by decide +kernel
theorem dX8_workWith_10 : decode cX8_workWith 10 = .ok (.iconst 1, 1) := by decide +kernel
theorem dX8_workWith_11 : decode cX8_workWith 11 = .ok (.aload_n 0, 1) := by decide +kernel
theorem dX8_workWith_12 : decode cX8_workWith 12 = .ok (.iload_n 1, 1) := by decide +kernel
theorem dX8_workWith_13 : decode cX8_workWith 13 = .ok (.iconst 3, 1) := by decide +kernel
theorem dX8_workWith_14 : decode cX8_workWith 14 = .ok (.invokevirtual 96, 3) := by decide +kernel
theorem dX8_workWith_17 : decode cX8_workWith 17 = .ok (.iload_n 3, 1) := by decide +kernel
theorem dX8_workWith_18 : decode cX8_workWith 18 = .ok (.iadd, 1) := by decide +kernel
theorem dX8_workWith_19 : decode cX8_workWith 19 = .ok (.iconst 1, 1) := by decide +kernel
theorem dX8_workWith_20 : decode cX8_workWith 20 = .ok (.isub, 1) := by decide +kernel
theorem dX8_workWith_21 : decode cX8_workWith 21 = .ok (.iload_n 3, 1) := by decide +kernel
theorem dX8_workWith_22 : decode cX8_workWith 22 = .ok (.idiv, 1) := by decide +kernel
theorem dX8_workWith_23 : decode cX8_workWith 23 = .ok (.invokestatic 90, 3) := by decide +kernel
theorem dX8_workWith_26 : decode cX8_workWith 26 = .ok (.ireturn, 1) := by decide +kernel
theorem dX8_waterNeededBy_0 : decode cX8_waterNeededBy 0 = .ok (.aload_n 0, 1) := by decide +kernel
theorem dX8_waterNeededBy_1 : decode cX8_waterNeededBy 1 = .ok (.getfield 9, 3) := by decide +kernel
theorem dX8_waterNeededBy_4 : decode cX8_waterNeededBy 4 = .ok (.iconst 2, 1) := by decide +kernel
theorem dX8_waterNeededBy_5 : decode cX8_waterNeededBy 5 = .ok (.iaload, 1) := by decide +kernel
theorem dX8_waterNeededBy_6 : decode cX8_waterNeededBy 6 = .ok (.aload_n 0, 1) := by decide +kernel
theorem dX8_waterNeededBy_7 : decode cX8_waterNeededBy 7 = .ok (.iload_n 1, 1) := by decide +kernel
theorem dX8_waterNeededBy_8 : decode cX8_waterNeededBy 8 = .ok (.iconst 1, 1) := by decide +kernel
theorem dX8_waterNeededBy_9 : decode cX8_waterNeededBy 9 = .ok (.invokevirtual 96, 3) := by decide +kernel
theorem dX8_waterNeededBy_12 : decode cX8_waterNeededBy 12 = .ok (.aload_n 0, 1) := by decide +kernel
theorem dX8_waterNeededBy_13 : decode cX8_waterNeededBy 13 = .ok (.iload_n 1, 1) := by decide +kernel
theorem dX8_waterNeededBy_14 : decode cX8_waterNeededBy 14 = .ok (.iconst 2, 1) := by decide +kernel
theorem dX8_waterNeededBy_15 : decode cX8_waterNeededBy 15 = .ok (.invokevirtual 96, 3) := by decide +kernel
theorem dX8_waterNeededBy_18 : decode cX8_waterNeededBy 18 = .ok (.invokestatic 90, 3) := by decide +kernel
theorem dX8_waterNeededBy_21 : decode cX8_waterNeededBy 21 = .ok (.iadd, 1) := by decide +kernel
theorem dX8_waterNeededBy_22 : decode cX8_waterNeededBy 22 = .ok (.ireturn, 1) := by decide +kernel
theorem dX9_init_0 : decode cX9_init 0 = .ok (.aload_n 0, 1) := by decide +kernel
theorem dX9_init_1 : decode cX9_init 1 = .ok (.invokespecial 3, 3) := by decide +kernel
theorem dX9_init_4 : decode cX9_init 4 = .ok (.aload_n 0, 1) := by decide +kernel
theorem dX9_init_5 : decode cX9_init 5 = .ok (.sipush 336, 3) := by decide +kernel
theorem dX9_init_8 : decode cX9_init 8 = .ok (.newarray .int, 2) := by decide +kernel
theorem dX9_init_10 : decode cX9_init 10 = .ok (.putfield 9, 3) := by decide +kernel
theorem dX9_init_13 : decode cX9_init 13 = .ok (.aload_n 0, 1) := by decide +kernel
theorem dX9_init_14 : decode cX9_init 14 = .ok (.aload_n 1, 1) := by decide +kernel
theorem dX9_init_15 : decode cX9_init 15 = .ok (.putfield 15, 3) := by decide +kernel
theorem dX9_init_18 : decode cX9_init 18 = .ok (.return_, 1) := by decide +kernel
theorem dX9_reckon_0 : decode cX9_reckon 0 = .ok (.iconst 0, 1) := by decide +kernel
theorem dX9_reckon_1 : decode cX9_reckon 1 = .ok (.istore_n 1, 1) := by decide +kernel
theorem dX9_reckon_2 : decode cX9_reckon 2 = .ok (.iload_n 1, 1) := by decide +kernel
theorem dX9_reckon_3 : decode cX9_reckon 3 = .ok (.sipush 336, 3) := by decide +kernel
theorem dX9_reckon_6 : decode cX9_reckon 6 = .ok (.if_icmp .ge 20, 3) := by decide +kernel
theorem dX9_reckon_9 : decode cX9_reckon 9 = .ok (.aload_n 0, 1) := by decide +kernel
theorem dX9_reckon_10 : decode cX9_reckon 10 = .ok (.getfield 9, 3) := by decide +kernel
theorem dX9_reckon_13 : decode cX9_reckon 13 = .ok (.iload_n 1, 1) := by decide +kernel
theorem dX9_reckon_14 : decode cX9_reckon 14 = .ok (.aload_n 0, 1) := by decide +kernel
theorem dX9_reckon_15 : decode cX9_reckon 15 = .ok (.iload_n 1, 1) := by decide +kernel
theorem dX9_reckon_16 : decode cX9_reckon 16 = .ok (.invokevirtual 19, 3) := by decide +kernel
theorem dX9_reckon_19 : decode cX9_reckon 19 = .ok (.iastore, 1) := by decide +kernel
theorem dX9_reckon_20 : decode cX9_reckon 20 = .ok (.iinc 1 1, 3) := by decide +kernel
theorem dX9_reckon_23 : decode cX9_reckon 23 = .ok (.goto (-21), 3) := by decide +kernel
theorem dX9_reckon_26 : decode cX9_reckon 26 = .ok (.return_, 1) := by decide +kernel
theorem dX9_levelAt_0 : decode cX9_levelAt 0 = .ok (.iconst (-1), 1) := by decide +kernel
theorem dX9_levelAt_1 : decode cX9_levelAt 1 = .ok (.istore_n 2, 1) := by decide +kernel
theorem dX9_levelAt_2 : decode cX9_levelAt 2 = .ok (.iconst (-1), 1) := by decide +kernel
theorem dX9_levelAt_3 : decode cX9_levelAt 3 = .ok (.istore_n 3, 1) := by decide +kernel
theorem dX9_levelAt_4 : decode cX9_levelAt 4 = .ok (.iconst 0, 1) := by decide +kernel
theorem dX9_levelAt_5 : decode cX9_levelAt 5 = .ok (.istore 4, 2) := by decide +kernel
theorem dX9_levelAt_7 : decode cX9_levelAt 7 = .ok (.iload 4, 2) := by decide +kernel
theorem dX9_levelAt_9 : decode cX9_levelAt 9 = .ok (.aload_n 0, 1) := by decide +kernel
theorem dX9_levelAt_10 : decode cX9_levelAt 10 = .ok (.getfield 15, 3) := by decide +kernel
theorem dX9_levelAt_13 : decode cX9_levelAt 13 = .ok (.getfield 23, 3) := by decide +kernel
theorem dX9_levelAt_16 : decode cX9_levelAt 16 = .ok (.if_icmp .ge 77, 3) := by decide +kernel
theorem dX9_levelAt_19 : decode cX9_levelAt 19 = .ok (.aload_n 0, 1) := by decide +kernel
theorem dX9_levelAt_20 : decode cX9_levelAt 20 = .ok (.getfield 15, 3) := by decide +kernel
theorem dX9_levelAt_23 : decode cX9_levelAt 23 = .ok (.getfield 29, 3) := by decide +kernel
theorem dX9_levelAt_26 : decode cX9_levelAt 26 = .ok (.iload 4, 2) := by decide +kernel
theorem dX9_levelAt_28 : decode cX9_levelAt 28 = .ok (.iaload, 1) := by decide +kernel
theorem dX9_levelAt_29 : decode cX9_levelAt 29 = .ok (.istore 5, 2) := by decide +kernel
theorem dX9_levelAt_31 : decode cX9_levelAt 31 = .ok (.iload 5, 2) := by decide +kernel
theorem dX9_levelAt_33 : decode cX9_levelAt 33 = .ok (.iload_n 1, 1) := by decide +kernel
theorem dX9_levelAt_34 : decode cX9_levelAt 34 = .ok (.if_icmp .gt 25, 3) := by decide +kernel
theorem dX9_levelAt_37 : decode cX9_levelAt 37 = .ok (.iload_n 2, 1) := by decide +kernel
theorem dX9_levelAt_38 : decode cX9_levelAt 38 = .ok (.iconst (-1), 1) := by decide +kernel
theorem dX9_levelAt_39 : decode cX9_levelAt 39 = .ok (.if_icmp .eq 17, 3) := by decide +kernel
theorem dX9_levelAt_42 : decode cX9_levelAt 42 = .ok (.iload 5, 2) := by decide +kernel
theorem dX9_levelAt_44 : decode cX9_levelAt 44 = .ok (.aload_n 0, 1) := by decide +kernel
theorem dX9_levelAt_45 : decode cX9_levelAt 45 = .ok (.getfield 15, 3) := by decide +kernel
theorem dX9_levelAt_48 : decode cX9_levelAt 48 = .ok (.getfield 29, 3) := by decide +kernel
theorem dX9_levelAt_51 : decode cX9_levelAt 51 = .ok (.iload_n 2, 1) := by decide +kernel
theorem dX9_levelAt_52 : decode cX9_levelAt 52 = .ok (.iaload, 1) := by decide +kernel
theorem dX9_levelAt_53 : decode cX9_levelAt 53 = .ok (.if_icmp .le 6, 3) := by decide +kernel
theorem dX9_levelAt_56 : decode cX9_levelAt 56 = .ok (.iload 4, 2) := by decide +kernel
theorem dX9_levelAt_58 : decode cX9_levelAt 58 = .ok (.istore_n 2, 1) := by decide +kernel
theorem dX9_levelAt_59 : decode cX9_levelAt 59 = .ok (.iload 5, 2) := by decide +kernel
theorem dX9_levelAt_61 : decode cX9_levelAt 61 = .ok (.iload_n 1, 1) := by decide +kernel
theorem dX9_levelAt_62 : decode cX9_levelAt 62 = .ok (.if_icmp .le 25, 3) := by decide +kernel
theorem dX9_levelAt_65 : decode cX9_levelAt 65 = .ok (.iload_n 3, 1) := by decide +kernel
theorem dX9_levelAt_66 : decode cX9_levelAt 66 = .ok (.iconst (-1), 1) := by decide +kernel
theorem dX9_levelAt_67 : decode cX9_levelAt 67 = .ok (.if_icmp .eq 17, 3) := by decide +kernel
theorem dX9_levelAt_70 : decode cX9_levelAt 70 = .ok (.iload 5, 2) := by decide +kernel
theorem dX9_levelAt_72 : decode cX9_levelAt 72 = .ok (.aload_n 0, 1) := by decide +kernel
theorem dX9_levelAt_73 : decode cX9_levelAt 73 = .ok (.getfield 15, 3) := by decide +kernel
theorem dX9_levelAt_76 : decode cX9_levelAt 76 = .ok (.getfield 29, 3) := by decide +kernel
theorem dX9_levelAt_79 : decode cX9_levelAt 79 = .ok (.iload_n 3, 1) := by decide +kernel
theorem dX9_levelAt_80 : decode cX9_levelAt 80 = .ok (.iaload, 1) := by decide +kernel
theorem dX9_levelAt_81 : decode cX9_levelAt 81 = .ok (.if_icmp .ge 6, 3) := by decide +kernel
theorem dX9_levelAt_84 : decode cX9_levelAt 84 = .ok (.iload 4, 2) := by decide +kernel
theorem dX9_levelAt_86 : decode cX9_levelAt 86 = .ok (.istore_n 3, 1) := by decide +kernel
theorem dX9_levelAt_87 : decode cX9_levelAt 87 = .ok (.iinc 4 1, 3) := by decide +kernel
theorem dX9_levelAt_90 : decode cX9_levelAt 90 = .ok (.goto (-83), 3) := by decide +kernel
theorem dX9_levelAt_93 : decode cX9_levelAt 93 = .ok (.iload_n 2, 1) := by decide +kernel
theorem dX9_levelAt_94 : decode cX9_levelAt 94 = .ok (.iconst (-1), 1) := by decide +kernel
theorem dX9_levelAt_95 : decode cX9_levelAt 95 = .ok (.if_icmp .ne 22, 3) := by decide +kernel
theorem dX9_levelAt_98 : decode cX9_levelAt 98 = .ok (.iload_n 3, 1) := by decide +kernel
theorem dX9_levelAt_99 : decode cX9_levelAt 99 = .ok (.iconst (-1), 1) := by decide +kernel
theorem dX9_levelAt_100 : decode cX9_levelAt 100 = .ok (.if_icmp .ne 7, 3) := by decide +kernel
theorem dX9_levelAt_103 : decode cX9_levelAt 103 = .ok (.iconst 0, 1) := by decide +kernel
theorem dX9_levelAt_104 : decode cX9_levelAt 104 = .ok (.goto 12, 3) := by decide +kernel
theorem dX9_levelAt_107 : decode cX9_levelAt 107 = .ok (.aload_n 0, 1) := by decide +kernel
theorem dX9_levelAt_108 : decode cX9_levelAt 108 = .ok (.getfield 15, 3) := by decide +kernel
theorem dX9_levelAt_111 : decode cX9_levelAt 111 = .ok (.getfield 32, 3) := by decide +kernel
theorem dX9_levelAt_114 : decode cX9_levelAt 114 = .ok (.iload_n 3, 1) := by decide +kernel
theorem dX9_levelAt_115 : decode cX9_levelAt 115 = .ok (.iaload, 1) := by decide +kernel
theorem dX9_levelAt_116 : decode cX9_levelAt 116 = .ok (.ireturn, 1) := by decide +kernel
theorem dX9_levelAt_117 : decode cX9_levelAt 117 = .ok (.iload_n 3, 1) := by decide +kernel
theorem dX9_levelAt_118 : decode cX9_levelAt 118 = .ok (.iconst (-1), 1) := by decide +kernel
theorem dX9_levelAt_119 : decode cX9_levelAt 119 = .ok (.if_icmp .ne 15, 3) := by decide +kernel
theorem dX9_levelAt_122 : decode cX9_levelAt 122 = .ok (.aload_n 0, 1) := by decide +kernel
theorem dX9_levelAt_123 : decode cX9_levelAt 123 = .ok (.getfield 15, 3) := by decide +kernel
theorem dX9_levelAt_126 : decode cX9_levelAt 126 = .ok (.getfield 32, 3) := by decide +kernel
theorem dX9_levelAt_129 : decode cX9_levelAt 129 = .ok (.iload_n 2, 1) := by decide +kernel
theorem dX9_levelAt_130 : decode cX9_levelAt 130 = .ok (.iaload, 1) := by decide +kernel
theorem dX9_levelAt_131 : decode cX9_levelAt 131 = .ok (.goto 10, 3) := by decide +kernel
theorem dX9_levelAt_134 : decode cX9_levelAt 134 = .ok (.aload_n 0, 1) := by decide +kernel
theorem dX9_levelAt_135 : decode cX9_levelAt 135 = .ok (.iload_n 2, 1) := by decide +kernel
theorem dX9_levelAt_136 : decode cX9_levelAt 136 = .ok (.iload_n 3, 1) := by decide +kernel
theorem dX9_levelAt_137 : decode cX9_levelAt 137 = .ok (.iload_n 1, 1) := by decide +kernel
theorem dX9_levelAt_138 : decode cX9_levelAt 138 = .ok (.invokevirtual 35, 3) := by decide +kernel
theorem dX9_levelAt_141 : decode cX9_levelAt 141 = .ok (.ireturn, 1) := by decide +kernel
theorem dX9_between_0 : decode cX9_between 0 = .ok (.iconst 1, 1) := by decide +kernel
theorem dX9_between_1 : decode cX9_between 1 = .ok (.aload_n 0, 1) := by decide +kernel
theorem dX9_between_2 : decode cX9_between 2 = .ok (.getfield 15, 3) := by decide +kernel
theorem dX9_between_5 : decode cX9_between 5 = .ok (.getfield 29, 3) := by decide +kernel
theorem dX9_between_8 : decode cX9_between 8 = .ok (.iload_n 2, 1) := by decide +kernel
theorem dX9_between_9 : decode cX9_between 9 = .ok (.iaload, 1) := by decide +kernel
theorem dX9_between_10 : decode cX9_between 10 = .ok (.aload_n 0, 1) := by decide +kernel
theorem dX9_between_11 : decode cX9_between 11 = .ok (.getfield 15, 3) := by decide +kernel
theorem dX9_between_14 : decode cX9_between 14 = .ok (.getfield 29, 3) := by decide +kernel
theorem dX9_between_17 : decode cX9_between 17 = .ok (.iload_n 1, 1) := by decide +kernel
theorem dX9_between_18 : decode cX9_between 18 = .ok (.iaload, 1) := by decide +kernel
theorem dX9_between_19 : decode cX9_between 19 = .ok (.isub, 1) := by decide +kernel
theorem dX9_between_20 : decode cX9_between 20 = .ok (.invokestatic 39, 3) := by decide +kernel
theorem dX9_between_23 : decode cX9_between 23 = .ok (.istore 4, 2) := by decide +kernel
theorem dX9_between_25 : decode cX9_between 25 = .ok (.aload_n 0, 1) := by decide +kernel
theorem dX9_between_26 : decode cX9_between 26 = .ok (.getfield 15, 3) := by decide +kernel
theorem dX9_between_29 : decode cX9_between 29 = .ok (.getfield 32, 3) := by decide +kernel
theorem dX9_between_32 : decode cX9_between 32 = .ok (.iload_n 2, 1) := by decide +kernel
theorem dX9_between_33 : decode cX9_between 33 = .ok (.iaload, 1) := by decide +kernel
theorem dX9_between_34 : decode cX9_between 34 = .ok (.aload_n 0, 1) := by decide +kernel
theorem dX9_between_35 : decode cX9_between 35 = .ok (.getfield 15, 3) := by decide +kernel
theorem dX9_between_38 : decode cX9_between 38 = .ok (.getfield 32, 3) := by decide +kernel
theorem dX9_between_41 : decode cX9_between 41 = .ok (.iload_n 1, 1) := by decide +kernel
theorem dX9_between_42 : decode cX9_between 42 = .ok (.iaload, 1) := by decide +kernel
theorem dX9_between_43 : decode cX9_between 43 = .ok (.isub, 1) := by decide +kernel
theorem dX9_between_44 : decode cX9_between 44 = .ok (.istore 5, 2) := by decide +kernel
theorem dX9_between_46 : decode cX9_between 46 = .ok (.iload_n 3, 1) := by decide +kernel
theorem dX9_between_47 : decode cX9_between 47 = .ok (.aload_n 0, 1) := by decide +kernel
theorem dX9_between_48 : decode cX9_between 48 = .ok (.getfield 15, 3) := by decide +kernel
theorem dX9_between_51 : decode cX9_between 51 = .ok (.getfield 29, 3) := by decide +kernel
theorem dX9_between_54 : decode cX9_between 54 = .ok (.iload_n 1, 1) := by decide +kernel
theorem dX9_between_55 : decode cX9_between 55 = .ok (.iaload, 1) := by decide +kernel
theorem dX9_between_56 : decode cX9_between 56 = .ok (.isub, 1) := by decide +kernel
theorem dX9_between_57 : decode cX9_between 57 = .ok (.istore 6, 2) := by decide +kernel
theorem dX9_between_59 : decode cX9_between 59 = .ok (.aload_n 0, 1) := by decide +kernel
theorem dX9_between_60 : decode cX9_between 60 = .ok (.getfield 15, 3) := by decide +kernel
theorem dX9_between_63 : decode cX9_between 63 = .ok (.getfield 32, 3) := by decide +kernel
theorem dX9_between_66 : decode cX9_between 66 = .ok (.iload_n 1, 1) := by decide +kernel
theorem dX9_between_67 : decode cX9_between 67 = .ok (.iaload, 1) := by decide +kernel
theorem dX9_between_68 : decode cX9_between 68 = .ok (.iload 5, 2) := by decide +kernel
theorem dX9_between_70 : decode cX9_between 70 = .ok (.iload 6, 2) := by decide +kernel
theorem dX9_between_72 : decode cX9_between 72 = .ok (.imul, 1) := by decide +kernel
theorem dX9_between_73 : decode cX9_between 73 = .ok (.iload 4, 2) := by decide +kernel
theorem dX9_between_75 : decode cX9_between 75 = .ok (.invokestatic 45, 3) := by decide +kernel
theorem dX9_between_78 : decode cX9_between 78 = .ok (.iadd, 1) := by decide +kernel
theorem dX9_between_79 : decode cX9_between 79 = .ok (.ireturn, 1) := by decide +kernel
theorem dX9_isOpen_0 : decode cX9_isOpen 0 = .ok (.aload_n 0, 1) := by decide +kernel
theorem dX9_isOpen_1 : decode cX9_isOpen 1 = .ok (.getfield 15, 3) := by decide +kernel
theorem dX9_isOpen_4 : decode cX9_isOpen 4 = .ok (.getfield 48, 3) := by decide +kernel
theorem dX9_isOpen_7 : decode cX9_isOpen 7 = .ok (.iconst 3, 1) := by decide +kernel
theorem dX9_isOpen_8 : decode cX9_isOpen 8 = .ok (.iaload, 1) := by decide +kernel
theorem dX9_isOpen_9 : decode cX9_isOpen 9 = .ok (.aload_n 0, 1) := by decide +kernel
theorem dX9_isOpen_10 : decode cX9_isOpen 10 = .ok (.getfield 9, 3) := by decide +kernel
theorem dX9_isOpen_13 : decode cX9_isOpen 13 = .ok (.iload_n 2, 1) := by decide +kernel
theorem dX9_isOpen_14 : decode cX9_isOpen 14 = .ok (.iaload, 1) := by decide +kernel
theorem dX9_isOpen_15 : decode cX9_isOpen 15 = .ok (.iadd, 1) := by decide +kernel
theorem dX9_isOpen_16 : decode cX9_isOpen 16 = .ok (.iload_n 1, 1) := by decide +kernel
theorem dX9_isOpen_17 : decode cX9_isOpen 17 = .ok (.aload_n 0, 1) := by decide +kernel
theorem dX9_isOpen_18 : decode cX9_isOpen 18 = .ok (.getfield 15, 3) := by decide +kernel
theorem dX9_isOpen_21 : decode cX9_isOpen 21 = .ok (.getfield 48, 3) := by decide +kernel
theorem dX9_isOpen_24 : decode cX9_isOpen 24 = .ok (.iconst 2, 1) := by decide +kernel
theorem dX9_isOpen_25 : decode cX9_isOpen 25 = .ok (.iaload, 1) := by decide +kernel
theorem dX9_isOpen_26 : decode cX9_isOpen 26 = .ok (.iadd, 1) := by decide +kernel
theorem dX9_isOpen_27 : decode cX9_isOpen 27 = .ok (.if_icmp .lt 7, 3) := by decide +kernel
theorem dX9_isOpen_30 : decode cX9_isOpen 30 = .ok (.iconst 1, 1) := by decide +kernel
theorem dX9_isOpen_31 : decode cX9_isOpen 31 = .ok (.goto 4, 3) := by decide +kernel
theorem dX9_isOpen_34 : decode cX9_isOpen 34 = .ok (.iconst 0, 1) := by decide +kernel
theorem dX9_isOpen_35 : decode cX9_isOpen 35 = .ok (.ireturn, 1) := by decide +kernel
theorem dX9_firstOpen_0 : decode cX9_firstOpen 0 = .ok (.iload_n 2, 1) := by decide +kernel
theorem dX9_firstOpen_1 : decode cX9_firstOpen 1 = .ok (.istore_n 3, 1) := by decide +kernel
theorem dX9_firstOpen_2 : decode cX9_firstOpen 2 = .ok (.iload_n 3, 1) := by decide +kernel
theorem dX9_firstOpen_3 : decode cX9_firstOpen 3 = .ok (.sipush 336, 3) := by decide +kernel
theorem dX9_firstOpen_6 : decode cX9_firstOpen 6 = .ok (.if_icmp .ge 20, 3) := by decide +kernel
theorem dX9_firstOpen_9 : decode cX9_firstOpen 9 = .ok (.aload_n 0, 1) := by decide +kernel
theorem dX9_firstOpen_10 : decode cX9_firstOpen 10 = .ok (.iload_n 1, 1) := by decide +kernel
theorem dX9_firstOpen_11 : decode cX9_firstOpen 11 = .ok (.iload_n 3, 1) := by decide +kernel
theorem dX9_firstOpen_12 : decode cX9_firstOpen 12 = .ok (.invokevirtual 51, 3) := by decide +kernel
theorem dX9_firstOpen_15 : decode cX9_firstOpen 15 = .ok (.ifCond .eq 5, 3) := by decide +kernel
theorem dX9_firstOpen_18 : decode cX9_firstOpen 18 = .ok (.iload_n 3, 1) := by decide +kernel
theorem dX9_firstOpen_19 : decode cX9_firstOpen 19 = .ok (.ireturn, 1) := by decide +kernel
theorem dX9_firstOpen_20 : decode cX9_firstOpen 20 = .ok (.iinc 3 1, 3) := by decide +kernel
theorem dX9_firstOpen_23 : decode cX9_firstOpen 23 = .ok (.goto (-21), 3) := by decide +kernel
theorem dX9_firstOpen_26 : decode cX9_firstOpen 26 = .ok (.iconst (-1), 1) := by decide +kernel
theorem dX9_firstOpen_27 : decode cX9_firstOpen 27 = .ok (.ireturn, 1) := by decide +kernel
theorem dX9_lowest_0 : decode cX9_lowest 0 = .ok (.aload_n 0, 1) := by decide +kernel
theorem dX9_lowest_1 : decode cX9_lowest 1 = .ok (.getfield 9, 3) := by decide +kernel
theorem dX9_lowest_4 : decode cX9_lowest 4 = .ok (.iload_n 1, 1) := by decide +kernel
theorem dX9_lowest_5 : decode cX9_lowest 5 = .ok (.iaload, 1) := by decide +kernel
theorem dX9_lowest_6 : decode cX9_lowest 6 = .ok (.istore_n 3, 1) := by decide +kernel
theorem dX9_lowest_7 : decode cX9_lowest 7 = .ok (.iload_n 1, 1) := by decide +kernel
theorem dX9_lowest_8 : decode cX9_lowest 8 = .ok (.istore 4, 2) := by decide +kernel
theorem dX9_lowest_10 : decode cX9_lowest 10 = .ok (.iload 4, 2) := by decide +kernel
theorem dX9_lowest_12 : decode cX9_lowest 12 = .ok (.iload_n 2, 1) := by decide +kernel
theorem dX9_lowest_13 : decode cX9_lowest 13 = .ok (.if_icmp .ge 21, 3) := by decide +kernel
theorem dX9_lowest_16 : decode cX9_lowest 16 = .ok (.iload_n 3, 1) := by decide +kernel
theorem dX9_lowest_17 : decode cX9_lowest 17 = .ok (.aload_n 0, 1) := by decide +kernel
theorem dX9_lowest_18 : decode cX9_lowest 18 = .ok (.getfield 9, 3) := by decide +kernel
theorem dX9_lowest_21 : decode cX9_lowest 21 = .ok (.iload 4, 2) := by decide +kernel
theorem dX9_lowest_23 : decode cX9_lowest 23 = .ok (.iaload, 1) := by decide +kernel
theorem dX9_lowest_24 : decode cX9_lowest 24 = .ok (.invokestatic 55, 3) := by decide +kernel
theorem dX9_lowest_27 : decode cX9_lowest 27 = .ok (.istore_n 3, 1) := by decide +kernel
theorem dX9_lowest_28 : decode cX9_lowest 28 = .ok (.iinc 4 1, 3) := by decide +kernel
theorem dX9_lowest_31 : decode cX9_lowest 31 = .ok (.goto (-21), 3) := by decide +kernel
theorem dX9_lowest_34 : decode cX9_lowest 34 = .ok (.iload_n 3, 1) := by decide +kernel
theorem dX9_lowest_35 : decode cX9_lowest 35 = .ok (.ireturn, 1) := by decide +kernel
theorem dX10_init_0 : decode cX10_init 0 = .ok (.aload_n 0, 1) := by decide +kernel
theorem dX10_init_1 : decode cX10_init 1 = .ok (.invokespecial 3, 3) := by decide +kernel
theorem dX10_init_4 : decode cX10_init 4 = .ok (.aload_n 0, 1) := by decide +kernel
theorem dX10_init_5 : decode cX10_init 5 = .ok (.sipush 266, 3) := by decide +kernel
theorem dX10_init_8 : decode cX10_init 8 = .ok (.newarray .byte, 2) := by decide +kernel
theorem dX10_init_10 : decode cX10_init 10 = .ok (.putfield 9, 3) := by decide +kernel
theorem dX10_init_13 : decode cX10_init 13 = .ok (.return_, 1) := by decide +kernel
theorem dX10_add_0 : decode cX10_add 0 = .ok (.aload_n 0, 1) := by decide +kernel
theorem dX10_add_1 : decode cX10_add 1 = .ok (.getfield 15, 3) := by decide +kernel
theorem dX10_add_4 : decode cX10_add 4 = .ok (.sipush 266, 3) := by decide +kernel
theorem dX10_add_7 : decode cX10_add 7 = .ok (.if_icmp .ge 24, 3) := by decide +kernel
theorem dX10_add_10 : decode cX10_add 10 = .ok (.aload_n 0, 1) := by decide +kernel
theorem dX10_add_11 : decode cX10_add 11 = .ok (.getfield 9, 3) := by decide +kernel
theorem dX10_add_14 : decode cX10_add 14 = .ok (.aload_n 0, 1) := by decide +kernel
theorem dX10_add_15 : decode cX10_add 15 = .ok (.getfield 15, 3) := by decide +kernel
theorem dX10_add_18 : decode cX10_add 18 = .ok (.iload_n 1, 1) := by decide +kernel
theorem dX10_add_19 : decode cX10_add 19 = .ok (.i2b, 1) := by decide +kernel
theorem dX10_add_20 : decode cX10_add 20 = .ok (.bastore, 1) := by decide +kernel
theorem dX10_add_21 : decode cX10_add 21 = .ok (.aload_n 0, 1) := by decide +kernel
theorem dX10_add_22 : decode cX10_add 22 = .ok (.dup, 1) := by decide +kernel
theorem dX10_add_23 : decode cX10_add 23 = .ok (.getfield 15, 3) := by decide +kernel
theorem dX10_add_26 : decode cX10_add 26 = .ok (.iconst 1, 1) := by decide +kernel
theorem dX10_add_27 : decode cX10_add 27 = .ok (.iadd, 1) := by decide +kernel
theorem dX10_add_28 : decode cX10_add 28 = .ok (.putfield 15, 3) := by decide +kernel
theorem dX10_add_31 : decode cX10_add 31 = .ok (.return_, 1) := by decide +kernel
theorem dX10_addNumber_0 : decode cX10_addNumber 0 = .ok (.aload_n 0, 1) := by decide +kernel
theorem dX10_addNumber_1 : decode cX10_addNumber 1 = .ok (.bipush 32, 2) := by decide +kernel
theorem dX10_addNumber_3 : decode cX10_addNumber 3 = .ok (.invokevirtual 19, 3) := by decide +kernel
theorem dX10_addNumber_6 : decode cX10_addNumber 6 = .ok (.iload_n 1, 1) := by decide +kernel
theorem dX10_addNumber_7 : decode cX10_addNumber 7 = .ok (.bipush 100, 2) := by decide +kernel
theorem dX10_addNumber_9 : decode cX10_addNumber 9 = .ok (.if_icmp .lt 14, 3) := by decide +kernel
theorem dX10_addNumber_12 : decode cX10_addNumber 12 = .ok (.aload_n 0, 1) := by decide +kernel
theorem dX10_addNumber_13 : decode cX10_addNumber 13 = .ok (.bipush 48, 2) := by decide +kernel
theorem dX10_addNumber_15 : decode cX10_addNumber 15 = .ok (.iload_n 1, 1) := by decide +kernel
theorem dX10_addNumber_16 : decode cX10_addNumber 16 = .ok (.bipush 100, 2) := by decide +kernel
theorem dX10_addNumber_18 : decode cX10_addNumber 18 = .ok (.idiv, 1) := by decide +kernel
theorem dX10_addNumber_19 : decode cX10_addNumber 19 = .ok (.iadd, 1) := by decide +kernel
theorem dX10_addNumber_20 : decode cX10_addNumber 20 = .ok (.invokevirtual 19, 3) := by decide +kernel
theorem dX10_addNumber_23 : decode cX10_addNumber 23 = .ok (.iload_n 1, 1) := by decide +kernel
theorem dX10_addNumber_24 : decode cX10_addNumber 24 = .ok (.bipush 10, 2) := by decide +kernel
theorem dX10_addNumber_26 : decode cX10_addNumber 26 = .ok (.if_icmp .lt 17, 3) := by decide +kernel
theorem dX10_addNumber_29 : decode cX10_addNumber 29 = .ok (.aload_n 0, 1) := by decide +kernel
theorem dX10_addNumber_30 : decode cX10_addNumber 30 = .ok (.bipush 48, 2) := by decide +kernel
theorem dX10_addNumber_32 : decode cX10_addNumber 32 = .ok (.iload_n 1, 1) := by decide +kernel
theorem dX10_addNumber_33 : decode cX10_addNumber 33 = .ok (.bipush 10, 2) := by decide +kernel
theorem dX10_addNumber_35 : decode cX10_addNumber 35 = .ok (.idiv, 1) := by decide +kernel
theorem dX10_addNumber_36 : decode cX10_addNumber 36 = .ok (.bipush 10, 2) := by decide +kernel
theorem dX10_addNumber_38 : decode cX10_addNumber 38 = .ok (.irem, 1) := by decide +kernel
theorem dX10_addNumber_39 : decode cX10_addNumber 39 = .ok (.iadd, 1) := by decide +kernel
theorem dX10_addNumber_40 : decode cX10_addNumber 40 = .ok (.invokevirtual 19, 3) := by decide +kernel
theorem dX10_addNumber_43 : decode cX10_addNumber 43 = .ok (.aload_n 0, 1) := by decide +kernel
theorem dX10_addNumber_44 : decode cX10_addNumber 44 = .ok (.bipush 48, 2) := by decide +kernel
theorem dX10_addNumber_46 : decode cX10_addNumber 46 = .ok (.iload_n 1, 1) := by decide +kernel
theorem dX10_addNumber_47 : decode cX10_addNumber 47 = .ok (.bipush 10, 2) := by decide +kernel
theorem dX10_addNumber_49 : decode cX10_addNumber 49 = .ok (.irem, 1) := by decide +kernel
theorem dX10_addNumber_50 : decode cX10_addNumber 50 = .ok (.iadd, 1) := by decide +kernel
theorem dX10_addNumber_51 : decode cX10_addNumber 51 = .ok (.invokevirtual 19, 3) := by decide +kernel
theorem dX10_addNumber_54 : decode cX10_addNumber 54 = .ok (.return_, 1) := by decide +kernel
theorem dJ0_length_8abf5_0 : decode cJ0_length_8abf5 0 = .ok (.aload_n 0, 1) := by decide +kernel
theorem dJ0_length_8abf5_1 : decode cJ0_length_8abf5 1 = .ok (.getfield 9, 3) := by decide +kernel
theorem dJ0_length_8abf5_4 : decode cJ0_length_8abf5 4 = .ok (.arraylength, 1) := by decide +kernel
theorem dJ0_length_8abf5_5 : decode cJ0_length_8abf5 5 = .ok (.aload_n 0, 1) := by decide +kernel
theorem dJ0_length_8abf5_6 : decode cJ0_length_8abf5 6 = .ok (.invokevirtual 335, 3) := by decide +kernel
theorem dJ0_length_8abf5_9 : decode cJ0_length_8abf5 9 = .ok (.ishr, 1) := by decide +kernel
theorem dJ0_length_8abf5_10 : decode cJ0_length_8abf5 10 = .ok (.ireturn, 1) := by decide +kernel
theorem dJ0_charAt_5068e_0 : decode cJ0_charAt_5068e 0 = .ok (.aload_n 0, 1) := by decide +kernel
theorem dJ0_charAt_5068e_1 : decode cJ0_charAt_5068e 1 = .ok (.invokevirtual 492, 3) := by decide +kernel
theorem dJ0_charAt_5068e_4 : decode cJ0_charAt_5068e 4 = .ok (.ifCond .eq 12, 3) := by decide +kernel
theorem dJ0_charAt_5068e_7 : decode cJ0_charAt_5068e 7 = .ok (.aload_n 0, 1) := by decide +kernel
theorem dJ0_charAt_5068e_8 : decode cJ0_charAt_5068e 8 = .ok (.getfield 9, 3) := by decide +kernel
theorem dJ0_charAt_5068e_11 : decode cJ0_charAt_5068e 11 = .ok (.iload_n 1, 1) := by decide +kernel
theorem dJ0_charAt_5068e_12 : decode cJ0_charAt_5068e 12 = .ok (.invokestatic 495, 3) := by decide +kernel
theorem dJ0_charAt_5068e_15 : decode cJ0_charAt_5068e 15 = .ok (.ireturn, 1) := by decide +kernel
theorem dJ0_charAt_5068e_16 : decode cJ0_charAt_5068e 16 = .ok (.aload_n 0, 1) := by decide +kernel
theorem dJ0_charAt_5068e_17 : decode cJ0_charAt_5068e 17 = .ok (.getfield 9, 3) := by decide +kernel
theorem dJ0_charAt_5068e_20 : decode cJ0_charAt_5068e 20 = .ok (.iload_n 1, 1) := by decide +kernel
theorem dJ0_charAt_5068e_21 : decode cJ0_charAt_5068e 21 = .ok (.invokestatic 498, 3) := by decide +kernel
theorem dJ0_charAt_5068e_24 : decode cJ0_charAt_5068e 24 = .ok (.ireturn, 1) := by decide +kernel
theorem dJ0_coder_7d493_0 : decode cJ0_coder_7d493 0 = .ok (.getstatic 38, 3) := by decide +kernel
theorem dJ0_coder_7d493_3 : decode cJ0_coder_7d493 3 = .ok (.ifCond .eq 10, 3) := by decide +kernel
theorem dJ0_coder_7d493_6 : decode cJ0_coder_7d493 6 = .ok (.aload_n 0, 1) := by decide +kernel
theorem dJ0_coder_7d493_7 : decode cJ0_coder_7d493 7 = .ok (.getfield 15, 3) := by decide +kernel
theorem dJ0_coder_7d493_10 : decode cJ0_coder_7d493 10 = .ok (.goto 4, 3) := by decide +kernel
theorem dJ0_coder_7d493_13 : decode cJ0_coder_7d493 13 = .ok (.iconst 1, 1) := by decide +kernel
theorem dJ0_coder_7d493_14 : decode cJ0_coder_7d493 14 = .ok (.ireturn, 1) := by decide +kernel
theorem dJ0_isLatin1_aae02_0 : decode cJ0_isLatin1_aae02 0 = .ok (.getstatic 38, 3) := by decide +kernel
theorem dJ0_isLatin1_aae02_3 : decode cJ0_isLatin1_aae02 3 = .ok (.ifCond .eq 14, 3) := by decide +kernel
theorem dJ0_isLatin1_aae02_6 : decode cJ0_isLatin1_aae02 6 = .ok (.aload_n 0, 1) := by decide +kernel
theorem dJ0_isLatin1_aae02_7 : decode cJ0_isLatin1_aae02 7 = .ok (.getfield 15, 3) := by decide +kernel
theorem dJ0_isLatin1_aae02_10 : decode cJ0_isLatin1_aae02 10 = .ok (.ifCond .ne 7, 3) := by decide +kernel
theorem dJ0_isLatin1_aae02_13 : decode cJ0_isLatin1_aae02 13 = .ok (.iconst 1, 1) := by decide +kernel
theorem dJ0_isLatin1_aae02_14 : decode cJ0_isLatin1_aae02 14 = .ok (.goto 4, 3) := by decide +kernel
theorem dJ0_isLatin1_aae02_17 : decode cJ0_isLatin1_aae02 17 = .ok (.iconst 0, 1) := by decide +kernel
theorem dJ0_isLatin1_aae02_18 : decode cJ0_isLatin1_aae02 18 = .ok (.ireturn, 1) := by decide +kernel
theorem dJ0_checkIndex_df160_0 : decode cJ0_checkIndex_df160 0 = .ok (.iload_n 0, 1) := by decide +kernel
theorem dJ0_checkIndex_df160_1 : decode cJ0_checkIndex_df160 1 = .ok (.iload_n 1, 1) := by decide +kernel
theorem dJ0_checkIndex_df160_2 : decode cJ0_checkIndex_df160 2 = .ok (.getstatic 1053, 3) := by decide +kernel
theorem dJ0_checkIndex_df160_5 : decode cJ0_checkIndex_df160 5 = .ok (.invokestatic 1059, 3) := by decide +kernel
theorem dJ0_checkIndex_df160_8 : decode cJ0_checkIndex_df160 8 = .ok (.pop, 1) := by decide +kernel
theorem dJ0_checkIndex_df160_9 : decode cJ0_checkIndex_df160 9 = .ok (.return_, 1) := by decide +kernel
theorem dJ2_getChar_3b067_0 : decode cJ2_getChar_3b067 0 = .ok (.getstatic 44, 3) := by decide +kernel
theorem dJ2_getChar_3b067_3 : decode cJ2_getChar_3b067 3 = .ok (.ifCond .ne 25, 3) := by decide +kernel
theorem dJ2_getChar_3b067_6 : decode cJ2_getChar_3b067 6 = .ok (.iload_n 1, 1) := by decide +kernel
theorem dJ2_getChar_3b067_7 : decode cJ2_getChar_3b067 7 = .ok (.ifCond .lt 11, 3) := by decide +kernel
theorem dJ2_getChar_3b067_10 : decode cJ2_getChar_3b067 10 = .ok (.iload_n 1, 1) := by decide +kernel
theorem dJ2_getChar_3b067_11 : decode cJ2_getChar_3b067 11 = .ok (.aload_n 0, 1) := by decide +kernel
theorem dJ2_getChar_3b067_12 : decode cJ2_getChar_3b067 12 = .ok (.invokestatic 48, 3) := by decide +kernel
theorem dJ2_getChar_3b067_15 : decode cJ2_getChar_3b067 15 = .ok (.if_icmp .lt 13, 3) := by decide +kernel
theorem dJ2_getChar_3b067_18 : decode cJ2_getChar_3b067 18 = .ok (.new 52, 3) := by decide +kernel
theorem dJ2_getChar_3b067_21 : decode cJ2_getChar_3b067 21 = .ok (.dup, 1) := by decide +kernel
theorem dJ2_getChar_3b067_22 : decode cJ2_getChar_3b067 22 = .ok (.ldc 54, 2) := by decide +kernel
theorem dJ2_getChar_3b067_24 : decode cJ2_getChar_3b067 24 = .ok (.invokespecial 56, 3) := by decide +kernel
theorem dJ2_getChar_3b067_27 : decode cJ2_getChar_3b067 27 = .ok (.athrow, 1) := by decide +kernel
theorem dJ2_getChar_3b067_28 : decode cJ2_getChar_3b067 28 = .ok (.iload_n 1, 1) := by decide +kernel
theorem dJ2_getChar_3b067_29 : decode cJ2_getChar_3b067 29 = .ok (.iconst 1, 1) := by decide +kernel
theorem dJ2_getChar_3b067_30 : decode cJ2_getChar_3b067 30 = .ok (.ishl, 1) := by decide +kernel
theorem dJ2_getChar_3b067_31 : decode cJ2_getChar_3b067 31 = .ok (.istore_n 1, 1) := by decide +kernel
theorem dJ2_getChar_3b067_32 : decode cJ2_getChar_3b067 32 = .ok (.aload_n 0, 1) := by decide +kernel
theorem dJ2_getChar_3b067_33 : decode cJ2_getChar_3b067 33 = .ok (.iload_n 1, 1) := by decide +kernel
theorem dJ2_getChar_3b067_34 : decode cJ2_getChar_3b067 34 = .ok (.iinc 1 1, 3) := by decide +kernel
theorem dJ2_getChar_3b067_37 : decode cJ2_getChar_3b067 37 = .ok (.baload, 1) := by decide +kernel
theorem dJ2_getChar_3b067_38 : decode cJ2_getChar_3b067 38 = .ok (.sipush 255, 3) := by decide +kernel
theorem dJ2_getChar_3b067_41 : decode cJ2_getChar_3b067 41 = .ok (.iand, 1) := by decide +kernel
theorem dJ2_getChar_3b067_42 : decode cJ2_getChar_3b067 42 = .ok (.getstatic 59, 3) := by decide +kernel
theorem dJ2_getChar_3b067_45 : decode cJ2_getChar_3b067 45 = .ok (.ishl, 1) := by decide +kernel
theorem dJ2_getChar_3b067_46 : decode cJ2_getChar_3b067 46 = .ok (.aload_n 0, 1) := by decide +kernel
theorem dJ2_getChar_3b067_47 : decode cJ2_getChar_3b067 47 = .ok (.iload_n 1, 1) := by decide +kernel
theorem dJ2_getChar_3b067_48 : decode cJ2_getChar_3b067 48 = .ok (.baload, 1) := by decide +kernel
theorem dJ2_getChar_3b067_49 : decode cJ2_getChar_3b067 49 = .ok (.sipush 255, 3) := by decide +kernel
theorem dJ2_getChar_3b067_52 : decode cJ2_getChar_3b067 52 = .ok (.iand, 1) := by decide +kernel
theorem dJ2_getChar_3b067_53 : decode cJ2_getChar_3b067 53 = .ok (.getstatic 63, 3) := by decide +kernel
theorem dJ2_getChar_3b067_56 : decode cJ2_getChar_3b067 56 = .ok (.ishl, 1) := by decide +kernel
theorem dJ2_getChar_3b067_57 : decode cJ2_getChar_3b067 57 = .ok (.ior, 1) := by decide +kernel
theorem dJ2_getChar_3b067_58 : decode cJ2_getChar_3b067 58 = .ok (.i2c, 1) := by decide +kernel
theorem dJ2_getChar_3b067_59 : decode cJ2_getChar_3b067 59 = .ok (.ireturn, 1) := by decide +kernel
theorem dJ2_length_9d52b_0 : decode cJ2_length_9d52b 0 = .ok (.aload_n 0, 1) := by decide +kernel
theorem dJ2_length_9d52b_1 : decode cJ2_length_9d52b 1 = .ok (.arraylength, 1) := by decide +kernel
theorem dJ2_length_9d52b_2 : decode cJ2_length_9d52b 2 = .ok (.iconst 1, 1) := by decide +kernel
theorem dJ2_length_9d52b_3 : decode cJ2_length_9d52b 3 = .ok (.ishr, 1) := by decide +kernel
theorem dJ2_length_9d52b_4 : decode cJ2_length_9d52b 4 = .ok (.ireturn, 1) := by decide +kernel
theorem dJ2_charAt_3b067_0 : decode cJ2_charAt_3b067 0 = .ok (.iload_n 1, 1) := by decide +kernel
theorem dJ2_charAt_3b067_1 : decode cJ2_charAt_3b067 1 = .ok (.aload_n 0, 1) := by decide +kernel
theorem dJ2_charAt_3b067_2 : decode cJ2_charAt_3b067 2 = .ok (.invokestatic 67, 3) := by decide +kernel
theorem dJ2_charAt_3b067_5 : decode cJ2_charAt_3b067 5 = .ok (.aload_n 0, 1) := by decide +kernel
theorem dJ2_charAt_3b067_6 : decode cJ2_charAt_3b067 6 = .ok (.iload_n 1, 1) := by decide +kernel
theorem dJ2_charAt_3b067_7 : decode cJ2_charAt_3b067 7 = .ok (.invokestatic 71, 3) := by decide +kernel
theorem dJ2_charAt_3b067_10 : decode cJ2_charAt_3b067 10 = .ok (.ireturn, 1) := by decide +kernel
theorem dJ2_checkIndex_2214a_0 : decode cJ2_checkIndex_2214a 0 = .ok (.iload_n 0, 1) := by decide +kernel
theorem dJ2_checkIndex_2214a_1 : decode cJ2_checkIndex_2214a 1 = .ok (.aload_n 1, 1) := by decide +kernel
theorem dJ2_checkIndex_2214a_2 : decode cJ2_checkIndex_2214a 2 = .ok (.invokestatic 48, 3) := by decide +kernel
theorem dJ2_checkIndex_2214a_5 : decode cJ2_checkIndex_2214a 5 = .ok (.invokestatic 414, 3) := by decide +kernel
theorem dJ2_checkIndex_2214a_8 : decode cJ2_checkIndex_2214a 8 = .ok (.return_, 1) := by decide +kernel
theorem dJ6_bitCount_0f7a4_0 : decode cJ6_bitCount_0f7a4 0 = .ok (.iload_n 0, 1) := by decide +kernel
theorem dJ6_bitCount_0f7a4_1 : decode cJ6_bitCount_0f7a4 1 = .ok (.iload_n 0, 1) := by decide +kernel
theorem dJ6_bitCount_0f7a4_2 : decode cJ6_bitCount_0f7a4 2 = .ok (.iconst 1, 1) := by decide +kernel
theorem dJ6_bitCount_0f7a4_3 : decode cJ6_bitCount_0f7a4 3 = .ok (.iushr, 1) := by decide +kernel
theorem dJ6_bitCount_0f7a4_4 : decode cJ6_bitCount_0f7a4 4 = .ok (.ldc_w 265, 3) := by decide +kernel
theorem dJ6_bitCount_0f7a4_7 : decode cJ6_bitCount_0f7a4 7 = .ok (.iand, 1) := by decide +kernel
theorem dJ6_bitCount_0f7a4_8 : decode cJ6_bitCount_0f7a4 8 = .ok (.isub, 1) := by decide +kernel
theorem dJ6_bitCount_0f7a4_9 : decode cJ6_bitCount_0f7a4 9 = .ok (.istore_n 0, 1) := by decide +kernel
theorem dJ6_bitCount_0f7a4_10 : decode cJ6_bitCount_0f7a4 10 = .ok (.iload_n 0, 1) := by decide +kernel
theorem dJ6_bitCount_0f7a4_11 : decode cJ6_bitCount_0f7a4 11 = .ok (.ldc_w 266, 3) := by decide +kernel
theorem dJ6_bitCount_0f7a4_14 : decode cJ6_bitCount_0f7a4 14 = .ok (.iand, 1) := by decide +kernel
theorem dJ6_bitCount_0f7a4_15 : decode cJ6_bitCount_0f7a4 15 = .ok (.iload_n 0, 1) := by decide +kernel
theorem dJ6_bitCount_0f7a4_16 : decode cJ6_bitCount_0f7a4 16 = .ok (.iconst 2, 1) := by decide +kernel
theorem dJ6_bitCount_0f7a4_17 : decode cJ6_bitCount_0f7a4 17 = .ok (.iushr, 1) := by decide +kernel
theorem dJ6_bitCount_0f7a4_18 : decode cJ6_bitCount_0f7a4 18 = .ok (.ldc_w 266, 3) := by decide +kernel
theorem dJ6_bitCount_0f7a4_21 : decode cJ6_bitCount_0f7a4 21 = .ok (.iand, 1) := by decide +kernel
theorem dJ6_bitCount_0f7a4_22 : decode cJ6_bitCount_0f7a4 22 = .ok (.iadd, 1) := by decide +kernel
theorem dJ6_bitCount_0f7a4_23 : decode cJ6_bitCount_0f7a4 23 = .ok (.istore_n 0, 1) := by decide +kernel
theorem dJ6_bitCount_0f7a4_24 : decode cJ6_bitCount_0f7a4 24 = .ok (.iload_n 0, 1) := by decide +kernel
theorem dJ6_bitCount_0f7a4_25 : decode cJ6_bitCount_0f7a4 25 = .ok (.iload_n 0, 1) := by decide +kernel
theorem dJ6_bitCount_0f7a4_26 : decode cJ6_bitCount_0f7a4 26 = .ok (.iconst 4, 1) := by decide +kernel
theorem dJ6_bitCount_0f7a4_27 : decode cJ6_bitCount_0f7a4 27 = .ok (.iushr, 1) := by decide +kernel
theorem dJ6_bitCount_0f7a4_28 : decode cJ6_bitCount_0f7a4 28 = .ok (.iadd, 1) := by decide +kernel
theorem dJ6_bitCount_0f7a4_29 : decode cJ6_bitCount_0f7a4 29 = .ok (.ldc_w 267, 3) := by decide +kernel
theorem dJ6_bitCount_0f7a4_32 : decode cJ6_bitCount_0f7a4 32 = .ok (.iand, 1) := by decide +kernel
theorem dJ6_bitCount_0f7a4_33 : decode cJ6_bitCount_0f7a4 33 = .ok (.istore_n 0, 1) := by decide +kernel
theorem dJ6_bitCount_0f7a4_34 : decode cJ6_bitCount_0f7a4 34 = .ok (.iload_n 0, 1) := by decide +kernel
theorem dJ6_bitCount_0f7a4_35 : decode cJ6_bitCount_0f7a4 35 = .ok (.iload_n 0, 1) := by decide +kernel
theorem dJ6_bitCount_0f7a4_36 : decode cJ6_bitCount_0f7a4 36 = .ok (.bipush 8, 2) := by decide +kernel
theorem dJ6_bitCount_0f7a4_38 : decode cJ6_bitCount_0f7a4 38 = .ok (.iushr, 1) := by decide +kernel
theorem dJ6_bitCount_0f7a4_39 : decode cJ6_bitCount_0f7a4 39 = .ok (.iadd, 1) := by decide +kernel
theorem dJ6_bitCount_0f7a4_40 : decode cJ6_bitCount_0f7a4 40 = .ok (.istore_n 0, 1) := by decide +kernel
theorem dJ6_bitCount_0f7a4_41 : decode cJ6_bitCount_0f7a4 41 = .ok (.iload_n 0, 1) := by decide +kernel
theorem dJ6_bitCount_0f7a4_42 : decode cJ6_bitCount_0f7a4 42 = .ok (.iload_n 0, 1) := by decide +kernel
theorem dJ6_bitCount_0f7a4_43 : decode cJ6_bitCount_0f7a4 43 = .ok (.bipush 16, 2) := by decide +kernel
theorem dJ6_bitCount_0f7a4_45 : decode cJ6_bitCount_0f7a4 45 = .ok (.iushr, 1) := by decide +kernel
theorem dJ6_bitCount_0f7a4_46 : decode cJ6_bitCount_0f7a4 46 = .ok (.iadd, 1) := by decide +kernel
theorem dJ6_bitCount_0f7a4_47 : decode cJ6_bitCount_0f7a4 47 = .ok (.istore_n 0, 1) := by decide +kernel
theorem dJ6_bitCount_0f7a4_48 : decode cJ6_bitCount_0f7a4 48 = .ok (.iload_n 0, 1) := by decide +kernel
theorem dJ6_bitCount_0f7a4_49 : decode cJ6_bitCount_0f7a4 49 = .ok (.bipush 63, 2) := by decide +kernel
theorem dJ6_bitCount_0f7a4_51 : decode cJ6_bitCount_0f7a4 51 = .ok (.iand, 1) := by decide +kernel
theorem dJ6_bitCount_0f7a4_52 : decode cJ6_bitCount_0f7a4 52 = .ok (.ireturn, 1) := by decide +kernel
theorem dJ9_floorDiv_7cf53_0 : decode cJ9_floorDiv_7cf53 0 = .ok (.iload_n 0, 1) := by decide +kernel
theorem dJ9_floorDiv_7cf53_1 : decode cJ9_floorDiv_7cf53 1 = .ok (.iload_n 1, 1) := by decide +kernel
theorem dJ9_floorDiv_7cf53_2 : decode cJ9_floorDiv_7cf53 2 = .ok (.idiv, 1) := by decide +kernel
theorem dJ9_floorDiv_7cf53_3 : decode cJ9_floorDiv_7cf53 3 = .ok (.istore_n 2, 1) := by decide +kernel
theorem dJ9_floorDiv_7cf53_4 : decode cJ9_floorDiv_7cf53 4 = .ok (.iload_n 0, 1) := by decide +kernel
theorem dJ9_floorDiv_7cf53_5 : decode cJ9_floorDiv_7cf53 5 = .ok (.iload_n 1, 1) := by decide +kernel
theorem dJ9_floorDiv_7cf53_6 : decode cJ9_floorDiv_7cf53 6 = .ok (.ixor, 1) := by decide +kernel
theorem dJ9_floorDiv_7cf53_7 : decode cJ9_floorDiv_7cf53 7 = .ok (.ifCond .ge 14, 3) := by decide +kernel
theorem dJ9_floorDiv_7cf53_10 : decode cJ9_floorDiv_7cf53 10 = .ok (.iload_n 2, 1) := by decide +kernel
theorem dJ9_floorDiv_7cf53_11 : decode cJ9_floorDiv_7cf53 11 = .ok (.iload_n 1, 1) := by decide +kernel
theorem dJ9_floorDiv_7cf53_12 : decode cJ9_floorDiv_7cf53 12 = .ok (.imul, 1) := by decide +kernel
theorem dJ9_floorDiv_7cf53_13 : decode cJ9_floorDiv_7cf53 13 = .ok (.iload_n 0, 1) := by decide +kernel
theorem dJ9_floorDiv_7cf53_14 : decode cJ9_floorDiv_7cf53 14 = .ok (.if_icmp .eq 7, 3) := by decide +kernel
theorem dJ9_floorDiv_7cf53_17 : decode cJ9_floorDiv_7cf53 17 = .ok (.iload_n 2, 1) := by decide +kernel
theorem dJ9_floorDiv_7cf53_18 : decode cJ9_floorDiv_7cf53 18 = .ok (.iconst 1, 1) := by decide +kernel
theorem dJ9_floorDiv_7cf53_19 : decode cJ9_floorDiv_7cf53 19 = .ok (.isub, 1) := by decide +kernel
theorem dJ9_floorDiv_7cf53_20 : decode cJ9_floorDiv_7cf53 20 = .ok (.ireturn, 1) := by decide +kernel
theorem dJ9_floorDiv_7cf53_21 : decode cJ9_floorDiv_7cf53 21 = .ok (.iload_n 2, 1) := by decide +kernel
theorem dJ9_floorDiv_7cf53_22 : decode cJ9_floorDiv_7cf53 22 = .ok (.ireturn, 1) := by decide +kernel
theorem dJ9_max_7cf53_0 : decode cJ9_max_7cf53 0 = .ok (.iload_n 0, 1) := by decide +kernel
theorem dJ9_max_7cf53_1 : decode cJ9_max_7cf53 1 = .ok (.iload_n 1, 1) := by decide +kernel
theorem dJ9_max_7cf53_2 : decode cJ9_max_7cf53 2 = .ok (.if_icmp .lt 7, 3) := by decide +kernel
theorem dJ9_max_7cf53_5 : decode cJ9_max_7cf53 5 = .ok (.iload_n 0, 1) := by decide +kernel
theorem dJ9_max_7cf53_6 : decode cJ9_max_7cf53 6 = .ok (.goto 4, 3) := by decide +kernel
theorem dJ9_max_7cf53_9 : decode cJ9_max_7cf53 9 = .ok (.iload_n 1, 1) := by decide +kernel
theorem dJ9_max_7cf53_10 : decode cJ9_max_7cf53 10 = .ok (.ireturn, 1) := by decide +kernel
theorem dJ9_max_f86c9_0 : decode cJ9_max_f86c9 0 = .ok (.lload_n 0, 1) := by decide +kernel
theorem dJ9_max_f86c9_1 : decode cJ9_max_f86c9 1 = .ok (.lload_n 2, 1) := by decide +kernel
theorem dJ9_max_f86c9_2 : decode cJ9_max_f86c9 2 = .ok (.lcmp, 1) := by decide +kernel
theorem dJ9_max_f86c9_3 : decode cJ9_max_f86c9 3 = .ok (.ifCond .lt 7, 3) := by decide +kernel
theorem dJ9_max_f86c9_6 : decode cJ9_max_f86c9 6 = .ok (.lload_n 0, 1) := by decide +kernel
theorem dJ9_max_f86c9_7 : decode cJ9_max_f86c9 7 = .ok (.goto 4, 3) := by decide +kernel
theorem dJ9_max_f86c9_10 : decode cJ9_max_f86c9 10 = .ok (.lload_n 2, 1) := by decide +kernel
theorem dJ9_max_f86c9_11 : decode cJ9_max_f86c9 11 = .ok (.lreturn, 1) := by decide +kernel
theorem dJ9_min_7cf53_0 : decode cJ9_min_7cf53 0 = .ok (.iload_n 0, 1) := by decide +kernel
theorem dJ9_min_7cf53_1 : decode cJ9_min_7cf53 1 = .ok (.iload_n 1, 1) := by decide +kernel
theorem dJ9_min_7cf53_2 : decode cJ9_min_7cf53 2 = .ok (.if_icmp .gt 7, 3) := by decide +kernel
theorem dJ9_min_7cf53_5 : decode cJ9_min_7cf53 5 = .ok (.iload_n 0, 1) := by decide +kernel
theorem dJ9_min_7cf53_6 : decode cJ9_min_7cf53 6 = .ok (.goto 4, 3) := by decide +kernel
theorem dJ9_min_7cf53_9 : decode cJ9_min_7cf53 9 = .ok (.iload_n 1, 1) := by decide +kernel
theorem dJ9_min_7cf53_10 : decode cJ9_min_7cf53 10 = .ok (.ireturn, 1) := by decide +kernel
theorem dJ9_min_f86c9_0 : decode cJ9_min_f86c9 0 = .ok (.lload_n 0, 1) := by decide +kernel
theorem dJ9_min_f86c9_1 : decode cJ9_min_f86c9 1 = .ok (.lload_n 2, 1) := by decide +kernel
theorem dJ9_min_f86c9_2 : decode cJ9_min_f86c9 2 = .ok (.lcmp, 1) := by decide +kernel
theorem dJ9_min_f86c9_3 : decode cJ9_min_f86c9 3 = .ok (.ifCond .gt 7, 3) := by decide +kernel
theorem dJ9_min_f86c9_6 : decode cJ9_min_f86c9 6 = .ok (.lload_n 0, 1) := by decide +kernel
theorem dJ9_min_f86c9_7 : decode cJ9_min_f86c9 7 = .ok (.goto 4, 3) := by decide +kernel
theorem dJ9_min_f86c9_10 : decode cJ9_min_f86c9 10 = .ok (.lload_n 2, 1) := by decide +kernel
theorem dJ9_min_f86c9_11 : decode cJ9_min_f86c9 11 = .ok (.lreturn, 1) := by decide +kernel
