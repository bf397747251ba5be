theorem dX0_init_0 : decode cX0_init 0 = .ok (.aload_n 0, 1) := by decide +kernel
theorem dX0_init_1 : decode cX0_init 1 = .ok (.invokespecial 3, 3) := by decide +kernel
theorem dX0_init_4 : decode cX0_init 4 = .ok (.aload_n 0, 1) := by decide +kernel
theorem dX0_init_5 : decode cX0_init 5 = .ok (.bipush 8, 2) := by decide +kernel
theorem dX0_init_7 : decode cX0_init 7 = .ok (.newarray .int, 2) := by decide +kernel
theorem dX0_init_9 : decode cX0_init 9 = .ok (.putfield 9, 3) := by decide +kernel
theorem dX0_init_12 : decode cX0_init 12 = .ok (.aload_n 0, 1) := by decide +kernel
theorem dX0_init_13 : decode cX0_init 13 = .ok (.aload_n 1, 1) := by decide +kernel
theorem dX0_init_14 : decode cX0_init 14 = .ok (.putfield 15, 3) := by decide +kernel
theorem dX0_init_17 : decode cX0_init 17 = .ok (.aload_n 0, 1) := by decide +kernel
theorem dX0_init_18 : decode cX0_init 18 = .ok (.aload_n 2, 1) := by decide +kernel
theorem dX0_init_19 : decode cX0_init 19 = .ok (.putfield 19, 3) := by decide +kernel
theorem dX0_init_22 : decode cX0_init 22 = .ok (.return_, 1) := by decide +kernel
theorem dX0_deal_0 : decode cX0_deal 0 = .ok (.aload_n 0, 1) := by decide +kernel
theorem dX0_deal_1 : decode cX0_deal 1 = .ok (.getfield 9, 3) := by decide +kernel
theorem dX0_deal_4 : decode cX0_deal 4 = .ok (.iconst (-1), 1) := by decide +kernel
theorem dX0_deal_5 : decode cX0_deal 5 = .ok (.invokestatic 23, 3) := by decide +kernel
theorem dX0_deal_8 : decode cX0_deal 8 = .ok (.iconst 0, 1) := by decide +kernel
theorem dX0_deal_9 : decode cX0_deal 9 = .ok (.istore_n 3, 1) := by decide +kernel
theorem dX0_deal_10 : decode cX0_deal 10 = .ok (.iconst 0, 1) := by decide +kernel
theorem dX0_deal_11 : decode cX0_deal 11 = .ok (.istore 4, 2) := by decide +kernel
theorem dX0_deal_13 : decode cX0_deal 13 = .ok (.iload 4, 2) := by decide +kernel
theorem dX0_deal_15 : decode cX0_deal 15 = .ok (.aload_n 0, 1) := by decide +kernel
theorem dX0_deal_16 : decode cX0_deal 16 = .ok (.getfield 19, 3) := by decide +kernel
theorem dX0_deal_19 : decode cX0_deal 19 = .ok (.getfield 29, 3) := by decide +kernel
theorem dX0_deal_22 : decode cX0_deal 22 = .ok (.if_icmp .ge 148, 3) := by decide +kernel
theorem dX0_deal_25 : decode cX0_deal 25 = .ok (.aload_n 0, 1) := by decide +kernel
theorem dX0_deal_26 : decode cX0_deal 26 = .ok (.getfield 19, 3) := by decide +kernel
theorem dX0_deal_29 : decode cX0_deal 29 = .ok (.getfield 35, 3) := by decide +kernel
theorem dX0_deal_32 : decode cX0_deal 32 = .ok (.iload 4, 2) := by decide +kernel
theorem dX0_deal_34 : decode cX0_deal 34 = .ok (.iaload, 1) := by decide +kernel
theorem dX0_deal_35 : decode cX0_deal 35 = .ok (.istore 5, 2) := by decide +kernel
theorem dX0_deal_37 : decode cX0_deal 37 = .ok (.iload_n 1, 1) := by decide +kernel
theorem dX0_deal_38 : decode cX0_deal 38 = .ok (.aload_n 0, 1) := by decide +kernel
theorem dX0_deal_39 : decode cX0_deal 39 = .ok (.getfield 19, 3) := by decide +kernel
theorem dX0_deal_42 : decode cX0_deal 42 = .ok (.getfield 38, 3) := by decide +kernel
theorem dX0_deal_45 : decode cX0_deal 45 = .ok (.iload 5, 2) := by decide +kernel
theorem dX0_deal_47 : decode cX0_deal 47 = .ok (.iaload, 1) := by decide +kernel
theorem dX0_deal_48 : decode cX0_deal 48 = .ok (.if_icmp .lt 116, 3) := by decide +kernel
theorem dX0_deal_51 : decode cX0_deal 51 = .ok (.iload_n 1, 1) := by decide +kernel
theorem dX0_deal_52 : decode cX0_deal 52 = .ok (.aload_n 0, 1) := by decide +kernel
theorem dX0_deal_53 : decode cX0_deal 53 = .ok (.getfield 19, 3) := by decide +kernel
theorem dX0_deal_56 : decode cX0_deal 56 = .ok (.getfield 38, 3) := by decide +kernel
theorem dX0_deal_59 : decode cX0_deal 59 = .ok (.iload 5, 2) := by decide +kernel
theorem dX0_deal_61 : decode cX0_deal 61 = .ok (.iaload, 1) := by decide +kernel
theorem dX0_deal_62 : decode cX0_deal 62 = .ok (.aload_n 0, 1) := by decide +kernel
theorem dX0_deal_63 : decode cX0_deal 63 = .ok (.getfield 19, 3) := by decide +kernel
theorem dX0_deal_66 : decode cX0_deal 66 = .ok (.getfield 41, 3) := by decide +kernel
theorem dX0_deal_69 : decode cX0_deal 69 = .ok (.iload 5, 2) := by decide +kernel
theorem dX0_deal_71 : decode cX0_deal 71 = .ok (.iaload, 1) := by decide +kernel
theorem dX0_deal_72 : decode cX0_deal 72 = .ok (.iadd, 1) := by decide +kernel
theorem dX0_deal_73 : decode cX0_deal 73 = .ok (.if_icmp .lt 6, 3) := by decide +kernel
theorem dX0_deal_76 : decode cX0_deal 76 = .ok (.goto 88, 3) := by decide +kernel
theorem dX0_deal_79 : decode cX0_deal 79 = .ok (.aload_n 0, 1) := by decide +kernel
theorem dX0_deal_80 : decode cX0_deal 80 = .ok (.getfield 19, 3) := by decide +kernel
theorem dX0_deal_83 : decode cX0_deal 83 = .ok (.getfield 44, 3) := by decide +kernel
theorem dX0_deal_86 : decode cX0_deal 86 = .ok (.iload 5, 2) := by decide +kernel
theorem dX0_deal_88 : decode cX0_deal 88 = .ok (.iaload, 1) := by decide +kernel
theorem dX0_deal_89 : decode cX0_deal 89 = .ok (.istore 6, 2) := by decide +kernel
theorem dX0_deal_91 : decode cX0_deal 91 = .ok (.iload 6, 2) := by decide +kernel
theorem dX0_deal_93 : decode cX0_deal 93 = .ok (.ifCond .le 64, 3) := by decide +kernel
theorem dX0_deal_96 : decode cX0_deal 96 = .ok (.iload_n 3, 1) := by decide +kernel
theorem dX0_deal_97 : decode cX0_deal 97 = .ok (.aload_n 0, 1) := by decide +kernel
theorem dX0_deal_98 : decode cX0_deal 98 = .ok (.getfield 15, 3) := by decide +kernel
theorem dX0_deal_101 : decode cX0_deal 101 = .ok (.getfield 47, 3) := by decide +kernel
theorem dX0_deal_104 : decode cX0_deal 104 = .ok (.if_icmp .ge 53, 3) := by decide +kernel
theorem dX0_deal_107 : decode cX0_deal 107 = .ok (.iload_n 3, 1) := by decide +kernel
theorem dX0_deal_108 : decode cX0_deal 108 = .ok (.iload_n 2, 1) := by decide +kernel
theorem dX0_deal_109 : decode cX0_deal 109 = .ok (.if_icmp .eq 42, 3) := by decide +kernel
theorem dX0_deal_112 : decode cX0_deal 112 = .ok (.aload_n 0, 1) := by decide +kernel
theorem dX0_deal_113 : decode cX0_deal 113 = .ok (.iload_n 3, 1) := by decide +kernel
theorem dX0_deal_114 : decode cX0_deal 114 = .ok (.aload_n 0, 1) := by decide +kernel
theorem dX0_deal_115 : decode cX0_deal 115 = .ok (.getfield 19, 3) := by decide +kernel
theorem dX0_deal_118 : decode cX0_deal 118 = .ok (.getfield 51, 3) := by decide +kernel
theorem dX0_deal_121 : decode cX0_deal 121 = .ok (.iload 5, 2) := by decide +kernel
theorem dX0_deal_123 : decode cX0_deal 123 = .ok (.iaload, 1) := by decide +kernel
theorem dX0_deal_124 : decode cX0_deal 124 = .ok (.aload_n 0, 1) := by decide +kernel
theorem dX0_deal_125 : decode cX0_deal 125 = .ok (.getfield 19, 3) := by decide +kernel
theorem dX0_deal_128 : decode cX0_deal 128 = .ok (.getfield 54, 3) := by decide +kernel
theorem dX0_deal_131 : decode cX0_deal 131 = .ok (.iload 5, 2) := by decide +kernel
theorem dX0_deal_133 : decode cX0_deal 133 = .ok (.iaload, 1) := by decide +kernel
theorem dX0_deal_134 : decode cX0_deal 134 = .ok (.invokevirtual 57, 3) := by decide +kernel
theorem dX0_deal_137 : decode cX0_deal 137 = .ok (.ifCond .eq 14, 3) := by decide +kernel
theorem dX0_deal_140 : decode cX0_deal 140 = .ok (.aload_n 0, 1) := by decide +kernel
theorem dX0_deal_141 : decode cX0_deal 141 = .ok (.getfield 9, 3) := by decide +kernel
theorem dX0_deal_144 : decode cX0_deal 144 = .ok (.iload_n 3, 1) := by decide +kernel
theorem dX0_deal_145 : decode cX0_deal 145 = .ok (.iload 5, 2) := by decide +kernel
theorem dX0_deal_147 : decode cX0_deal 147 = .ok (.iastore, 1) := by decide +kernel
theorem dX0_deal_148 : decode cX0_deal 148 = .ok (.iinc 6 (-1), 3) := by decide +kernel
theorem dX0_deal_151 : decode cX0_deal 151 = .ok (.iinc 3 1, 3) := by decide +kernel
theorem dX0_deal_154 : decode cX0_deal 154 = .ok (.goto (-63), 3) := by decide +kernel
theorem dX0_deal_157 : decode cX0_deal 157 = .ok (.iload 6, 2) := by decide +kernel
theorem dX0_deal_159 : decode cX0_deal 159 = .ok (.ifCond .le 5, 3) := by decide +kernel
theorem dX0_deal_162 : decode cX0_deal 162 = .ok (.iconst 0, 1) := by decide +kernel
theorem dX0_deal_163 : decode cX0_deal 163 = .ok (.ireturn, 1) := by decide +kernel
theorem dX0_deal_164 : decode cX0_deal 164 = .ok (.iinc 4 1, 3) := by decide +kernel
theorem dX0_deal_167 : decode cX0_deal 167 = .ok (.goto (-154), 3) := by decide +kernel
theorem dX0_deal_170 : decode cX0_deal 170 = .ok (.iconst 1, 1) := by decide +kernel
theorem dX0_deal_171 : decode cX0_deal 171 = .ok (.ireturn, 1) := by decide +kernel
theorem dX0_reaches_0 : decode cX0_reaches 0 = .ok (.aload_n 0, 1) := by decide +kernel
theorem dX0_reaches_1 : decode cX0_reaches 1 = .ok (.getfield 15, 3) := by decide +kernel
theorem dX0_reaches_4 : decode cX0_reaches 4 = .ok (.getfield 61, 3) := by decide +kernel
theorem dX0_reaches_7 : decode cX0_reaches 7 = .ok (.iload_n 1, 1) := by decide +kernel
theorem dX0_reaches_8 : decode cX0_reaches 8 = .ok (.iaload, 1) := by decide +kernel
theorem dX0_reaches_9 : decode cX0_reaches 9 = .ok (.iload_n 3, 1) := by decide +kernel
theorem dX0_reaches_10 : decode cX0_reaches 10 = .ok (.if_icmp .gt 20, 3) := by decide +kernel
theorem dX0_reaches_13 : decode cX0_reaches 13 = .ok (.aload_n 0, 1) := by decide +kernel
theorem dX0_reaches_14 : decode cX0_reaches 14 = .ok (.getfield 15, 3) := by decide +kernel
theorem dX0_reaches_17 : decode cX0_reaches 17 = .ok (.getfield 64, 3) := by decide +kernel
theorem dX0_reaches_20 : decode cX0_reaches 20 = .ok (.iload_n 1, 1) := by decide +kernel
theorem dX0_reaches_21 : decode cX0_reaches 21 = .ok (.iaload, 1) := by decide +kernel
theorem dX0_reaches_22 : decode cX0_reaches 22 = .ok (.iload_n 2, 1) := by decide +kernel
theorem dX0_reaches_23 : decode cX0_reaches 23 = .ok (.if_icmp .lt 7, 3) := by decide +kernel
theorem dX0_reaches_26 : decode cX0_reaches 26 = .ok (.iconst 1, 1) := by decide +kernel
theorem dX0_reaches_27 : decode cX0_reaches 27 = .ok (.goto 4, 3) := by decide +kernel
theorem dX0_reaches_30 : decode cX0_reaches 30 = .ok (.iconst 0, 1) := by decide +kernel
theorem dX0_reaches_31 : decode cX0_reaches 31 = .ok (.ireturn, 1) := by decide +kernel
theorem dX0_reaching_0 : decode cX0_reaching 0 = .ok (.iconst 0, 1) := by decide +kernel
theorem dX0_reaching_1 : decode cX0_reaching 1 = .ok (.istore_n 3, 1) := by decide +kernel
theorem dX0_reaching_2 : decode cX0_reaching 2 = .ok (.iconst 0, 1) := by decide +kernel
theorem dX0_reaching_3 : decode cX0_reaching 3 = .ok (.istore 4, 2) := by decide +kernel
theorem dX0_reaching_5 : decode cX0_reaching 5 = .ok (.iload 4, 2) := by decide +kernel
theorem dX0_reaching_7 : decode cX0_reaching 7 = .ok (.aload_n 0, 1) := by decide +kernel
theorem dX0_reaching_8 : decode cX0_reaching 8 = .ok (.getfield 15, 3) := by decide +kernel
theorem dX0_reaching_11 : decode cX0_reaching 11 = .ok (.getfield 47, 3) := by decide +kernel
theorem dX0_reaching_14 : decode cX0_reaching 14 = .ok (.if_icmp .ge 28, 3) := by decide +kernel
theorem dX0_reaching_17 : decode cX0_reaching 17 = .ok (.iload_n 3, 1) := by decide +kernel
theorem dX0_reaching_18 : decode cX0_reaching 18 = .ok (.aload_n 0, 1) := by decide +kernel
theorem dX0_reaching_19 : decode cX0_reaching 19 = .ok (.iload 4, 2) := by decide +kernel
theorem dX0_reaching_21 : decode cX0_reaching 21 = .ok (.iload_n 1, 1) := by decide +kernel
theorem dX0_reaching_22 : decode cX0_reaching 22 = .ok (.iload_n 2, 1) := by decide +kernel
theorem dX0_reaching_23 : decode cX0_reaching 23 = .ok (.invokevirtual 57, 3) := by decide +kernel
theorem dX0_reaching_26 : decode cX0_reaching 26 = .ok (.ifCond .eq 7, 3) := by decide +kernel
theorem dX0_reaching_29 : decode cX0_reaching 29 = .ok (.iconst 1, 1) := by decide +kernel
theorem dX0_reaching_30 : decode cX0_reaching 30 = .ok (.goto 4, 3) := by decide +kernel
theorem dX0_reaching_33 : decode cX0_reaching 33 = .ok (.iconst 0, 1) := by decide +kernel
theorem dX0_reaching_34 : decode cX0_reaching 34 = .ok (.iadd, 1) := by decide +kernel
theorem dX0_reaching_35 : decode cX0_reaching 35 = .ok (.istore_n 3, 1) := by decide +kernel
theorem dX0_reaching_36 : decode cX0_reaching 36 = .ok (.iinc 4 1, 3) := by decide +kernel
theorem dX0_reaching_39 : decode cX0_reaching 39 = .ok (.goto (-34), 3) := by decide +kernel
theorem dX0_reaching_42 : decode cX0_reaching 42 = .ok (.iload_n 3, 1) := by decide +kernel
theorem dX0_reaching_43 : decode cX0_reaching 43 = .ok (.ireturn, 1) := by decide +kernel
theorem dX0_suffices_0 : decode cX0_suffices 0 = .ok (.aload_n 0, 1) := by decide +kernel
theorem dX0_suffices_1 : decode cX0_suffices 1 = .ok (.getfield 19, 3) := by decide +kernel
theorem dX0_suffices_4 : decode cX0_suffices 4 = .ok (.iload_n 1, 1) := by decide +kernel
theorem dX0_suffices_5 : decode cX0_suffices 5 = .ok (.iload_n 2, 1) := by decide +kernel
theorem dX0_suffices_6 : decode cX0_suffices 6 = .ok (.iload_n 3, 1) := by decide +kernel
theorem dX0_suffices_7 : decode cX0_suffices 7 = .ok (.iload 4, 2) := by decide +kernel
theorem dX0_suffices_9 : decode cX0_suffices 9 = .ok (.iload 5, 2) := by decide +kernel
theorem dX0_suffices_11 : decode cX0_suffices 11 = .ok (.invokevirtual 67, 3) := by decide +kernel
theorem dX0_suffices_14 : decode cX0_suffices 14 = .ok (.aload_n 0, 1) := by decide +kernel
theorem dX0_suffices_15 : decode cX0_suffices 15 = .ok (.getfield 19, 3) := by decide +kernel
theorem dX0_suffices_18 : decode cX0_suffices 18 = .ok (.invokevirtual 71, 3) := by decide +kernel
theorem dX0_suffices_21 : decode cX0_suffices 21 = .ok (.iconst 1, 1) := by decide +kernel
theorem dX0_suffices_22 : decode cX0_suffices 22 = .ok (.istore 6, 2) := by decide +kernel
theorem dX0_suffices_24 : decode cX0_suffices 24 = .ok (.iconst 0, 1) := by decide +kernel
theorem dX0_suffices_25 : decode cX0_suffices 25 = .ok (.istore 7, 2) := by decide +kernel
theorem dX0_suffices_27 : decode cX0_suffices 27 = .ok (.iload 7, 2) := by decide +kernel
theorem dX0_suffices_29 : decode cX0_suffices 29 = .ok (.aload_n 0, 1) := by decide +kernel
theorem dX0_suffices_30 : decode cX0_suffices 30 = .ok (.getfield 19, 3) := by decide +kernel
theorem dX0_suffices_33 : decode cX0_suffices 33 = .ok (.getfield 29, 3) := by decide +kernel
theorem dX0_suffices_36 : decode cX0_suffices 36 = .ok (.if_icmp .ge 66, 3) := by decide +kernel
theorem dX0_suffices_39 : decode cX0_suffices 39 = .ok (.iload 6, 2) := by decide +kernel
theorem dX0_suffices_41 : decode cX0_suffices 41 = .ok (.ifCond .eq 61, 3) := by decide +kernel
theorem dX0_suffices_44 : decode cX0_suffices 44 = .ok (.aload_n 0, 1) := by decide +kernel
theorem dX0_suffices_45 : decode cX0_suffices 45 = .ok (.getfield 19, 3) := by decide +kernel
theorem dX0_suffices_48 : decode cX0_suffices 48 = .ok (.getfield 38, 3) := by decide +kernel
theorem dX0_suffices_51 : decode cX0_suffices 51 = .ok (.aload_n 0, 1) := by decide +kernel
theorem dX0_suffices_52 : decode cX0_suffices 52 = .ok (.getfield 19, 3) := by decide +kernel
theorem dX0_suffices_55 : decode cX0_suffices 55 = .ok (.getfield 35, 3) := by decide +kernel
theorem dX0_suffices_58 : decode cX0_suffices 58 = .ok (.iload 7, 2) := by decide +kernel
theorem dX0_suffices_60 : decode cX0_suffices 60 = .ok (.iaload, 1) := by decide +kernel
theorem dX0_suffices_61 : decode cX0_suffices 61 = .ok (.iaload, 1) := by decide +kernel
theorem dX0_suffices_62 : decode cX0_suffices 62 = .ok (.istore 8, 2) := by decide +kernel
theorem dX0_suffices_64 : decode cX0_suffices 64 = .ok (.iload 8, 2) := by decide +kernel
theorem dX0_suffices_66 : decode cX0_suffices 66 = .ok (.iload_n 3, 1) := by decide +kernel
theorem dX0_suffices_67 : decode cX0_suffices 67 = .ok (.if_icmp .lt 22, 3) := by decide +kernel
theorem dX0_suffices_70 : decode cX0_suffices 70 = .ok (.iload 8, 2) := by decide +kernel
theorem dX0_suffices_72 : decode cX0_suffices 72 = .ok (.iload_n 3, 1) := by decide +kernel
theorem dX0_suffices_73 : decode cX0_suffices 73 = .ok (.iload 5, 2) := by decide +kernel
theorem dX0_suffices_75 : decode cX0_suffices 75 = .ok (.iadd, 1) := by decide +kernel
theorem dX0_suffices_76 : decode cX0_suffices 76 = .ok (.if_icmp .ge 13, 3) := by decide +kernel
theorem dX0_suffices_79 : decode cX0_suffices 79 = .ok (.aload_n 0, 1) := by decide +kernel
theorem dX0_suffices_80 : decode cX0_suffices 80 = .ok (.iload 8, 2) := by decide +kernel
theorem dX0_suffices_82 : decode cX0_suffices 82 = .ok (.iconst (-1), 1) := by decide +kernel
theorem dX0_suffices_83 : decode cX0_suffices 83 = .ok (.invokevirtual 74, 3) := by decide +kernel
theorem dX0_suffices_86 : decode cX0_suffices 86 = .ok (.ifCond .eq 7, 3) := by decide +kernel
theorem dX0_suffices_89 : decode cX0_suffices 89 = .ok (.iconst 1, 1) := by decide +kernel
theorem dX0_suffices_90 : decode cX0_suffices 90 = .ok (.goto 4, 3) := by decide +kernel
theorem dX0_suffices_93 : decode cX0_suffices 93 = .ok (.iconst 0, 1) := by decide +kernel
theorem dX0_suffices_94 : decode cX0_suffices 94 = .ok (.istore 6, 2) := by decide +kernel
theorem dX0_suffices_96 : decode cX0_suffices 96 = .ok (.iinc 7 1, 3) := by decide +kernel
theorem dX0_suffices_99 : decode cX0_suffices 99 = .ok (.goto (-72), 3) := by decide +kernel
theorem dX0_suffices_102 : decode cX0_suffices 102 = .ok (.aload_n 0, 1) := by decide +kernel
theorem dX0_suffices_103 : decode cX0_suffices 103 = .ok (.getfield 19, 3) := by decide +kernel
theorem dX0_suffices_106 : decode cX0_suffices 106 = .ok (.iload_n 1, 1) := by decide +kernel
theorem dX0_suffices_107 : decode cX0_suffices 107 = .ok (.invokevirtual 78, 3) := by decide +kernel
theorem dX0_suffices_110 : decode cX0_suffices 110 = .ok (.iload 6, 2) := by decide +kernel
theorem dX0_suffices_112 : decode cX0_suffices 112 = .ok (.ireturn, 1) := by decide +kernel
theorem dX1_init_0 : decode cX1_init 0 = .ok (.aload_n 0, 1) := by decide +kernel
theorem dX1_init_1 : decode cX1_init 1 = .ok (.invokespecial 3, 3) := by decide +kernel
theorem dX1_init_4 : decode cX1_init 4 = .ok (.aload_n 0, 1) := by decide +kernel
theorem dX1_init_5 : decode cX1_init 5 = .ok (.iconst 4, 1) := by decide +kernel
theorem dX1_init_6 : decode cX1_init 6 = .ok (.newarray .int, 2) := by decide +kernel
theorem dX1_init_8 : decode cX1_init 8 = .ok (.putfield 9, 3) := by decide +kernel
theorem dX1_init_11 : decode cX1_init 11 = .ok (.aload_n 0, 1) := by decide +kernel
theorem dX1_init_12 : decode cX1_init 12 = .ok (.iconst 4, 1) := by decide +kernel
theorem dX1_init_13 : decode cX1_init 13 = .ok (.newarray .int, 2) := by decide +kernel
theorem dX1_init_15 : decode cX1_init 15 = .ok (.putfield 15, 3) := by decide +kernel
theorem dX1_init_18 : decode cX1_init 18 = .ok (.aload_n 0, 1) := by decide +kernel
theorem dX1_init_19 : decode cX1_init 19 = .ok (.iconst 4, 1) := by decide +kernel
theorem dX1_init_20 : decode cX1_init 20 = .ok (.newarray .int, 2) := by decide +kernel
theorem dX1_init_22 : decode cX1_init 22 = .ok (.putfield 18, 3) := by decide +kernel
theorem dX1_init_25 : decode cX1_init 25 = .ok (.aload_n 0, 1) := by decide +kernel
theorem dX1_init_26 : decode cX1_init 26 = .ok (.iconst 4, 1) := by decide +kernel
theorem dX1_init_27 : decode cX1_init 27 = .ok (.newarray .boolean, 2) := by decide +kernel
theorem dX1_init_29 : decode cX1_init 29 = .ok (.putfield 21, 3) := by decide +kernel
theorem dX1_init_32 : decode cX1_init 32 = .ok (.aload_n 0, 1) := by decide +kernel
theorem dX1_init_33 : decode cX1_init 33 = .ok (.aload_n 1, 1) := by decide +kernel
theorem dX1_init_34 : decode cX1_init 34 = .ok (.putfield 25, 3) := by decide +kernel
theorem dX1_init_37 : decode cX1_init 37 = .ok (.aload_n 0, 1) := by decide +kernel
theorem dX1_init_38 : decode cX1_init 38 = .ok (.aload_n 2, 1) := by decide +kernel
theorem dX1_init_39 : decode cX1_init 39 = .ok (.putfield 29, 3) := by decide +kernel
theorem dX1_init_42 : decode cX1_init 42 = .ok (.aload_n 0, 1) := by decide +kernel
theorem dX1_init_43 : decode cX1_init 43 = .ok (.aload_n 3, 1) := by decide +kernel
theorem dX1_init_44 : decode cX1_init 44 = .ok (.putfield 33, 3) := by decide +kernel
theorem dX1_init_47 : decode cX1_init 47 = .ok (.return_, 1) := by decide +kernel
theorem dX1_reckon_0 : decode cX1_reckon 0 = .ok (.aload_n 0, 1) := by decide +kernel
theorem dX1_reckon_1 : decode cX1_reckon 1 = .ok (.getfield 37, 3) := by decide +kernel
theorem dX1_reckon_4 : decode cX1_reckon 4 = .ok (.ifCond .eq 4, 3) := by decide +kernel
theorem dX1_reckon_7 : decode cX1_reckon 7 = .ok (.return_, 1) := by decide +kernel
theorem dX1_reckon_8 : decode cX1_reckon 8 = .ok (.aload_n 0, 1) := by decide +kernel
theorem dX1_reckon_9 : decode cX1_reckon 9 = .ok (.iconst 0, 1) := by decide +kernel
theorem dX1_reckon_10 : decode cX1_reckon 10 = .ok (.putfield 41, 3) := by decide +kernel
theorem dX1_reckon_13 : decode cX1_reckon 13 = .ok (.iconst 0, 1) := by decide +kernel
theorem dX1_reckon_14 : decode cX1_reckon 14 = .ok (.istore_n 1, 1) := by decide +kernel
theorem dX1_reckon_15 : decode cX1_reckon 15 = .ok (.iload_n 1, 1) := by decide +kernel
theorem dX1_reckon_16 : decode cX1_reckon 16 = .ok (.aload_n 0, 1) := by decide +kernel
theorem dX1_reckon_17 : decode cX1_reckon 17 = .ok (.getfield 25, 3) := by decide +kernel
theorem dX1_reckon_20 : decode cX1_reckon 20 = .ok (.getfield 45, 3) := by decide +kernel
theorem dX1_reckon_23 : decode cX1_reckon 23 = .ok (.if_icmp .ge 85, 3) := by decide +kernel
theorem dX1_reckon_26 : decode cX1_reckon 26 = .ok (.aload_n 0, 1) := by decide +kernel
theorem dX1_reckon_27 : decode cX1_reckon 27 = .ok (.getfield 41, 3) := by decide +kernel
theorem dX1_reckon_30 : decode cX1_reckon 30 = .ok (.iconst 4, 1) := by decide +kernel
theorem dX1_reckon_31 : decode cX1_reckon 31 = .ok (.if_icmp .ge 77, 3) := by decide +kernel
theorem dX1_reckon_34 : decode cX1_reckon 34 = .ok (.aload_n 0, 1) := by decide +kernel
theorem dX1_reckon_35 : decode cX1_reckon 35 = .ok (.getfield 29, 3) := by decide +kernel
theorem dX1_reckon_38 : decode cX1_reckon 38 = .ok (.iload_n 1, 1) := by decide +kernel
theorem dX1_reckon_39 : decode cX1_reckon 39 = .ok (.invokevirtual 48, 3) := by decide +kernel
theorem dX1_reckon_42 : decode cX1_reckon 42 = .ok (.ifCond .ne 60, 3) := by decide +kernel
theorem dX1_reckon_45 : decode cX1_reckon 45 = .ok (.aload_n 0, 1) := by decide +kernel
theorem dX1_reckon_46 : decode cX1_reckon 46 = .ok (.getfield 15, 3) := by decide +kernel
theorem dX1_reckon_49 : decode cX1_reckon 49 = .ok (.aload_n 0, 1) := by decide +kernel
theorem dX1_reckon_50 : decode cX1_reckon 50 = .ok (.getfield 41, 3) := by decide +kernel
theorem dX1_reckon_53 : decode cX1_reckon 53 = .ok (.iload_n 1, 1) := by decide +kernel
theorem dX1_reckon_54 : decode cX1_reckon 54 = .ok (.iastore, 1) := by decide +kernel
theorem dX1_reckon_55 : decode cX1_reckon 55 = .ok (.aload_n 0, 1) := by decide +kernel
theorem dX1_reckon_56 : decode cX1_reckon 56 = .ok (.getfield 21, 3) := by decide +kernel
theorem dX1_reckon_59 : decode cX1_reckon 59 = .ok (.aload_n 0, 1) := by decide +kernel
theorem dX1_reckon_60 : decode cX1_reckon 60 = .ok (.getfield 41, 3) := by decide +kernel
theorem dX1_reckon_63 : decode cX1_reckon 63 = .ok (.aload_n 0, 1) := by decide +kernel
theorem dX1_reckon_64 : decode cX1_reckon 64 = .ok (.getfield 33, 3) := by decide +kernel
theorem dX1_reckon_67 : decode cX1_reckon 67 = .ok (.iload_n 1, 1) := by decide +kernel
theorem dX1_reckon_68 : decode cX1_reckon 68 = .ok (.aload_n 0, 1) := by decide +kernel
theorem dX1_reckon_69 : decode cX1_reckon 69 = .ok (.getfield 25, 3) := by decide +kernel
theorem dX1_reckon_72 : decode cX1_reckon 72 = .ok (.iload_n 1, 1) := by decide +kernel
theorem dX1_reckon_73 : decode cX1_reckon 73 = .ok (.bipush 8, 2) := by decide +kernel
theorem dX1_reckon_75 : decode cX1_reckon 75 = .ok (.invokevirtual 54, 3) := by decide +kernel
theorem dX1_reckon_78 : decode cX1_reckon 78 = .ok (.aload_n 0, 1) := by decide +kernel
theorem dX1_reckon_79 : decode cX1_reckon 79 = .ok (.getfield 25, 3) := by decide +kernel
theorem dX1_reckon_82 : decode cX1_reckon 82 = .ok (.iload_n 1, 1) := by decide +kernel
theorem dX1_reckon_83 : decode cX1_reckon 83 = .ok (.bipush 7, 2) := by decide +kernel
theorem dX1_reckon_85 : decode cX1_reckon 85 = .ok (.invokevirtual 54, 3) := by decide +kernel
theorem dX1_reckon_88 : decode cX1_reckon 88 = .ok (.invokevirtual 58, 3) := by decide +kernel
theorem dX1_reckon_91 : decode cX1_reckon 91 = .ok (.bastore, 1) := by decide +kernel
theorem dX1_reckon_92 : decode cX1_reckon 92 = .ok (.aload_n 0, 1) := by decide +kernel
theorem dX1_reckon_93 : decode cX1_reckon 93 = .ok (.dup, 1) := by decide +kernel
theorem dX1_reckon_94 : decode cX1_reckon 94 = .ok (.getfield 41, 3) := by decide +kernel
theorem dX1_reckon_97 : decode cX1_reckon 97 = .ok (.iconst 1, 1) := by decide +kernel
theorem dX1_reckon_98 : decode cX1_reckon 98 = .ok (.iadd, 1) := by decide +kernel
theorem dX1_reckon_99 : decode cX1_reckon 99 = .ok (.putfield 41, 3) := by decide +kernel
theorem dX1_reckon_102 : decode cX1_reckon 102 = .ok (.iinc 1 1, 3) := by decide +kernel
theorem dX1_reckon_105 : decode cX1_reckon 105 = .ok (.goto (-90), 3) := by decide +kernel
theorem dX1_reckon_108 : decode cX1_reckon 108 = .ok (.aload_n 0, 1) := by decide +kernel
theorem dX1_reckon_109 : decode cX1_reckon 109 = .ok (.iconst 5, 1) := by decide +kernel
theorem dX1_reckon_110 : decode cX1_reckon 110 = .ok (.putfield 64, 3) := by decide +kernel
theorem dX1_reckon_113 : decode cX1_reckon 113 = .ok (.aload_n 0, 1) := by decide +kernel
theorem dX1_reckon_114 : decode cX1_reckon 114 = .ok (.iconst 0, 1) := by decide +kernel
theorem dX1_reckon_115 : decode cX1_reckon 115 = .ok (.putfield 67, 3) := by decide +kernel
theorem dX1_reckon_118 : decode cX1_reckon 118 = .ok (.aload_n 0, 1) := by decide +kernel
theorem dX1_reckon_119 : decode cX1_reckon 119 = .ok (.iconst 0, 1) := by decide +kernel
theorem dX1_reckon_120 : decode cX1_reckon 120 = .ok (.iconst 0, 1) := by decide +kernel
theorem dX1_reckon_121 : decode cX1_reckon 121 = .ok (.iconst 0, 1) := by decide +kernel
theorem dX1_reckon_122 : decode cX1_reckon 122 = .ok (.iconst 0, 1) := by decide +kernel
theorem dX1_reckon_123 : decode cX1_reckon 123 = .ok (.invokevirtual 70, 3) := by decide +kernel
theorem dX1_reckon_126 : decode cX1_reckon 126 = .ok (.aload_n 0, 1) := by decide +kernel
theorem dX1_reckon_127 : decode cX1_reckon 127 = .ok (.iconst 1, 1) := by decide +kernel
theorem dX1_reckon_128 : decode cX1_reckon 128 = .ok (.putfield 37, 3) := by decide +kernel
theorem dX1_reckon_131 : decode cX1_reckon 131 = .ok (.return_, 1) := by decide +kernel
theorem dX1_tryFrom_0 : decode cX1_tryFrom 0 = .ok (.iload_n 3, 1) := by decide +kernel
theorem dX1_tryFrom_1 : decode cX1_tryFrom 1 = .ok (.aload_n 0, 1) := by decide +kernel
theorem dX1_tryFrom_2 : decode cX1_tryFrom 2 = .ok (.getfield 64, 3) := by decide +kernel
theorem dX1_tryFrom_5 : decode cX1_tryFrom 5 = .ok (.if_icmp .gt 20, 3) := by decide +kernel
theorem dX1_tryFrom_8 : decode cX1_tryFrom 8 = .ok (.iload_n 3, 1) := by decide +kernel
theorem dX1_tryFrom_9 : decode cX1_tryFrom 9 = .ok (.aload_n 0, 1) := by decide +kernel
theorem dX1_tryFrom_10 : decode cX1_tryFrom 10 = .ok (.getfield 64, 3) := by decide +kernel
theorem dX1_tryFrom_13 : decode cX1_tryFrom 13 = .ok (.if_icmp .ne 13, 3) := by decide +kernel
theorem dX1_tryFrom_16 : decode cX1_tryFrom 16 = .ok (.iload 4, 2) := by decide +kernel
theorem dX1_tryFrom_18 : decode cX1_tryFrom 18 = .ok (.aload_n 0, 1) := by decide +kernel
theorem dX1_tryFrom_19 : decode cX1_tryFrom 19 = .ok (.getfield 67, 3) := by decide +kernel
theorem dX1_tryFrom_22 : decode cX1_tryFrom 22 = .ok (.if_icmp .lt 4, 3) := by decide +kernel
theorem dX1_tryFrom_25 : decode cX1_tryFrom 25 = .ok (.return_, 1) := by decide +kernel
theorem dX1_tryFrom_26 : decode cX1_tryFrom 26 = .ok (.iload_n 1, 1) := by decide +kernel
theorem dX1_tryFrom_27 : decode cX1_tryFrom 27 = .ok (.aload_n 0, 1) := by decide +kernel
theorem dX1_tryFrom_28 : decode cX1_tryFrom 28 = .ok (.getfield 41, 3) := by decide +kernel
theorem dX1_tryFrom_31 : decode cX1_tryFrom 31 = .ok (.if_icmp .ge 8, 3) := by decide +kernel
theorem dX1_tryFrom_34 : decode cX1_tryFrom 34 = .ok (.iload_n 1, 1) := by decide +kernel
theorem dX1_tryFrom_35 : decode cX1_tryFrom 35 = .ok (.iconst 4, 1) := by decide +kernel
theorem dX1_tryFrom_36 : decode cX1_tryFrom 36 = .ok (.if_icmp .lt 29, 3) := by decide +kernel
theorem dX1_tryFrom_39 : decode cX1_tryFrom 39 = .ok (.aload_n 0, 1) := by decide +kernel
theorem dX1_tryFrom_40 : decode cX1_tryFrom 40 = .ok (.iload_n 3, 1) := by decide +kernel
theorem dX1_tryFrom_41 : decode cX1_tryFrom 41 = .ok (.putfield 64, 3) := by decide +kernel
theorem dX1_tryFrom_44 : decode cX1_tryFrom 44 = .ok (.aload_n 0, 1) := by decide +kernel
theorem dX1_tryFrom_45 : decode cX1_tryFrom 45 = .ok (.iload 4, 2) := by decide +kernel
theorem dX1_tryFrom_47 : decode cX1_tryFrom 47 = .ok (.putfield 67, 3) := by decide +kernel
theorem dX1_tryFrom_50 : decode cX1_tryFrom 50 = .ok (.aload_n 0, 1) := by decide +kernel
theorem dX1_tryFrom_51 : decode cX1_tryFrom 51 = .ok (.getfield 18, 3) := by decide +kernel
theorem dX1_tryFrom_54 : decode cX1_tryFrom 54 = .ok (.iconst 0, 1) := by decide +kernel
theorem dX1_tryFrom_55 : decode cX1_tryFrom 55 = .ok (.aload_n 0, 1) := by decide +kernel
theorem dX1_tryFrom_56 : decode cX1_tryFrom 56 = .ok (.getfield 9, 3) := by decide +kernel
theorem dX1_tryFrom_59 : decode cX1_tryFrom 59 = .ok (.iconst 0, 1) := by decide +kernel
theorem dX1_tryFrom_60 : decode cX1_tryFrom 60 = .ok (.iconst 4, 1) := by decide +kernel
theorem dX1_tryFrom_61 : decode cX1_tryFrom 61 = .ok (.invokestatic 74, 3) := by decide +kernel
theorem dX1_tryFrom_64 : decode cX1_tryFrom 64 = .ok (.return_, 1) := by decide +kernel
theorem dX1_tryFrom_65 : decode cX1_tryFrom 65 = .ok (.iconst 0, 1) := by decide +kernel
theorem dX1_tryFrom_66 : decode cX1_tryFrom 66 = .ok (.istore 5, 2) := by decide +kernel
theorem dX1_tryFrom_68 : decode cX1_tryFrom 68 = .ok (.iload 5, 2) := by decide +kernel
theorem dX1_tryFrom_70 : decode cX1_tryFrom 70 = .ok (.aload_n 0, 1) := by decide +kernel
theorem dX1_tryFrom_71 : decode cX1_tryFrom 71 = .ok (.getfield 41, 3) := by decide +kernel
theorem dX1_tryFrom_74 : decode cX1_tryFrom 74 = .ok (.if_icmp .ge 168, 3) := by decide +kernel
theorem dX1_tryFrom_77 : decode cX1_tryFrom 77 = .ok (.iload_n 2, 1) := by decide +kernel
theorem dX1_tryFrom_78 : decode cX1_tryFrom 78 = .ok (.iload 5, 2) := by decide +kernel
theorem dX1_tryFrom_80 : decode cX1_tryFrom 80 = .ok (.ishr, 1) := by decide +kernel
theorem dX1_tryFrom_81 : decode cX1_tryFrom 81 = .ok (.iconst 1, 1) := by decide +kernel
theorem dX1_tryFrom_82 : decode cX1_tryFrom 82 = .ok (.iand, 1) := by decide +kernel
theorem dX1_tryFrom_83 : decode cX1_tryFrom 83 = .ok (.ifCond .eq 6, 3) := by decide +kernel
theorem dX1_tryFrom_86 : decode cX1_tryFrom 86 = .ok (.goto 150, 3) := by decide +kernel
theorem dX1_tryFrom_89 : decode cX1_tryFrom 89 = .ok (.aload_n 0, 1) := by decide +kernel
theorem dX1_tryFrom_90 : decode cX1_tryFrom 90 = .ok (.getfield 15, 3) := by decide +kernel
theorem dX1_tryFrom_93 : decode cX1_tryFrom 93 = .ok (.iload 5, 2) := by decide +kernel
theorem dX1_tryFrom_95 : decode cX1_tryFrom 95 = .ok (.iaload, 1) := by decide +kernel
theorem dX1_tryFrom_96 : decode cX1_tryFrom 96 = .ok (.istore 6, 2) := by decide +kernel
theorem dX1_tryFrom_98 : decode cX1_tryFrom 98 = .ok (.aload_n 0, 1) := by decide +kernel
theorem dX1_tryFrom_99 : decode cX1_tryFrom 99 = .ok (.getfield 18, 3) := by decide +kernel
theorem dX1_tryFrom_102 : decode cX1_tryFrom 102 = .ok (.iload_n 1, 1) := by decide +kernel
theorem dX1_tryFrom_103 : decode cX1_tryFrom 103 = .ok (.iload 6, 2) := by decide +kernel
theorem dX1_tryFrom_105 : decode cX1_tryFrom 105 = .ok (.iastore, 1) := by decide +kernel
theorem dX1_tryFrom_106 : decode cX1_tryFrom 106 = .ok (.aload_n 0, 1) := by decide +kernel
theorem dX1_tryFrom_107 : decode cX1_tryFrom 107 = .ok (.getfield 21, 3) := by decide +kernel
theorem dX1_tryFrom_110 : decode cX1_tryFrom 110 = .ok (.iload 5, 2) := by decide +kernel
theorem dX1_tryFrom_112 : decode cX1_tryFrom 112 = .ok (.baload, 1) := by decide +kernel
theorem dX1_tryFrom_113 : decode cX1_tryFrom 113 = .ok (.ifCond .eq 105, 3) := by decide +kernel
theorem dX1_tryFrom_116 : decode cX1_tryFrom 116 = .ok (.aload_n 0, 1) := by decide +kernel
theorem dX1_tryFrom_117 : decode cX1_tryFrom 117 = .ok (.getfield 33, 3) := by decide +kernel
theorem dX1_tryFrom_120 : decode cX1_tryFrom 120 = .ok (.iload 6, 2) := by decide +kernel
theorem dX1_tryFrom_122 : decode cX1_tryFrom 122 = .ok (.aload_n 0, 1) := by decide +kernel
theorem dX1_tryFrom_123 : decode cX1_tryFrom 123 = .ok (.getfield 25, 3) := by decide +kernel
theorem dX1_tryFrom_126 : decode cX1_tryFrom 126 = .ok (.iload 6, 2) := by decide +kernel
theorem dX1_tryFrom_128 : decode cX1_tryFrom 128 = .ok (.bipush 8, 2) := by decide +kernel
theorem dX1_tryFrom_130 : decode cX1_tryFrom 130 = .ok (.invokevirtual 54, 3) := by decide +kernel
theorem dX1_tryFrom_133 : decode cX1_tryFrom 133 = .ok (.aload_n 0, 1) := by decide +kernel
theorem dX1_tryFrom_134 : decode cX1_tryFrom 134 = .ok (.getfield 25, 3) := by decide +kernel
theorem dX1_tryFrom_137 : decode cX1_tryFrom 137 = .ok (.iload 6, 2) := by decide +kernel
theorem dX1_tryFrom_139 : decode cX1_tryFrom 139 = .ok (.bipush 7, 2) := by decide +kernel
theorem dX1_tryFrom_141 : decode cX1_tryFrom 141 = .ok (.invokevirtual 54, 3) := by decide +kernel
theorem dX1_tryFrom_144 : decode cX1_tryFrom 144 = .ok (.invokevirtual 58, 3) := by decide +kernel
theorem dX1_tryFrom_147 : decode cX1_tryFrom 147 = .ok (.ifCond .eq 71, 3) := by decide +kernel
theorem dX1_tryFrom_150 : decode cX1_tryFrom 150 = .ok (.aload_n 0, 1) := by decide +kernel
theorem dX1_tryFrom_151 : decode cX1_tryFrom 151 = .ok (.getfield 29, 3) := by decide +kernel
theorem dX1_tryFrom_154 : decode cX1_tryFrom 154 = .ok (.iload 6, 2) := by decide +kernel
theorem dX1_tryFrom_156 : decode cX1_tryFrom 156 = .ok (.aload_n 0, 1) := by decide +kernel
theorem dX1_tryFrom_157 : decode cX1_tryFrom 157 = .ok (.getfield 33, 3) := by decide +kernel
theorem dX1_tryFrom_160 : decode cX1_tryFrom 160 = .ok (.getfield 80, 3) := by decide +kernel
theorem dX1_tryFrom_163 : decode cX1_tryFrom 163 = .ok (.aload_n 0, 1) := by decide +kernel
theorem dX1_tryFrom_164 : decode cX1_tryFrom 164 = .ok (.getfield 33, 3) := by decide +kernel
theorem dX1_tryFrom_167 : decode cX1_tryFrom 167 = .ok (.getfield 83, 3) := by decide +kernel
theorem dX1_tryFrom_170 : decode cX1_tryFrom 170 = .ok (.aload_n 0, 1) := by decide +kernel
theorem dX1_tryFrom_171 : decode cX1_tryFrom 171 = .ok (.getfield 33, 3) := by decide +kernel
theorem dX1_tryFrom_174 : decode cX1_tryFrom 174 = .ok (.getfield 86, 3) := by decide +kernel
theorem dX1_tryFrom_177 : decode cX1_tryFrom 177 = .ok (.invokevirtual 89, 3) := by decide +kernel
theorem dX1_tryFrom_180 : decode cX1_tryFrom 180 = .ok (.aload_n 0, 1) := by decide +kernel
theorem dX1_tryFrom_181 : decode cX1_tryFrom 181 = .ok (.iload_n 1, 1) := by decide +kernel
theorem dX1_tryFrom_182 : decode cX1_tryFrom 182 = .ok (.iconst 1, 1) := by decide +kernel
theorem dX1_tryFrom_183 : decode cX1_tryFrom 183 = .ok (.iadd, 1) := by decide +kernel
theorem dX1_tryFrom_184 : decode cX1_tryFrom 184 = .ok (.iload_n 2, 1) := by decide +kernel
theorem dX1_tryFrom_185 : decode cX1_tryFrom 185 = .ok (.iconst 1, 1) := by decide +kernel
theorem dX1_tryFrom_186 : decode cX1_tryFrom 186 = .ok (.iload 5, 2) := by decide +kernel
theorem dX1_tryFrom_188 : decode cX1_tryFrom 188 = .ok (.ishl, 1) := by decide +kernel
theorem dX1_tryFrom_189 : decode cX1_tryFrom 189 = .ok (.ior, 1) := by decide +kernel
theorem dX1_tryFrom_190 : decode cX1_tryFrom 190 = .ok (.iload_n 3, 1) := by decide +kernel
theorem dX1_tryFrom_191 : decode cX1_tryFrom 191 = .ok (.iload 4, 2) := by decide +kernel
theorem dX1_tryFrom_193 : decode cX1_tryFrom 193 = .ok (.aload_n 0, 1) := by decide +kernel
theorem dX1_tryFrom_194 : decode cX1_tryFrom 194 = .ok (.getfield 29, 3) := by decide +kernel
theorem dX1_tryFrom_197 : decode cX1_tryFrom 197 = .ok (.iload 6, 2) := by decide +kernel
theorem dX1_tryFrom_199 : decode cX1_tryFrom 199 = .ok (.invokevirtual 92, 3) := by decide +kernel
theorem dX1_tryFrom_202 : decode cX1_tryFrom 202 = .ok (.iadd, 1) := by decide +kernel
theorem dX1_tryFrom_203 : decode cX1_tryFrom 203 = .ok (.invokevirtual 70, 3) := by decide +kernel
theorem dX1_tryFrom_206 : decode cX1_tryFrom 206 = .ok (.aload_n 0, 1) := by decide +kernel
theorem dX1_tryFrom_207 : decode cX1_tryFrom 207 = .ok (.getfield 29, 3) := by decide +kernel
theorem dX1_tryFrom_210 : decode cX1_tryFrom 210 = .ok (.iload 6, 2) := by decide +kernel
theorem dX1_tryFrom_212 : decode cX1_tryFrom 212 = .ok (.invokevirtual 96, 3) := by decide +kernel
theorem dX1_tryFrom_215 : decode cX1_tryFrom 215 = .ok (.goto 21, 3) := by decide +kernel
theorem dX1_tryFrom_218 : decode cX1_tryFrom 218 = .ok (.aload_n 0, 1) := by decide +kernel
theorem dX1_tryFrom_219 : decode cX1_tryFrom 219 = .ok (.iload_n 1, 1) := by decide +kernel
theorem dX1_tryFrom_220 : decode cX1_tryFrom 220 = .ok (.iconst 1, 1) := by decide +kernel
theorem dX1_tryFrom_221 : decode cX1_tryFrom 221 = .ok (.iadd, 1) := by decide +kernel
theorem dX1_tryFrom_222 : decode cX1_tryFrom 222 = .ok (.iload_n 2, 1) := by decide +kernel
theorem dX1_tryFrom_223 : decode cX1_tryFrom 223 = .ok (.iconst 1, 1) := by decide +kernel
theorem dX1_tryFrom_224 : decode cX1_tryFrom 224 = .ok (.iload 5, 2) := by decide +kernel
theorem dX1_tryFrom_226 : decode cX1_tryFrom 226 = .ok (.ishl, 1) := by decide +kernel
theorem dX1_tryFrom_227 : decode cX1_tryFrom 227 = .ok (.ior, 1) := by decide +kernel
theorem dX1_tryFrom_228 : decode cX1_tryFrom 228 = .ok (.iload_n 3, 1) := by decide +kernel
theorem dX1_tryFrom_229 : decode cX1_tryFrom 229 = .ok (.iconst 1, 1) := by decide +kernel
theorem dX1_tryFrom_230 : decode cX1_tryFrom 230 = .ok (.iadd, 1) := by decide +kernel
theorem dX1_tryFrom_231 : decode cX1_tryFrom 231 = .ok (.iload 4, 2) := by decide +kernel
theorem dX1_tryFrom_233 : decode cX1_tryFrom 233 = .ok (.invokevirtual 70, 3) := by decide +kernel
theorem dX1_tryFrom_236 : decode cX1_tryFrom 236 = .ok (.iinc 5 1, 3) := by decide +kernel
theorem dX1_tryFrom_239 : decode cX1_tryFrom 239 = .ok (.goto (-171), 3) := by decide +kernel
theorem dX1_tryFrom_242 : decode cX1_tryFrom 242 = .ok (.return_, 1) := by decide +kernel
theorem dX2_init_0 : decode cX2_init 0 = .ok (.aload_n 0, 1) := by decide +kernel
theorem dX2_init_1 : decode cX2_init 1 = .ok (.invokespecial 3, 3) := by decide +kernel
theorem dX2_init_4 : decode cX2_init 4 = .ok (.aload_n 0, 1) := by decide +kernel
theorem dX2_init_5 : decode cX2_init 5 = .ok (.bipush 12, 2) := by decide +kernel
theorem dX2_init_7 : decode cX2_init 7 = .ok (.bipush 42, 2) := by decide +kernel
theorem dX2_init_9 : decode cX2_init 9 = .ok (.multianewarray 9 2, 4) := by decide +kernel
theorem dX2_init_13 : decode cX2_init 13 = .ok (.putfield 11, 3) := by decide +kernel
theorem dX2_init_16 : decode cX2_init 16 = .ok (.aload_n 0, 1) := by decide +kernel
theorem dX2_init_17 : decode cX2_init 17 = .ok (.iconst 4, 1) := by decide +kernel
theorem dX2_init_18 : decode cX2_init 18 = .ok (.bipush 42, 2) := by decide +kernel
theorem dX2_init_20 : decode cX2_init 20 = .ok (.multianewarray 9 2, 4) := by decide +kernel
theorem dX2_init_24 : decode cX2_init 24 = .ok (.putfield 16, 3) := by decide +kernel
theorem dX2_init_27 : decode cX2_init 27 = .ok (.return_, 1) := by decide +kernel
theorem dX2_forget_0 : decode cX2_forget 0 = .ok (.aload_n 0, 1) := by decide +kernel
theorem dX2_forget_1 : decode cX2_forget 1 = .ok (.iconst 0, 1) := by decide +kernel
theorem dX2_forget_2 : decode cX2_forget 2 = .ok (.putfield 19, 3) := by decide +kernel
theorem dX2_forget_5 : decode cX2_forget 5 = .ok (.aload_n 0, 1) := by decide +kernel
theorem dX2_forget_6 : decode cX2_forget 6 = .ok (.iconst 0, 1) := by decide +kernel
theorem dX2_forget_7 : decode cX2_forget 7 = .ok (.putfield 23, 3) := by decide +kernel
theorem dX2_forget_10 : decode cX2_forget 10 = .ok (.return_, 1) := by decide +kernel
theorem dX2_keep_0 : decode cX2_keep 0 = .ok (.aload_n 0, 1) := by decide +kernel
theorem dX2_keep_1 : decode cX2_keep 1 = .ok (.getfield 26, 3) := by decide +kernel
theorem dX2_keep_4 : decode cX2_keep 4 = .ok (.aload_n 0, 1) := by decide +kernel
theorem dX2_keep_5 : decode cX2_keep 5 = .ok (.getfield 19, 3) := by decide +kernel
theorem dX2_keep_8 : decode cX2_keep 8 = .ok (.iadd, 1) := by decide +kernel
theorem dX2_keep_9 : decode cX2_keep 9 = .ok (.bipush 12, 2) := by decide +kernel
theorem dX2_keep_11 : decode cX2_keep 11 = .ok (.irem, 1) := by decide +kernel
theorem dX2_keep_12 : decode cX2_keep 12 = .ok (.istore_n 2, 1) := by decide +kernel
theorem dX2_keep_13 : decode cX2_keep 13 = .ok (.aload_n 1, 1) := by decide +kernel
theorem dX2_keep_14 : decode cX2_keep 14 = .ok (.iconst 0, 1) := by decide +kernel
theorem dX2_keep_15 : decode cX2_keep 15 = .ok (.aload_n 0, 1) := by decide +kernel
theorem dX2_keep_16 : decode cX2_keep 16 = .ok (.getfield 11, 3) := by decide +kernel
theorem dX2_keep_19 : decode cX2_keep 19 = .ok (.iload_n 2, 1) := by decide +kernel
theorem dX2_keep_20 : decode cX2_keep 20 = .ok (.aaload, 1) := by decide +kernel
theorem dX2_keep_21 : decode cX2_keep 21 = .ok (.iconst 0, 1) := by decide +kernel
theorem dX2_keep_22 : decode cX2_keep 22 = .ok (.bipush 42, 2) := by decide +kernel
theorem dX2_keep_24 : decode cX2_keep 24 = .ok (.invokestatic 29, 3) := by decide +kernel
theorem dX2_keep_27 : decode cX2_keep 27 = .ok (.aload_n 0, 1) := by decide +kernel
theorem dX2_keep_28 : decode cX2_keep 28 = .ok (.getfield 19, 3) := by decide +kernel
theorem dX2_keep_31 : decode cX2_keep 31 = .ok (.bipush 12, 2) := by decide +kernel
theorem dX2_keep_33 : decode cX2_keep 33 = .ok (.if_icmp .ne 19, 3) := by decide +kernel
theorem dX2_keep_36 : decode cX2_keep 36 = .ok (.aload_n 0, 1) := by decide +kernel
theorem dX2_keep_37 : decode cX2_keep 37 = .ok (.aload_n 0, 1) := by decide +kernel
theorem dX2_keep_38 : decode cX2_keep 38 = .ok (.getfield 26, 3) := by decide +kernel
theorem dX2_keep_41 : decode cX2_keep 41 = .ok (.iconst 1, 1) := by decide +kernel
theorem dX2_keep_42 : decode cX2_keep 42 = .ok (.iadd, 1) := by decide +kernel
theorem dX2_keep_43 : decode cX2_keep 43 = .ok (.bipush 12, 2) := by decide +kernel
theorem dX2_keep_45 : decode cX2_keep 45 = .ok (.irem, 1) := by decide +kernel
theorem dX2_keep_46 : decode cX2_keep 46 = .ok (.putfield 26, 3) := by decide +kernel
theorem dX2_keep_49 : decode cX2_keep 49 = .ok (.goto 13, 3) := by decide +kernel
theorem dX2_keep_52 : decode cX2_keep 52 = .ok (.aload_n 0, 1) := by decide +kernel
theorem dX2_keep_53 : decode cX2_keep 53 = .ok (.dup, 1) := by decide +kernel
theorem dX2_keep_54 : decode cX2_keep 54 = .ok (.getfield 19, 3) := by decide +kernel
theorem dX2_keep_57 : decode cX2_keep 57 = .ok (.iconst 1, 1) := by decide +kernel
theorem dX2_keep_58 : decode cX2_keep 58 = .ok (.iadd, 1) := by decide +kernel
theorem dX2_keep_59 : decode cX2_keep 59 = .ok (.putfield 19, 3) := by decide +kernel
theorem dX2_keep_62 : decode cX2_keep 62 = .ok (.return_, 1) := by decide +kernel
theorem dX2_takeLatest_0 : decode cX2_takeLatest 0 = .ok (.aload_n 0, 1) := by decide +kernel
theorem dX2_takeLatest_1 : decode cX2_takeLatest 1 = .ok (.getfield 19, 3) := by decide +kernel
theorem dX2_takeLatest_4 : decode cX2_takeLatest 4 = .ok (.ifCond .ne 5, 3) := by decide +kernel
theorem dX2_takeLatest_7 : decode cX2_takeLatest 7 = .ok (.iconst 0, 1) := by decide +kernel
theorem dX2_takeLatest_8 : decode cX2_takeLatest 8 = .ok (.ireturn, 1) := by decide +kernel
theorem dX2_takeLatest_9 : decode cX2_takeLatest 9 = .ok (.aload_n 0, 1) := by decide +kernel
theorem dX2_takeLatest_10 : decode cX2_takeLatest 10 = .ok (.dup, 1) := by decide +kernel
theorem dX2_takeLatest_11 : decode cX2_takeLatest 11 = .ok (.getfield 19, 3) := by decide +kernel
theorem dX2_takeLatest_14 : decode cX2_takeLatest 14 = .ok (.iconst 1, 1) := by decide +kernel
theorem dX2_takeLatest_15 : decode cX2_takeLatest 15 = .ok (.isub, 1) := by decide +kernel
theorem dX2_takeLatest_16 : decode cX2_takeLatest 16 = .ok (.putfield 19, 3) := by decide +kernel
theorem dX2_takeLatest_19 : decode cX2_takeLatest 19 = .ok (.aload_n 0, 1) := by decide +kernel
theorem dX2_takeLatest_20 : decode cX2_takeLatest 20 = .ok (.getfield 11, 3) := by decide +kernel
theorem dX2_takeLatest_23 : decode cX2_takeLatest 23 = .ok (.aload_n 0, 1) := by decide +kernel
theorem dX2_takeLatest_24 : decode cX2_takeLatest 24 = .ok (.getfield 26, 3) := by decide +kernel
theorem dX2_takeLatest_27 : decode cX2_takeLatest 27 = .ok (.aload_n 0, 1) := by decide +kernel
theorem dX2_takeLatest_28 : decode cX2_takeLatest 28 = .ok (.getfield 19, 3) := by decide +kernel
theorem dX2_takeLatest_31 : decode cX2_takeLatest 31 = .ok (.iadd, 1) := by decide +kernel
theorem dX2_takeLatest_32 : decode cX2_takeLatest 32 = .ok (.bipush 12, 2) := by decide +kernel
theorem dX2_takeLatest_34 : decode cX2_takeLatest 34 = .ok (.irem, 1) := by decide +kernel
theorem dX2_takeLatest_35 : decode cX2_takeLatest 35 = .ok (.aaload, 1) := by decide +kernel
theorem dX2_takeLatest_36 : decode cX2_takeLatest 36 = .ok (.iconst 0, 1) := by decide +kernel
theorem dX2_takeLatest_37 : decode cX2_takeLatest 37 = .ok (.aload_n 1, 1) := by decide +kernel
theorem dX2_takeLatest_38 : decode cX2_takeLatest 38 = .ok (.iconst 0, 1) := by decide +kernel
theorem dX2_takeLatest_39 : decode cX2_takeLatest 39 = .ok (.bipush 42, 2) := by decide +kernel
theorem dX2_takeLatest_41 : decode cX2_takeLatest 41 = .ok (.invokestatic 29, 3) := by decide +kernel
theorem dX2_takeLatest_44 : decode cX2_takeLatest 44 = .ok (.iconst 1, 1) := by decide +kernel
theorem dX2_takeLatest_45 : decode cX2_takeLatest 45 = .ok (.ireturn, 1) := by decide +kernel
theorem dX2_isMade_0 : decode cX2_isMade 0 = .ok (.iload_n 1, 1) := by decide +kernel
theorem dX2_isMade_1 : decode cX2_isMade 1 = .ok (.ifCond .lt 23, 3) := by decide +kernel
theorem dX2_isMade_4 : decode cX2_isMade 4 = .ok (.iload_n 1, 1) := by decide +kernel
theorem dX2_isMade_5 : decode cX2_isMade 5 = .ok (.iconst 4, 1) := by decide +kernel
theorem dX2_isMade_6 : decode cX2_isMade 6 = .ok (.if_icmp .ge 18, 3) := by decide +kernel
theorem dX2_isMade_9 : decode cX2_isMade 9 = .ok (.aload_n 0, 1) := by decide +kernel
theorem dX2_isMade_10 : decode cX2_isMade 10 = .ok (.getfield 23, 3) := by decide +kernel
theorem dX2_isMade_13 : decode cX2_isMade 13 = .ok (.iload_n 1, 1) := by decide +kernel
theorem dX2_isMade_14 : decode cX2_isMade 14 = .ok (.ishr, 1) := by decide +kernel
theorem dX2_isMade_15 : decode cX2_isMade 15 = .ok (.iconst 1, 1) := by decide +kernel
theorem dX2_isMade_16 : decode cX2_isMade 16 = .ok (.iand, 1) := by decide +kernel
theorem dX2_isMade_17 : decode cX2_isMade 17 = .ok (.ifCond .eq 7, 3) := by decide +kernel
theorem dX2_isMade_20 : decode cX2_isMade 20 = .ok (.iconst 1, 1) := by decide +kernel
theorem dX2_isMade_21 : decode cX2_isMade 21 = .ok (.goto 4, 3) := by decide +kernel
theorem dX2_isMade_24 : decode cX2_isMade 24 = .ok (.iconst 0, 1) := by decide +kernel
theorem dX2_isMade_25 : decode cX2_isMade 25 = .ok (.ireturn, 1) := by decide +kernel
theorem dX2_marksMade_0 : decode cX2_marksMade 0 = .ok (.aload_n 0, 1) := by decide +kernel
theorem dX2_marksMade_1 : decode cX2_marksMade 1 = .ok (.getfield 23, 3) := by decide +kernel
theorem dX2_marksMade_4 : decode cX2_marksMade 4 = .ok (.invokestatic 35, 3) := by decide +kernel
theorem dX2_marksMade_7 : decode cX2_marksMade 7 = .ok (.ireturn, 1) := by decide +kernel
theorem dX3_init_0 : decode cX3_init 0 = .ok (.aload_n 0, 1) := by decide +kernel
theorem dX3_init_1 : decode cX3_init 1 = .ok (.invokespecial 3, 3) := by decide +kernel
theorem dX3_init_4 : decode cX3_init 4 = .ok (.aload_n 0, 1) := by decide +kernel
theorem dX3_init_5 : decode cX3_init 5 = .ok (.aload_n 1, 1) := by decide +kernel
theorem dX3_init_6 : decode cX3_init 6 = .ok (.putfield 9, 3) := by decide +kernel
theorem dX3_init_9 : decode cX3_init 9 = .ok (.aload_n 0, 1) := by decide +kernel
theorem dX3_init_10 : decode cX3_init 10 = .ok (.aload_n 2, 1) := by decide +kernel
theorem dX3_init_11 : decode cX3_init 11 = .ok (.putfield 15, 3) := by decide +kernel
theorem dX3_init_14 : decode cX3_init 14 = .ok (.aload_n 0, 1) := by decide +kernel
theorem dX3_init_15 : decode cX3_init 15 = .ok (.aload_n 3, 1) := by decide +kernel
theorem dX3_init_16 : decode cX3_init 16 = .ok (.putfield 19, 3) := by decide +kernel
theorem dX3_init_19 : decode cX3_init 19 = .ok (.aload_n 0, 1) := by decide +kernel
theorem dX3_init_20 : decode cX3_init 20 = .ok (.aload 4, 2) := by decide +kernel
theorem dX3_init_22 : decode cX3_init 22 = .ok (.putfield 23, 3) := by decide +kernel
theorem dX3_init_25 : decode cX3_init 25 = .ok (.return_, 1) := by decide +kernel
theorem dX3_firstBroken_0 : decode cX3_firstBroken 0 = .ok (.aload_n 0, 1) := by decide +kernel
theorem dX3_firstBroken_1 : decode cX3_firstBroken 1 = .ok (.iload_n 1, 1) := by decide +kernel
theorem dX3_firstBroken_2 : decode cX3_firstBroken 2 = .ok (.iload_n 2, 1) := by decide +kernel
theorem dX3_firstBroken_3 : decode cX3_firstBroken 3 = .ok (.invokevirtual 27, 3) := by decide +kernel
theorem dX3_firstBroken_6 : decode cX3_firstBroken 6 = .ok (.ifCond .ne 5, 3) := by decide +kernel
theorem dX3_firstBroken_9 : decode cX3_firstBroken 9 = .ok (.iconst 1, 1) := by decide +kernel
theorem dX3_firstBroken_10 : decode cX3_firstBroken 10 = .ok (.ireturn, 1) := by decide +kernel
theorem dX3_firstBroken_11 : decode cX3_firstBroken 11 = .ok (.aload_n 0, 1) := by decide +kernel
theorem dX3_firstBroken_12 : decode cX3_firstBroken 12 = .ok (.iload_n 1, 1) := by decide +kernel
theorem dX3_firstBroken_13 : decode cX3_firstBroken 13 = .ok (.iload_n 3, 1) := by decide +kernel
theorem dX3_firstBroken_14 : decode cX3_firstBroken 14 = .ok (.iload 4, 2) := by decide +kernel
theorem dX3_firstBroken_16 : decode cX3_firstBroken 16 = .ok (.invokevirtual 31, 3) := by decide +kernel
theorem dX3_firstBroken_19 : decode cX3_firstBroken 19 = .ok (.istore 5, 2) := by decide +kernel
theorem dX3_firstBroken_21 : decode cX3_firstBroken 21 = .ok (.iload 5, 2) := by decide +kernel
theorem dX3_firstBroken_23 : decode cX3_firstBroken 23 = .ok (.ifCond .eq 6, 3) := by decide +kernel
theorem dX3_firstBroken_26 : decode cX3_firstBroken 26 = .ok (.iload 5, 2) := by decide +kernel
theorem dX3_firstBroken_28 : decode cX3_firstBroken 28 = .ok (.ireturn, 1) := by decide +kernel
theorem dX3_firstBroken_29 : decode cX3_firstBroken 29 = .ok (.aload_n 0, 1) := by decide +kernel
theorem dX3_firstBroken_30 : decode cX3_firstBroken 30 = .ok (.getfield 9, 3) := by decide +kernel
theorem dX3_firstBroken_33 : decode cX3_firstBroken 33 = .ok (.iload_n 2, 1) := by decide +kernel
theorem dX3_firstBroken_34 : decode cX3_firstBroken 34 = .ok (.iload_n 2, 1) := by decide +kernel
theorem dX3_firstBroken_35 : decode cX3_firstBroken 35 = .ok (.aload_n 0, 1) := by decide +kernel
theorem dX3_firstBroken_36 : decode cX3_firstBroken 36 = .ok (.getfield 9, 3) := by decide +kernel
theorem dX3_firstBroken_39 : decode cX3_firstBroken 39 = .ok (.iload_n 1, 1) := by decide +kernel
theorem dX3_firstBroken_40 : decode cX3_firstBroken 40 = .ok (.iconst 0, 1) := by decide +kernel
theorem dX3_firstBroken_41 : decode cX3_firstBroken 41 = .ok (.invokevirtual 35, 3) := by decide +kernel
theorem dX3_firstBroken_44 : decode cX3_firstBroken 44 = .ok (.iadd, 1) := by decide +kernel
theorem dX3_firstBroken_45 : decode cX3_firstBroken 45 = .ok (.iconst 1, 1) := by decide +kernel
theorem dX3_firstBroken_46 : decode cX3_firstBroken 46 = .ok (.isub, 1) := by decide +kernel
theorem dX3_firstBroken_47 : decode cX3_firstBroken 47 = .ok (.invokevirtual 41, 3) := by decide +kernel
theorem dX3_firstBroken_50 : decode cX3_firstBroken 50 = .ok (.istore 6, 2) := by decide +kernel
theorem dX3_firstBroken_52 : decode cX3_firstBroken 52 = .ok (.iload 6, 2) := by decide +kernel
theorem dX3_firstBroken_54 : decode cX3_firstBroken 54 = .ok (.aload_n 0, 1) := by decide +kernel
theorem dX3_firstBroken_55 : decode cX3_firstBroken 55 = .ok (.getfield 15, 3) := by decide +kernel
theorem dX3_firstBroken_58 : decode cX3_firstBroken 58 = .ok (.iload_n 3, 1) := by decide +kernel
theorem dX3_firstBroken_59 : decode cX3_firstBroken 59 = .ok (.aload_n 0, 1) := by decide +kernel
theorem dX3_firstBroken_60 : decode cX3_firstBroken 60 = .ok (.getfield 44, 3) := by decide +kernel
theorem dX3_firstBroken_63 : decode cX3_firstBroken 63 = .ok (.invokevirtual 48, 3) := by decide +kernel
theorem dX3_firstBroken_66 : decode cX3_firstBroken 66 = .ok (.iadd, 1) := by decide +kernel
theorem dX3_firstBroken_67 : decode cX3_firstBroken 67 = .ok (.aload_n 0, 1) := by decide +kernel
theorem dX3_firstBroken_68 : decode cX3_firstBroken 68 = .ok (.getfield 9, 3) := by decide +kernel
theorem dX3_firstBroken_71 : decode cX3_firstBroken 71 = .ok (.iload_n 1, 1) := by decide +kernel
theorem dX3_firstBroken_72 : decode cX3_firstBroken 72 = .ok (.invokevirtual 53, 3) := by decide +kernel
theorem dX3_firstBroken_75 : decode cX3_firstBroken 75 = .ok (.if_icmp .ge 6, 3) := by decide +kernel
theorem dX3_firstBroken_78 : decode cX3_firstBroken 78 = .ok (.bipush 6, 2) := by decide +kernel
theorem dX3_firstBroken_80 : decode cX3_firstBroken 80 = .ok (.ireturn, 1) := by decide +kernel
theorem dX3_firstBroken_81 : decode cX3_firstBroken 81 = .ok (.aload_n 0, 1) := by decide +kernel
theorem dX3_firstBroken_82 : decode cX3_firstBroken 82 = .ok (.iload_n 1, 1) := by decide +kernel
theorem dX3_firstBroken_83 : decode cX3_firstBroken 83 = .ok (.iload_n 2, 1) := by decide +kernel
theorem dX3_firstBroken_84 : decode cX3_firstBroken 84 = .ok (.iload_n 3, 1) := by decide +kernel
theorem dX3_firstBroken_85 : decode cX3_firstBroken 85 = .ok (.invokevirtual 57, 3) := by decide +kernel
theorem dX3_firstBroken_88 : decode cX3_firstBroken 88 = .ok (.iload_n 2, 1) := by decide +kernel
theorem dX3_firstBroken_89 : decode cX3_firstBroken 89 = .ok (.if_icmp .le 6, 3) := by decide +kernel
theorem dX3_firstBroken_92 : decode cX3_firstBroken 92 = .ok (.bipush 7, 2) := by decide +kernel
theorem dX3_firstBroken_94 : decode cX3_firstBroken 94 = .ok (.ireturn, 1) := by decide +kernel
theorem dX3_firstBroken_95 : decode cX3_firstBroken 95 = .ok (.aload_n 0, 1) := by decide +kernel
theorem dX3_firstBroken_96 : decode cX3_firstBroken 96 = .ok (.iload_n 3, 1) := by decide +kernel
theorem dX3_firstBroken_97 : decode cX3_firstBroken 97 = .ok (.iload 4, 2) := by decide +kernel
theorem dX3_firstBroken_99 : decode cX3_firstBroken 99 = .ok (.invokevirtual 60, 3) := by decide +kernel
theorem dX3_firstBroken_102 : decode cX3_firstBroken 102 = .ok (.iconst (-1), 1) := by decide +kernel
theorem dX3_firstBroken_103 : decode cX3_firstBroken 103 = .ok (.if_icmp .eq 6, 3) := by decide +kernel
theorem dX3_firstBroken_106 : decode cX3_firstBroken 106 = .ok (.bipush 8, 2) := by decide +kernel
theorem dX3_firstBroken_108 : decode cX3_firstBroken 108 = .ok (.ireturn, 1) := by decide +kernel
theorem dX3_firstBroken_109 : decode cX3_firstBroken 109 = .ok (.aload_n 0, 1) := by decide +kernel
theorem dX3_firstBroken_110 : decode cX3_firstBroken 110 = .ok (.getfield 23, 3) := by decide +kernel
theorem dX3_firstBroken_113 : decode cX3_firstBroken 113 = .ok (.iload_n 1, 1) := by decide +kernel
theorem dX3_firstBroken_114 : decode cX3_firstBroken 114 = .ok (.iload_n 2, 1) := by decide +kernel
theorem dX3_firstBroken_115 : decode cX3_firstBroken 115 = .ok (.iload_n 3, 1) := by decide +kernel
theorem dX3_firstBroken_116 : decode cX3_firstBroken 116 = .ok (.iload 4, 2) := by decide +kernel
theorem dX3_firstBroken_118 : decode cX3_firstBroken 118 = .ok (.aload_n 0, 1) := by decide +kernel
theorem dX3_firstBroken_119 : decode cX3_firstBroken 119 = .ok (.getfield 63, 3) := by decide +kernel
theorem dX3_firstBroken_122 : decode cX3_firstBroken 122 = .ok (.invokevirtual 66, 3) := by decide +kernel
theorem dX3_firstBroken_125 : decode cX3_firstBroken 125 = .ok (.ifCond .eq 7, 3) := by decide +kernel
theorem dX3_firstBroken_128 : decode cX3_firstBroken 128 = .ok (.iconst 0, 1) := by decide +kernel
theorem dX3_firstBroken_129 : decode cX3_firstBroken 129 = .ok (.goto 5, 3) := by decide +kernel
theorem dX3_firstBroken_132 : decode cX3_firstBroken 132 = .ok (.bipush 9, 2) := by decide +kernel
theorem dX3_firstBroken_134 : decode cX3_firstBroken 134 = .ok (.ireturn, 1) := by decide +kernel
theorem dX3_fits_0 : decode cX3_fits 0 = .ok (.iload_n 2, 1) := by decide +kernel
theorem dX3_fits_1 : decode cX3_fits 1 = .ok (.ifCond .lt 30, 3) := by decide +kernel
theorem dX3_fits_4 : decode cX3_fits 4 = .ok (.iload_n 2, 1) := by decide +kernel
theorem dX3_fits_5 : decode cX3_fits 5 = .ok (.aload_n 0, 1) := by decide +kernel
theorem dX3_fits_6 : decode cX3_fits 6 = .ok (.getfield 9, 3) := by decide +kernel
theorem dX3_fits_9 : decode cX3_fits 9 = .ok (.getfield 72, 3) := by decide +kernel
theorem dX3_fits_12 : decode cX3_fits 12 = .ok (.iconst 0, 1) := by decide +kernel
theorem dX3_fits_13 : decode cX3_fits 13 = .ok (.iaload, 1) := by decide +kernel
theorem dX3_fits_14 : decode cX3_fits 14 = .ok (.aload_n 0, 1) := by decide +kernel
theorem dX3_fits_15 : decode cX3_fits 15 = .ok (.getfield 9, 3) := by decide +kernel
theorem dX3_fits_18 : decode cX3_fits 18 = .ok (.iload_n 1, 1) := by decide +kernel
theorem dX3_fits_19 : decode cX3_fits 19 = .ok (.iconst 0, 1) := by decide +kernel
theorem dX3_fits_20 : decode cX3_fits 20 = .ok (.invokevirtual 35, 3) := by decide +kernel
theorem dX3_fits_23 : decode cX3_fits 23 = .ok (.isub, 1) := by decide +kernel
theorem dX3_fits_24 : decode cX3_fits 24 = .ok (.if_icmp .gt 7, 3) := by decide +kernel
theorem dX3_fits_27 : decode cX3_fits 27 = .ok (.iconst 1, 1) := by decide +kernel
theorem dX3_fits_28 : decode cX3_fits 28 = .ok (.goto 4, 3) := by decide +kernel
theorem dX3_fits_31 : decode cX3_fits 31 = .ok (.iconst 0, 1) := by decide +kernel
theorem dX3_fits_32 : decode cX3_fits 32 = .ok (.ireturn, 1) := by decide +kernel
theorem dX3_ofTime_0 : decode cX3_ofTime 0 = .ok (.iload_n 2, 1) := by decide +kernel
theorem dX3_ofTime_1 : decode cX3_ofTime 1 = .ok (.aload_n 0, 1) := by decide +kernel
theorem dX3_ofTime_2 : decode cX3_ofTime 2 = .ok (.getfield 9, 3) := by decide +kernel
theorem dX3_ofTime_5 : decode cX3_ofTime 5 = .ok (.iload_n 1, 1) := by decide +kernel
theorem dX3_ofTime_6 : decode cX3_ofTime 6 = .ok (.iconst 4, 1) := by decide +kernel
theorem dX3_ofTime_7 : decode cX3_ofTime 7 = .ok (.invokevirtual 35, 3) := by decide +kernel
theorem dX3_ofTime_10 : decode cX3_ofTime 10 = .ok (.if_icmp .ge 5, 3) := by decide +kernel
theorem dX3_ofTime_13 : decode cX3_ofTime 13 = .ok (.iconst 2, 1) := by decide +kernel
theorem dX3_ofTime_14 : decode cX3_ofTime 14 = .ok (.ireturn, 1) := by decide +kernel
theorem dX3_ofTime_15 : decode cX3_ofTime 15 = .ok (.iload_n 3, 1) := by decide +kernel
theorem dX3_ofTime_16 : decode cX3_ofTime 16 = .ok (.aload_n 0, 1) := by decide +kernel
theorem dX3_ofTime_17 : decode cX3_ofTime 17 = .ok (.getfield 9, 3) := by decide +kernel
theorem dX3_ofTime_20 : decode cX3_ofTime 20 = .ok (.iload_n 1, 1) := by decide +kernel
theorem dX3_ofTime_21 : decode cX3_ofTime 21 = .ok (.bipush 7, 2) := by decide +kernel
theorem dX3_ofTime_23 : decode cX3_ofTime 23 = .ok (.invokevirtual 35, 3) := by decide +kernel
theorem dX3_ofTime_26 : decode cX3_ofTime 26 = .ok (.if_icmp .lt 17, 3) := by decide +kernel
theorem dX3_ofTime_29 : decode cX3_ofTime 29 = .ok (.iload_n 3, 1) := by decide +kernel
theorem dX3_ofTime_30 : decode cX3_ofTime 30 = .ok (.aload_n 0, 1) := by decide +kernel
theorem dX3_ofTime_31 : decode cX3_ofTime 31 = .ok (.getfield 9, 3) := by decide +kernel
theorem dX3_ofTime_34 : decode cX3_ofTime 34 = .ok (.iload_n 1, 1) := by decide +kernel
theorem dX3_ofTime_35 : decode cX3_ofTime 35 = .ok (.bipush 8, 2) := by decide +kernel
theorem dX3_ofTime_37 : decode cX3_ofTime 37 = .ok (.invokevirtual 35, 3) := by decide +kernel
theorem dX3_ofTime_40 : decode cX3_ofTime 40 = .ok (.if_icmp .le 5, 3) := by decide +kernel
theorem dX3_ofTime_43 : decode cX3_ofTime 43 = .ok (.iconst 3, 1) := by decide +kernel
theorem dX3_ofTime_44 : decode cX3_ofTime 44 = .ok (.ireturn, 1) := by decide +kernel
theorem dX3_ofTime_45 : decode cX3_ofTime 45 = .ok (.iload_n 2, 1) := by decide +kernel
theorem dX3_ofTime_46 : decode cX3_ofTime 46 = .ok (.sipush 336, 3) := by decide +kernel
theorem dX3_ofTime_49 : decode cX3_ofTime 49 = .ok (.if_icmp .ge 23, 3) := by decide +kernel
theorem dX3_ofTime_52 : decode cX3_ofTime 52 = .ok (.aload_n 0, 1) := by decide +kernel
theorem dX3_ofTime_53 : decode cX3_ofTime 53 = .ok (.getfield 15, 3) := by decide +kernel
theorem dX3_ofTime_56 : decode cX3_ofTime 56 = .ok (.aload_n 0, 1) := by decide +kernel
theorem dX3_ofTime_57 : decode cX3_ofTime 57 = .ok (.getfield 9, 3) := by decide +kernel
theorem dX3_ofTime_60 : decode cX3_ofTime 60 = .ok (.iload_n 1, 1) := by decide +kernel
theorem dX3_ofTime_61 : decode cX3_ofTime 61 = .ok (.iconst 1, 1) := by decide +kernel
theorem dX3_ofTime_62 : decode cX3_ofTime 62 = .ok (.invokevirtual 35, 3) := by decide +kernel
theorem dX3_ofTime_65 : decode cX3_ofTime 65 = .ok (.iload_n 2, 1) := by decide +kernel
theorem dX3_ofTime_66 : decode cX3_ofTime 66 = .ok (.invokevirtual 76, 3) := by decide +kernel
theorem dX3_ofTime_69 : decode cX3_ofTime 69 = .ok (.ifCond .ne 5, 3) := by decide +kernel
theorem dX3_ofTime_72 : decode cX3_ofTime 72 = .ok (.iconst 4, 1) := by decide +kernel
theorem dX3_ofTime_73 : decode cX3_ofTime 73 = .ok (.ireturn, 1) := by decide +kernel
theorem dX3_ofTime_74 : decode cX3_ofTime 74 = .ok (.aload_n 0, 1) := by decide +kernel
theorem dX3_ofTime_75 : decode cX3_ofTime 75 = .ok (.aload_n 0, 1) := by decide +kernel
theorem dX3_ofTime_76 : decode cX3_ofTime 76 = .ok (.getfield 9, 3) := by decide +kernel
theorem dX3_ofTime_79 : decode cX3_ofTime 79 = .ok (.iload_n 1, 1) := by decide +kernel
theorem dX3_ofTime_80 : decode cX3_ofTime 80 = .ok (.iload_n 3, 1) := by decide +kernel
theorem dX3_ofTime_81 : decode cX3_ofTime 81 = .ok (.invokevirtual 79, 3) := by decide +kernel
theorem dX3_ofTime_84 : decode cX3_ofTime 84 = .ok (.putfield 63, 3) := by decide +kernel
theorem dX3_ofTime_87 : decode cX3_ofTime 87 = .ok (.aload_n 0, 1) := by decide +kernel
theorem dX3_ofTime_88 : decode cX3_ofTime 88 = .ok (.aload_n 0, 1) := by decide +kernel
theorem dX3_ofTime_89 : decode cX3_ofTime 89 = .ok (.getfield 15, 3) := by decide +kernel
theorem dX3_ofTime_92 : decode cX3_ofTime 92 = .ok (.aload_n 0, 1) := by decide +kernel
theorem dX3_ofTime_93 : decode cX3_ofTime 93 = .ok (.getfield 9, 3) := by decide +kernel
theorem dX3_ofTime_96 : decode cX3_ofTime 96 = .ok (.iload_n 1, 1) := by decide +kernel
theorem dX3_ofTime_97 : decode cX3_ofTime 97 = .ok (.iconst 2, 1) := by decide +kernel
theorem dX3_ofTime_98 : decode cX3_ofTime 98 = .ok (.invokevirtual 35, 3) := by decide +kernel
theorem dX3_ofTime_101 : decode cX3_ofTime 101 = .ok (.iload_n 2, 1) := by decide +kernel
theorem dX3_ofTime_102 : decode cX3_ofTime 102 = .ok (.aload_n 0, 1) := by decide +kernel
theorem dX3_ofTime_103 : decode cX3_ofTime 103 = .ok (.getfield 63, 3) := by decide +kernel
theorem dX3_ofTime_106 : decode cX3_ofTime 106 = .ok (.iadd, 1) := by decide +kernel
theorem dX3_ofTime_107 : decode cX3_ofTime 107 = .ok (.invokevirtual 82, 3) := by decide +kernel
theorem dX3_ofTime_110 : decode cX3_ofTime 110 = .ok (.putfield 44, 3) := by decide +kernel
theorem dX3_ofTime_113 : decode cX3_ofTime 113 = .ok (.aload_n 0, 1) := by decide +kernel
theorem dX3_ofTime_114 : decode cX3_ofTime 114 = .ok (.getfield 44, 3) := by decide +kernel
theorem dX3_ofTime_117 : decode cX3_ofTime 117 = .ok (.iconst (-1), 1) := by decide +kernel
theorem dX3_ofTime_118 : decode cX3_ofTime 118 = .ok (.if_icmp .ne 7, 3) := by decide +kernel
theorem dX3_ofTime_121 : decode cX3_ofTime 121 = .ok (.iconst 5, 1) := by decide +kernel
theorem dX3_ofTime_122 : decode cX3_ofTime 122 = .ok (.goto 4, 3) := by decide +kernel
theorem dX3_ofTime_125 : decode cX3_ofTime 125 = .ok (.iconst 0, 1) := by decide +kernel
theorem dX3_ofTime_126 : decode cX3_ofTime 126 = .ok (.ireturn, 1) := by decide +kernel
theorem dX3_crowds_0 : decode cX3_crowds 0 = .ok (.iload_n 1, 1) := by decide +kernel
theorem dX3_crowds_1 : decode cX3_crowds 1 = .ok (.iload_n 2, 1) := by decide +kernel
theorem dX3_crowds_2 : decode cX3_crowds 2 = .ok (.if_icmp .eq 44, 3) := by decide +kernel
theorem dX3_crowds_5 : decode cX3_crowds 5 = .ok (.aload_n 0, 1) := by decide +kernel
theorem dX3_crowds_6 : decode cX3_crowds 6 = .ok (.getfield 19, 3) := by decide +kernel
theorem dX3_crowds_9 : decode cX3_crowds 9 = .ok (.iload_n 1, 1) := by decide +kernel
theorem dX3_crowds_10 : decode cX3_crowds 10 = .ok (.invokevirtual 85, 3) := by decide +kernel
theorem dX3_crowds_13 : decode cX3_crowds 13 = .ok (.ifCond .eq 33, 3) := by decide +kernel
theorem dX3_crowds_16 : decode cX3_crowds 16 = .ok (.aload_n 0, 1) := by decide +kernel
theorem dX3_crowds_17 : decode cX3_crowds 17 = .ok (.getfield 19, 3) := by decide +kernel
theorem dX3_crowds_20 : decode cX3_crowds 20 = .ok (.getfield 91, 3) := by decide +kernel
theorem dX3_crowds_23 : decode cX3_crowds 23 = .ok (.iload_n 1, 1) := by decide +kernel
theorem dX3_crowds_24 : decode cX3_crowds 24 = .ok (.iaload, 1) := by decide +kernel
theorem dX3_crowds_25 : decode cX3_crowds 25 = .ok (.aload_n 0, 1) := by decide +kernel
theorem dX3_crowds_26 : decode cX3_crowds 26 = .ok (.getfield 44, 3) := by decide +kernel
theorem dX3_crowds_29 : decode cX3_crowds 29 = .ok (.if_icmp .ge 17, 3) := by decide +kernel
theorem dX3_crowds_32 : decode cX3_crowds 32 = .ok (.iload 4, 2) := by decide +kernel
theorem dX3_crowds_34 : decode cX3_crowds 34 = .ok (.aload_n 0, 1) := by decide +kernel
theorem dX3_crowds_35 : decode cX3_crowds 35 = .ok (.getfield 19, 3) := by decide +kernel
theorem dX3_crowds_38 : decode cX3_crowds 38 = .ok (.getfield 94, 3) := by decide +kernel
theorem dX3_crowds_41 : decode cX3_crowds 41 = .ok (.iload_n 1, 1) := by decide +kernel
theorem dX3_crowds_42 : decode cX3_crowds 42 = .ok (.iaload, 1) := by decide +kernel
theorem dX3_crowds_43 : decode cX3_crowds 43 = .ok (.if_icmp .lt 5, 3) := by decide +kernel
theorem dX3_crowds_46 : decode cX3_crowds 46 = .ok (.iconst 0, 1) := by decide +kernel
theorem dX3_crowds_47 : decode cX3_crowds 47 = .ok (.ireturn, 1) := by decide +kernel
theorem dX3_crowds_48 : decode cX3_crowds 48 = .ok (.aload_n 0, 1) := by decide +kernel
theorem dX3_crowds_49 : decode cX3_crowds 49 = .ok (.getfield 9, 3) := by decide +kernel
theorem dX3_crowds_52 : decode cX3_crowds 52 = .ok (.getfield 72, 3) := by decide +kernel
theorem dX3_crowds_55 : decode cX3_crowds 55 = .ok (.iconst 1, 1) := by decide +kernel
theorem dX3_crowds_56 : decode cX3_crowds 56 = .ok (.iaload, 1) := by decide +kernel
theorem dX3_crowds_57 : decode cX3_crowds 57 = .ok (.istore 5, 2) := by decide +kernel
theorem dX3_crowds_59 : decode cX3_crowds 59 = .ok (.iload_n 3, 1) := by decide +kernel
theorem dX3_crowds_60 : decode cX3_crowds 60 = .ok (.aload_n 0, 1) := by decide +kernel
theorem dX3_crowds_61 : decode cX3_crowds 61 = .ok (.getfield 9, 3) := by decide +kernel
theorem dX3_crowds_64 : decode cX3_crowds 64 = .ok (.iload_n 2, 1) := by decide +kernel
theorem dX3_crowds_65 : decode cX3_crowds 65 = .ok (.iconst 0, 1) := by decide +kernel
theorem dX3_crowds_66 : decode cX3_crowds 66 = .ok (.invokevirtual 35, 3) := by decide +kernel
theorem dX3_crowds_69 : decode cX3_crowds 69 = .ok (.iadd, 1) := by decide +kernel
theorem dX3_crowds_70 : decode cX3_crowds 70 = .ok (.iconst 1, 1) := by decide +kernel
theorem dX3_crowds_71 : decode cX3_crowds 71 = .ok (.isub, 1) := by decide +kernel
theorem dX3_crowds_72 : decode cX3_crowds 72 = .ok (.istore 6, 2) := by decide +kernel
theorem dX3_crowds_74 : decode cX3_crowds 74 = .ok (.iload_n 3, 1) := by decide +kernel
theorem dX3_crowds_75 : decode cX3_crowds 75 = .ok (.aload_n 0, 1) := by decide +kernel
theorem dX3_crowds_76 : decode cX3_crowds 76 = .ok (.getfield 19, 3) := by decide +kernel
theorem dX3_crowds_79 : decode cX3_crowds 79 = .ok (.getfield 96, 3) := by decide +kernel
theorem dX3_crowds_82 : decode cX3_crowds 82 = .ok (.iload_n 1, 1) := by decide +kernel
theorem dX3_crowds_83 : decode cX3_crowds 83 = .ok (.iaload, 1) := by decide +kernel
theorem dX3_crowds_84 : decode cX3_crowds 84 = .ok (.iload 5, 2) := by decide +kernel
theorem dX3_crowds_86 : decode cX3_crowds 86 = .ok (.iadd, 1) := by decide +kernel
theorem dX3_crowds_87 : decode cX3_crowds 87 = .ok (.if_icmp .gt 24, 3) := by decide +kernel
theorem dX3_crowds_90 : decode cX3_crowds 90 = .ok (.aload_n 0, 1) := by decide +kernel
theorem dX3_crowds_91 : decode cX3_crowds 91 = .ok (.getfield 19, 3) := by decide +kernel
theorem dX3_crowds_94 : decode cX3_crowds 94 = .ok (.getfield 99, 3) := by decide +kernel
theorem dX3_crowds_97 : decode cX3_crowds 97 = .ok (.iload_n 1, 1) := by decide +kernel
theorem dX3_crowds_98 : decode cX3_crowds 98 = .ok (.iaload, 1) := by decide +kernel
theorem dX3_crowds_99 : decode cX3_crowds 99 = .ok (.iload 6, 2) := by decide +kernel
theorem dX3_crowds_101 : decode cX3_crowds 101 = .ok (.iload 5, 2) := by decide +kernel
theorem dX3_crowds_103 : decode cX3_crowds 103 = .ok (.iadd, 1) := by decide +kernel
theorem dX3_crowds_104 : decode cX3_crowds 104 = .ok (.if_icmp .gt 7, 3) := by decide +kernel
theorem dX3_crowds_107 : decode cX3_crowds 107 = .ok (.iconst 1, 1) := by decide +kernel
theorem dX3_crowds_108 : decode cX3_crowds 108 = .ok (.goto 4, 3) := by decide +kernel
theorem dX3_crowds_111 : decode cX3_crowds 111 = .ok (.iconst 0, 1) := by decide +kernel
theorem dX3_crowds_112 : decode cX3_crowds 112 = .ok (.ireturn, 1) := by decide +kernel
theorem dX3_pastObstacle_0 : decode cX3_pastObstacle 0 = .ok (.iconst 0, 1) := by decide +kernel
theorem dX3_pastObstacle_1 : decode cX3_pastObstacle 1 = .ok (.istore 4, 2) := by decide +kernel
theorem dX3_pastObstacle_3 : decode cX3_pastObstacle 3 = .ok (.iload 4, 2) := by decide +kernel
theorem dX3_pastObstacle_5 : decode cX3_pastObstacle 5 = .ok (.aload_n 0, 1) := by decide +kernel
theorem dX3_pastObstacle_6 : decode cX3_pastObstacle 6 = .ok (.getfield 9, 3) := by decide +kernel
theorem dX3_pastObstacle_9 : decode cX3_pastObstacle 9 = .ok (.getfield 102, 3) := by decide +kernel
theorem dX3_pastObstacle_12 : decode cX3_pastObstacle 12 = .ok (.if_icmp .ge 44, 3) := by decide +kernel
theorem dX3_pastObstacle_15 : decode cX3_pastObstacle 15 = .ok (.aload_n 0, 1) := by decide +kernel
theorem dX3_pastObstacle_16 : decode cX3_pastObstacle 16 = .ok (.iload 4, 2) := by decide +kernel
theorem dX3_pastObstacle_18 : decode cX3_pastObstacle 18 = .ok (.iload_n 1, 1) := by decide +kernel
theorem dX3_pastObstacle_19 : decode cX3_pastObstacle 19 = .ok (.iload_n 2, 1) := by decide +kernel
theorem dX3_pastObstacle_20 : decode cX3_pastObstacle 20 = .ok (.iload_n 3, 1) := by decide +kernel
theorem dX3_pastObstacle_21 : decode cX3_pastObstacle 21 = .ok (.invokevirtual 105, 3) := by decide +kernel
theorem dX3_pastObstacle_24 : decode cX3_pastObstacle 24 = .ok (.ifCond .eq 26, 3) := by decide +kernel
theorem dX3_pastObstacle_27 : decode cX3_pastObstacle 27 = .ok (.aload_n 0, 1) := by decide +kernel
theorem dX3_pastObstacle_28 : decode cX3_pastObstacle 28 = .ok (.getfield 19, 3) := by decide +kernel
theorem dX3_pastObstacle_31 : decode cX3_pastObstacle 31 = .ok (.getfield 96, 3) := by decide +kernel
theorem dX3_pastObstacle_34 : decode cX3_pastObstacle 34 = .ok (.iload 4, 2) := by decide +kernel
theorem dX3_pastObstacle_36 : decode cX3_pastObstacle 36 = .ok (.iaload, 1) := by decide +kernel
theorem dX3_pastObstacle_37 : decode cX3_pastObstacle 37 = .ok (.aload_n 0, 1) := by decide +kernel
theorem dX3_pastObstacle_38 : decode cX3_pastObstacle 38 = .ok (.getfield 9, 3) := by decide +kernel
theorem dX3_pastObstacle_41 : decode cX3_pastObstacle 41 = .ok (.getfield 72, 3) := by decide +kernel
theorem dX3_pastObstacle_44 : decode cX3_pastObstacle 44 = .ok (.iconst 1, 1) := by decide +kernel
theorem dX3_pastObstacle_45 : decode cX3_pastObstacle 45 = .ok (.iaload, 1) := by decide +kernel
theorem dX3_pastObstacle_46 : decode cX3_pastObstacle 46 = .ok (.iadd, 1) := by decide +kernel
theorem dX3_pastObstacle_47 : decode cX3_pastObstacle 47 = .ok (.iconst 1, 1) := by decide +kernel
theorem dX3_pastObstacle_48 : decode cX3_pastObstacle 48 = .ok (.iadd, 1) := by decide +kernel
theorem dX3_pastObstacle_49 : decode cX3_pastObstacle 49 = .ok (.ireturn, 1) := by decide +kernel
theorem dX3_pastObstacle_50 : decode cX3_pastObstacle 50 = .ok (.iinc 4 1, 3) := by decide +kernel
theorem dX3_pastObstacle_53 : decode cX3_pastObstacle 53 = .ok (.goto (-50), 3) := by decide +kernel
theorem dX3_pastObstacle_56 : decode cX3_pastObstacle 56 = .ok (.iload_n 2, 1) := by decide +kernel
theorem dX3_pastObstacle_57 : decode cX3_pastObstacle 57 = .ok (.ireturn, 1) := by decide +kernel
theorem dX3_firstShort_0 : decode cX3_firstShort 0 = .ok (.sipush 336, 3) := by decide +kernel
theorem dX3_firstShort_3 : decode cX3_firstShort 3 = .ok (.iload_n 1, 1) := by decide +kernel
theorem dX3_firstShort_4 : decode cX3_firstShort 4 = .ok (.aload_n 0, 1) := by decide +kernel
theorem dX3_firstShort_5 : decode cX3_firstShort 5 = .ok (.getfield 63, 3) := by decide +kernel
theorem dX3_firstShort_8 : decode cX3_firstShort 8 = .ok (.iadd, 1) := by decide +kernel
theorem dX3_firstShort_9 : decode cX3_firstShort 9 = .ok (.invokestatic 109, 3) := by decide +kernel
theorem dX3_firstShort_12 : decode cX3_firstShort 12 = .ok (.istore_n 3, 1) := by decide +kernel
theorem dX3_firstShort_13 : decode cX3_firstShort 13 = .ok (.iload_n 1, 1) := by decide +kernel
theorem dX3_firstShort_14 : decode cX3_firstShort 14 = .ok (.istore 4, 2) := by decide +kernel
theorem dX3_firstShort_16 : decode cX3_firstShort 16 = .ok (.iload 4, 2) := by decide +kernel
theorem dX3_firstShort_18 : decode cX3_firstShort 18 = .ok (.iload_n 3, 1) := by decide +kernel
theorem dX3_firstShort_19 : decode cX3_firstShort 19 = .ok (.if_icmp .ge 39, 3) := by decide +kernel
theorem dX3_firstShort_22 : decode cX3_firstShort 22 = .ok (.aload_n 0, 1) := by decide +kernel
theorem dX3_firstShort_23 : decode cX3_firstShort 23 = .ok (.getfield 19, 3) := by decide +kernel
theorem dX3_firstShort_26 : decode cX3_firstShort 26 = .ok (.getfield 114, 3) := by decide +kernel
theorem dX3_firstShort_29 : decode cX3_firstShort 29 = .ok (.iload 4, 2) := by decide +kernel
theorem dX3_firstShort_31 : decode cX3_firstShort 31 = .ok (.iaload, 1) := by decide +kernel
theorem dX3_firstShort_32 : decode cX3_firstShort 32 = .ok (.iload_n 2, 1) := by decide +kernel
theorem dX3_firstShort_33 : decode cX3_firstShort 33 = .ok (.iadd, 1) := by decide +kernel
theorem dX3_firstShort_34 : decode cX3_firstShort 34 = .ok (.aload_n 0, 1) := by decide +kernel
theorem dX3_firstShort_35 : decode cX3_firstShort 35 = .ok (.getfield 9, 3) := by decide +kernel
theorem dX3_firstShort_38 : decode cX3_firstShort 38 = .ok (.iload 4, 2) := by decide +kernel
theorem dX3_firstShort_40 : decode cX3_firstShort 40 = .ok (.bipush 16, 2) := by decide +kernel
theorem dX3_firstShort_42 : decode cX3_firstShort 42 = .ok (.idiv, 1) := by decide +kernel
theorem dX3_firstShort_43 : decode cX3_firstShort 43 = .ok (.invokevirtual 117, 3) := by decide +kernel
theorem dX3_firstShort_46 : decode cX3_firstShort 46 = .ok (.if_icmp .le 6, 3) := by decide +kernel
theorem dX3_firstShort_49 : decode cX3_firstShort 49 = .ok (.iload 4, 2) := by decide +kernel
theorem dX3_firstShort_51 : decode cX3_firstShort 51 = .ok (.ireturn, 1) := by decide +kernel
theorem dX3_firstShort_52 : decode cX3_firstShort 52 = .ok (.iinc 4 1, 3) := by decide +kernel
theorem dX3_firstShort_55 : decode cX3_firstShort 55 = .ok (.goto (-39), 3) := by decide +kernel
theorem dX3_firstShort_58 : decode cX3_firstShort 58 = .ok (.iconst (-1), 1) := by decide +kernel
theorem dX3_firstShort_59 : decode cX3_firstShort 59 = .ok (.ireturn, 1) := by decide +kernel
theorem dX4_init_0 : decode cX4_init 0 = .ok (.aload_n 0, 1) := by decide +kernel
theorem dX4_init_1 : decode cX4_init 1 = .ok (.invokespecial 3, 3) := by decide +kernel
theorem dX4_init_4 : decode cX4_init 4 = .ok (.aload_n 0, 1) := by decide +kernel
theorem dX4_init_5 : decode cX4_init 5 = .ok (.aload_n 1, 1) := by decide +kernel
theorem dX4_init_6 : decode cX4_init 6 = .ok (.putfield 9, 3) := by decide +kernel
theorem dX4_init_9 : decode cX4_init 9 = .ok (.return_, 1) := by decide +kernel
theorem dX4_shipAt_0 : decode cX4_shipAt 0 = .ok (.iconst 0, 1) := by decide +kernel
theorem dX4_shipAt_1 : decode cX4_shipAt 1 = .ok (.istore_n 3, 1) := by decide +kernel
theorem dX4_shipAt_2 : decode cX4_shipAt 2 = .ok (.iload_n 3, 1) := by decide +kernel
theorem dX4_shipAt_3 : decode cX4_shipAt 3 = .ok (.aload_n 0, 1) := by decide +kernel
theorem dX4_shipAt_4 : decode cX4_shipAt 4 = .ok (.getfield 9, 3) := by decide +kernel
theorem dX4_shipAt_7 : decode cX4_shipAt 7 = .ok (.getfield 15, 3) := by decide +kernel
theorem dX4_shipAt_10 : decode cX4_shipAt 10 = .ok (.if_icmp .ge 21, 3) := by decide +kernel
theorem dX4_shipAt_13 : decode cX4_shipAt 13 = .ok (.aload_n 0, 1) := by decide +kernel
theorem dX4_shipAt_14 : decode cX4_shipAt 14 = .ok (.iload_n 1, 1) := by decide +kernel
theorem dX4_shipAt_15 : decode cX4_shipAt 15 = .ok (.iload_n 3, 1) := by decide +kernel
theorem dX4_shipAt_16 : decode cX4_shipAt 16 = .ok (.invokevirtual 21, 3) := by decide +kernel
theorem dX4_shipAt_19 : decode cX4_shipAt 19 = .ok (.iload_n 2, 1) := by decide +kernel
theorem dX4_shipAt_20 : decode cX4_shipAt 20 = .ok (.if_icmp .ne 5, 3) := by decide +kernel
theorem dX4_shipAt_23 : decode cX4_shipAt 23 = .ok (.iload_n 3, 1) := by decide +kernel
theorem dX4_shipAt_24 : decode cX4_shipAt 24 = .ok (.ireturn, 1) := by decide +kernel
theorem dX4_shipAt_25 : decode cX4_shipAt 25 = .ok (.iinc 3 1, 3) := by decide +kernel
theorem dX4_shipAt_28 : decode cX4_shipAt 28 = .ok (.goto (-26), 3) := by decide +kernel
theorem dX4_shipAt_31 : decode cX4_shipAt 31 = .ok (.iconst (-1), 1) := by decide +kernel
theorem dX4_shipAt_32 : decode cX4_shipAt 32 = .ok (.ireturn, 1) := by decide +kernel
theorem dX4_shipsAhead_0 : decode cX4_shipsAhead 0 = .ok (.aload_n 0, 1) := by decide +kernel
theorem dX4_shipsAhead_1 : decode cX4_shipsAhead 1 = .ok (.iload_n 1, 1) := by decide +kernel
theorem dX4_shipsAhead_2 : decode cX4_shipsAhead 2 = .ok (.iload_n 2, 1) := by decide +kernel
theorem dX4_shipsAhead_3 : decode cX4_shipsAhead 3 = .ok (.invokevirtual 25, 3) := by decide +kernel
theorem dX4_shipsAhead_6 : decode cX4_shipsAhead 6 = .ok (.istore_n 3, 1) := by decide +kernel
theorem dX4_shipsAhead_7 : decode cX4_shipsAhead 7 = .ok (.iconst 0, 1) := by decide +kernel
theorem dX4_shipsAhead_8 : decode cX4_shipsAhead 8 = .ok (.istore 4, 2) := by decide +kernel
theorem dX4_shipsAhead_10 : decode cX4_shipsAhead 10 = .ok (.iconst 0, 1) := by decide +kernel
theorem dX4_shipsAhead_11 : decode cX4_shipsAhead 11 = .ok (.istore 5, 2) := by decide +kernel
theorem dX4_shipsAhead_13 : decode cX4_shipsAhead 13 = .ok (.iload 5, 2) := by decide +kernel
theorem dX4_shipsAhead_15 : decode cX4_shipsAhead 15 = .ok (.aload_n 0, 1) := by decide +kernel
theorem dX4_shipsAhead_16 : decode cX4_shipsAhead 16 = .ok (.getfield 9, 3) := by decide +kernel
theorem dX4_shipsAhead_19 : decode cX4_shipsAhead 19 = .ok (.getfield 15, 3) := by decide +kernel
theorem dX4_shipsAhead_22 : decode cX4_shipsAhead 22 = .ok (.if_icmp .ge 39, 3) := by decide +kernel
theorem dX4_shipsAhead_25 : decode cX4_shipsAhead 25 = .ok (.aload_n 0, 1) := by decide +kernel
theorem dX4_shipsAhead_26 : decode cX4_shipsAhead 26 = .ok (.iload_n 1, 1) := by decide +kernel
theorem dX4_shipsAhead_27 : decode cX4_shipsAhead 27 = .ok (.iload 5, 2) := by decide +kernel
theorem dX4_shipsAhead_29 : decode cX4_shipsAhead 29 = .ok (.invokevirtual 25, 3) := by decide +kernel
theorem dX4_shipsAhead_32 : decode cX4_shipsAhead 32 = .ok (.istore 6, 2) := by decide +kernel
theorem dX4_shipsAhead_34 : decode cX4_shipsAhead 34 = .ok (.iload 6, 2) := by decide +kernel
theorem dX4_shipsAhead_36 : decode cX4_shipsAhead 36 = .ok (.iload_n 3, 1) := by decide +kernel
theorem dX4_shipsAhead_37 : decode cX4_shipsAhead 37 = .ok (.if_icmp .lt 15, 3) := by decide +kernel
theorem dX4_shipsAhead_40 : decode cX4_shipsAhead 40 = .ok (.iload 6, 2) := by decide +kernel
theorem dX4_shipsAhead_42 : decode cX4_shipsAhead 42 = .ok (.iload_n 3, 1) := by decide +kernel
theorem dX4_shipsAhead_43 : decode cX4_shipsAhead 43 = .ok (.if_icmp .ne 12, 3) := by decide +kernel
theorem dX4_shipsAhead_46 : decode cX4_shipsAhead 46 = .ok (.iload 5, 2) := by decide +kernel
theorem dX4_shipsAhead_48 : decode cX4_shipsAhead 48 = .ok (.iload_n 2, 1) := by decide +kernel
theorem dX4_shipsAhead_49 : decode cX4_shipsAhead 49 = .ok (.if_icmp .ge 6, 3) := by decide +kernel
theorem dX4_shipsAhead_52 : decode cX4_shipsAhead 52 = .ok (.iinc 4 1, 3) := by decide +kernel
theorem dX4_shipsAhead_55 : decode cX4_shipsAhead 55 = .ok (.iinc 5 1, 3) := by decide +kernel
theorem dX4_shipsAhead_58 : decode cX4_shipsAhead 58 = .ok (.goto (-45), 3) := by decide +kernel
theorem dX4_shipsAhead_61 : decode cX4_shipsAhead 61 = .ok (.iload 4, 2) := by decide +kernel
theorem dX4_shipsAhead_63 : decode cX4_shipsAhead 63 = .ok (.ireturn, 1) := by decide +kernel
theorem dX4_keyOf_0 : decode cX4_keyOf 0 = .ok (.iload_n 1, 1) := by decide +kernel
theorem dX4_keyOf_1 : decode cX4_keyOf 1 = .ok (.tableswitch 85 0 2 #[27, 52, 75], 27) := by decide +kernel
theorem dX4_keyOf_28 : decode cX4_keyOf 28 = .ok (.aload_n 0, 1) := by decide +kernel
theorem dX4_keyOf_29 : decode cX4_keyOf 29 = .ok (.getfield 9, 3) := by decide +kernel
theorem dX4_keyOf_32 : decode cX4_keyOf 32 = .ok (.iload_n 2, 1) := by decide +kernel
theorem dX4_keyOf_33 : decode cX4_keyOf 33 = .ok (.bipush 6, 2) := by decide +kernel
theorem dX4_keyOf_35 : decode cX4_keyOf 35 = .ok (.invokevirtual 28, 3) := by decide +kernel
theorem dX4_keyOf_38 : decode cX4_keyOf 38 = .ok (.sipush 336, 3) := by decide +kernel
theorem dX4_keyOf_41 : decode cX4_keyOf 41 = .ok (.imul, 1) := by decide +kernel
theorem dX4_keyOf_42 : decode cX4_keyOf 42 = .ok (.aload_n 0, 1) := by decide +kernel
theorem dX4_keyOf_43 : decode cX4_keyOf 43 = .ok (.getfield 9, 3) := by decide +kernel
theorem dX4_keyOf_46 : decode cX4_keyOf 46 = .ok (.iload_n 2, 1) := by decide +kernel
theorem dX4_keyOf_47 : decode cX4_keyOf 47 = .ok (.iconst 4, 1) := by decide +kernel
theorem dX4_keyOf_48 : decode cX4_keyOf 48 = .ok (.invokevirtual 28, 3) := by decide +kernel
theorem dX4_keyOf_51 : decode cX4_keyOf 51 = .ok (.iadd, 1) := by decide +kernel
theorem dX4_keyOf_52 : decode cX4_keyOf 52 = .ok (.ireturn, 1) := by decide +kernel
theorem dX4_keyOf_53 : decode cX4_keyOf 53 = .ok (.aload_n 0, 1) := by decide +kernel
theorem dX4_keyOf_54 : decode cX4_keyOf 54 = .ok (.getfield 9, 3) := by decide +kernel
theorem dX4_keyOf_57 : decode cX4_keyOf 57 = .ok (.iload_n 2, 1) := by decide +kernel
theorem dX4_keyOf_58 : decode cX4_keyOf 58 = .ok (.iconst 4, 1) := by decide +kernel
theorem dX4_keyOf_59 : decode cX4_keyOf 59 = .ok (.invokevirtual 28, 3) := by decide +kernel
theorem dX4_keyOf_62 : decode cX4_keyOf 62 = .ok (.iconst 4, 1) := by decide +kernel
theorem dX4_keyOf_63 : decode cX4_keyOf 63 = .ok (.imul, 1) := by decide +kernel
theorem dX4_keyOf_64 : decode cX4_keyOf 64 = .ok (.aload_n 0, 1) := by decide +kernel
theorem dX4_keyOf_65 : decode cX4_keyOf 65 = .ok (.getfield 9, 3) := by decide +kernel
theorem dX4_keyOf_68 : decode cX4_keyOf 68 = .ok (.iload_n 2, 1) := by decide +kernel
theorem dX4_keyOf_69 : decode cX4_keyOf 69 = .ok (.bipush 6, 2) := by decide +kernel
theorem dX4_keyOf_71 : decode cX4_keyOf 71 = .ok (.invokevirtual 28, 3) := by decide +kernel
theorem dX4_keyOf_74 : decode cX4_keyOf 74 = .ok (.iadd, 1) := by decide +kernel
theorem dX4_keyOf_75 : decode cX4_keyOf 75 = .ok (.ireturn, 1) := by decide +kernel
theorem dX4_keyOf_76 : decode cX4_keyOf 76 = .ok (.aload_n 0, 1) := by decide +kernel
theorem dX4_keyOf_77 : decode cX4_keyOf 77 = .ok (.getfield 9, 3) := by decide +kernel
theorem dX4_keyOf_80 : decode cX4_keyOf 80 = .ok (.iload_n 2, 1) := by decide +kernel
theorem dX4_keyOf_81 : decode cX4_keyOf 81 = .ok (.iconst 5, 1) := by decide +kernel
theorem dX4_keyOf_82 : decode cX4_keyOf 82 = .ok (.invokevirtual 28, 3) := by decide +kernel
theorem dX4_keyOf_85 : decode cX4_keyOf 85 = .ok (.ireturn, 1) := by decide +kernel
theorem dX4_keyOf_86 : decode cX4_keyOf 86 = .ok (.aload_n 0, 1) := by decide +kernel
theorem dX4_keyOf_87 : decode cX4_keyOf 87 = .ok (.getfield 9, 3) := by decide +kernel
theorem dX4_keyOf_90 : decode cX4_keyOf 90 = .ok (.iload_n 2, 1) := by decide +kernel
theorem dX4_keyOf_91 : decode cX4_keyOf 91 = .ok (.iconst 0, 1) := by decide +kernel
theorem dX4_keyOf_92 : decode cX4_keyOf 92 = .ok (.invokevirtual 28, 3) := by decide +kernel
theorem dX4_keyOf_95 : decode cX4_keyOf 95 = .ok (.ineg, 1) := by decide +kernel
theorem dX4_keyOf_96 : decode cX4_keyOf 96 = .ok (.ireturn, 1) := by decide +kernel
theorem dX5_init_0 : decode cX5_init 0 = .ok (.aload_n 0, 1) := by decide +kernel
theorem dX5_init_1 : decode cX5_init 1 = .ok (.invokespecial 3, 3) := by decide +kernel
theorem dX5_init_4 : decode cX5_init 4 = .ok (.aload_n 0, 1) := by decide +kernel
theorem dX5_init_5 : decode cX5_init 5 = .ok (.bipush 9, 2) := by decide +kernel
theorem dX5_init_7 : decode cX5_init 7 = .ok (.newarray .int, 2) := by decide +kernel
theorem dX5_init_9 : decode cX5_init 9 = .ok (.putfield 9, 3) := by decide +kernel
theorem dX5_init_12 : decode cX5_init 12 = .ok (.aload_n 0, 1) := by decide +kernel
theorem dX5_init_13 : decode cX5_init 13 = .ok (.iconst (-1), 1) := by decide +kernel
theorem dX5_init_14 : decode cX5_init 14 = .ok (.putfield 15, 3) := by decide +kernel
theorem dX5_init_17 : decode cX5_init 17 = .ok (.aload_n 0, 1) := by decide +kernel
theorem dX5_init_18 : decode cX5_init 18 = .ok (.aload_n 1, 1) := by decide +kernel
theorem dX5_init_19 : decode cX5_init 19 = .ok (.putfield 19, 3) := by decide +kernel
theorem dX5_init_22 : decode cX5_init 22 = .ok (.aload_n 0, 1) := by decide +kernel
theorem dX5_init_23 : decode cX5_init 23 = .ok (.aload_n 2, 1) := by decide +kernel
theorem dX5_init_24 : decode cX5_init 24 = .ok (.putfield 23, 3) := by decide +kernel
theorem dX5_init_27 : decode cX5_init 27 = .ok (.return_, 1) := by decide +kernel
theorem dX5_readText_0 : decode cX5_readText 0 = .ok (.aload_n 0, 1) := by decide +kernel
theorem dX5_readText_1 : decode cX5_readText 1 = .ok (.iload_n 1, 1) := by decide +kernel
theorem dX5_readText_2 : decode cX5_readText 2 = .ok (.aload_n 0, 1) := by decide +kernel
theorem dX5_readText_3 : decode cX5_readText 3 = .ok (.getfield 19, 3) := by decide +kernel
theorem dX5_readText_6 : decode cX5_readText 6 = .ok (.arraylength, 1) := by decide +kernel
theorem dX5_readText_7 : decode cX5_readText 7 = .ok (.invokestatic 27, 3) := by decide +kernel
theorem dX5_readText_10 : decode cX5_readText 10 = .ok (.putfield 33, 3) := by decide +kernel
theorem dX5_readText_13 : decode cX5_readText 13 = .ok (.aload_n 0, 1) := by decide +kernel
theorem dX5_readText_14 : decode cX5_readText 14 = .ok (.iconst 0, 1) := by decide +kernel
theorem dX5_readText_15 : decode cX5_readText 15 = .ok (.putfield 36, 3) := by decide +kernel
theorem dX5_readText_18 : decode cX5_readText 18 = .ok (.aload_n 0, 1) := by decide +kernel
theorem dX5_readText_19 : decode cX5_readText 19 = .ok (.iconst 0, 1) := by decide +kernel
theorem dX5_readText_20 : decode cX5_readText 20 = .ok (.putfield 39, 3) := by decide +kernel
theorem dX5_readText_23 : decode cX5_readText 23 = .ok (.aload_n 0, 1) := by decide +kernel
theorem dX5_readText_24 : decode cX5_readText 24 = .ok (.iconst (-1), 1) := by decide +kernel
theorem dX5_readText_25 : decode cX5_readText 25 = .ok (.putfield 15, 3) := by decide +kernel
theorem dX5_readText_28 : decode cX5_readText 28 = .ok (.aload_n 0, 1) := by decide +kernel
theorem dX5_readText_29 : decode cX5_readText 29 = .ok (.getfield 23, 3) := by decide +kernel
theorem dX5_readText_32 : decode cX5_readText 32 = .ok (.invokevirtual 42, 3) := by decide +kernel
theorem dX5_readText_35 : decode cX5_readText 35 = .ok (.iconst 0, 1) := by decide +kernel
theorem dX5_readText_36 : decode cX5_readText 36 = .ok (.istore_n 2, 1) := by decide +kernel
theorem dX5_readText_37 : decode cX5_readText 37 = .ok (.iconst 0, 1) := by decide +kernel
theorem dX5_readText_38 : decode cX5_readText 38 = .ok (.istore_n 3, 1) := by decide +kernel
theorem dX5_readText_39 : decode cX5_readText 39 = .ok (.iload_n 3, 1) := by decide +kernel
theorem dX5_readText_40 : decode cX5_readText 40 = .ok (.aload_n 0, 1) := by decide +kernel
theorem dX5_readText_41 : decode cX5_readText 41 = .ok (.getfield 33, 3) := by decide +kernel
theorem dX5_readText_44 : decode cX5_readText 44 = .ok (.if_icmp .gt 39, 3) := by decide +kernel
theorem dX5_readText_47 : decode cX5_readText 47 = .ok (.aload_n 0, 1) := by decide +kernel
theorem dX5_readText_48 : decode cX5_readText 48 = .ok (.invokevirtual 47, 3) := by decide +kernel
theorem dX5_readText_51 : decode cX5_readText 51 = .ok (.aload_n 0, 1) := by decide +kernel
theorem dX5_readText_52 : decode cX5_readText 52 = .ok (.getfield 36, 3) := by decide +kernel
theorem dX5_readText_55 : decode cX5_readText 55 = .ok (.aload_n 0, 1) := by decide +kernel
theorem dX5_readText_56 : decode cX5_readText 56 = .ok (.getfield 33, 3) := by decide +kernel
theorem dX5_readText_59 : decode cX5_readText 59 = .ok (.if_icmp .lt 6, 3) := by decide +kernel
theorem dX5_readText_62 : decode cX5_readText 62 = .ok (.goto 21, 3) := by decide +kernel
theorem dX5_readText_65 : decode cX5_readText 65 = .ok (.aload_n 0, 1) := by decide +kernel
theorem dX5_readText_66 : decode cX5_readText 66 = .ok (.invokevirtual 50, 3) := by decide +kernel
theorem dX5_readText_69 : decode cX5_readText 69 = .ok (.ifCond .ne 5, 3) := by decide +kernel
theorem dX5_readText_72 : decode cX5_readText 72 = .ok (.iconst (-1), 1) := by decide +kernel
theorem dX5_readText_73 : decode cX5_readText 73 = .ok (.ireturn, 1) := by decide +kernel
theorem dX5_readText_74 : decode cX5_readText 74 = .ok (.iinc 2 1, 3) := by decide +kernel
theorem dX5_readText_77 : decode cX5_readText 77 = .ok (.iinc 3 1, 3) := by decide +kernel
theorem dX5_readText_80 : decode cX5_readText 80 = .ok (.goto (-41), 3) := by decide +kernel
theorem dX5_readText_83 : decode cX5_readText 83 = .ok (.iload_n 2, 1) := by decide +kernel
theorem dX5_readText_84 : decode cX5_readText 84 = .ok (.ireturn, 1) := by decide +kernel
theorem dX5_refuse_0 : decode cX5_refuse 0 = .ok (.aload_n 0, 1) := by decide +kernel
theorem dX5_refuse_1 : decode cX5_refuse 1 = .ok (.iload_n 1, 1) := by decide +kernel
theorem dX5_refuse_2 : decode cX5_refuse 2 = .ok (.putfield 39, 3) := by decide +kernel
theorem dX5_refuse_5 : decode cX5_refuse 5 = .ok (.aload_n 0, 1) := by decide +kernel
theorem dX5_refuse_6 : decode cX5_refuse 6 = .ok (.iload_n 2, 1) := by decide +kernel
theorem dX5_refuse_7 : decode cX5_refuse 7 = .ok (.putfield 15, 3) := by decide +kernel
theorem dX5_refuse_10 : decode cX5_refuse 10 = .ok (.iconst 0, 1) := by decide +kernel
theorem dX5_refuse_11 : decode cX5_refuse 11 = .ok (.ireturn, 1) := by decide +kernel
theorem dX5_readLine_0 : decode cX5_readLine 0 = .ok (.aload_n 0, 1) := by decide +kernel
theorem dX5_readLine_1 : decode cX5_readLine 1 = .ok (.getfield 36, 3) := by decide +kernel
theorem dX5_readLine_4 : decode cX5_readLine 4 = .ok (.istore_n 1, 1) := by decide +kernel
theorem dX5_readLine_5 : decode cX5_readLine 5 = .ok (.aload_n 0, 1) := by decide +kernel
theorem dX5_readLine_6 : decode cX5_readLine 6 = .ok (.iload_n 1, 1) := by decide +kernel
theorem dX5_readLine_7 : decode cX5_readLine 7 = .ok (.aload_n 0, 1) := by decide +kernel
theorem dX5_readLine_8 : decode cX5_readLine 8 = .ok (.bipush 97, 2) := by decide +kernel
theorem dX5_readLine_10 : decode cX5_readLine 10 = .ok (.bipush 122, 2) := by decide +kernel
theorem dX5_readLine_12 : decode cX5_readLine 12 = .ok (.invokevirtual 54, 3) := by decide +kernel
theorem dX5_readLine_15 : decode cX5_readLine 15 = .ok (.invokevirtual 58, 3) := by decide +kernel
theorem dX5_readLine_18 : decode cX5_readLine 18 = .ok (.istore_n 2, 1) := by decide +kernel
theorem dX5_readLine_19 : decode cX5_readLine 19 = .ok (.iload_n 2, 1) := by decide +kernel
theorem dX5_readLine_20 : decode cX5_readLine 20 = .ok (.iconst (-1), 1) := by decide +kernel
theorem dX5_readLine_21 : decode cX5_readLine 21 = .ok (.if_icmp .ne 10, 3) := by decide +kernel
theorem dX5_readLine_24 : decode cX5_readLine 24 = .ok (.aload_n 0, 1) := by decide +kernel
theorem dX5_readLine_25 : decode cX5_readLine 25 = .ok (.iconst 1, 1) := by decide +kernel
theorem dX5_readLine_26 : decode cX5_readLine 26 = .ok (.iload_n 1, 1) := by decide +kernel
theorem dX5_readLine_27 : decode cX5_readLine 27 = .ok (.invokevirtual 61, 3) := by decide +kernel
theorem dX5_readLine_30 : decode cX5_readLine 30 = .ok (.ireturn, 1) := by decide +kernel
theorem dX5_readLine_31 : decode cX5_readLine 31 = .ok (.aload_n 0, 1) := by decide +kernel
theorem dX5_readLine_32 : decode cX5_readLine 32 = .ok (.getfield 23, 3) := by decide +kernel
theorem dX5_readLine_35 : decode cX5_readLine 35 = .ok (.iload_n 2, 1) := by decide +kernel
theorem dX5_readLine_36 : decode cX5_readLine 36 = .ok (.invokevirtual 65, 3) := by decide +kernel
theorem dX5_readLine_39 : decode cX5_readLine 39 = .ok (.ifCond .eq 10, 3) := by decide +kernel
theorem dX5_readLine_42 : decode cX5_readLine 42 = .ok (.aload_n 0, 1) := by decide +kernel
theorem dX5_readLine_43 : decode cX5_readLine 43 = .ok (.iconst 3, 1) := by decide +kernel
theorem dX5_readLine_44 : decode cX5_readLine 44 = .ok (.iload_n 1, 1) := by decide +kernel
theorem dX5_readLine_45 : decode cX5_readLine 45 = .ok (.invokevirtual 61, 3) := by decide +kernel
theorem dX5_readLine_48 : decode cX5_readLine 48 = .ok (.ireturn, 1) := by decide +kernel
theorem dX5_readLine_49 : decode cX5_readLine 49 = .ok (.aload_n 0, 1) := by decide +kernel
theorem dX5_readLine_50 : decode cX5_readLine 50 = .ok (.getfield 23, 3) := by decide +kernel
theorem dX5_readLine_53 : decode cX5_readLine 53 = .ok (.iload_n 2, 1) := by decide +kernel
theorem dX5_readLine_54 : decode cX5_readLine 54 = .ok (.invokevirtual 69, 3) := by decide +kernel
theorem dX5_readLine_57 : decode cX5_readLine 57 = .ok (.ifCond .eq 10, 3) := by decide +kernel
theorem dX5_readLine_60 : decode cX5_readLine 60 = .ok (.aload_n 0, 1) := by decide +kernel
theorem dX5_readLine_61 : decode cX5_readLine 61 = .ok (.iconst 4, 1) := by decide +kernel
theorem dX5_readLine_62 : decode cX5_readLine 62 = .ok (.iload_n 1, 1) := by decide +kernel
theorem dX5_readLine_63 : decode cX5_readLine 63 = .ok (.invokevirtual 61, 3) := by decide +kernel
theorem dX5_readLine_66 : decode cX5_readLine 66 = .ok (.ireturn, 1) := by decide +kernel
theorem dX5_readLine_67 : decode cX5_readLine 67 = .ok (.iload_n 2, 1) := by decide +kernel
theorem dX5_readLine_68 : decode cX5_readLine 68 = .ok (.bipush 10, 2) := by decide +kernel
theorem dX5_readLine_70 : decode cX5_readLine 70 = .ok (.if_icmp .ne 12, 3) := by decide +kernel
theorem dX5_readLine_73 : decode cX5_readLine 73 = .ok (.aload_n 0, 1) := by decide +kernel
theorem dX5_readLine_74 : decode cX5_readLine 74 = .ok (.invokevirtual 72, 3) := by decide +kernel
theorem dX5_readLine_77 : decode cX5_readLine 77 = .ok (.ifCond .ne 5, 3) := by decide +kernel
theorem dX5_readLine_80 : decode cX5_readLine 80 = .ok (.iconst 0, 1) := by decide +kernel
theorem dX5_readLine_81 : decode cX5_readLine 81 = .ok (.ireturn, 1) := by decide +kernel
theorem dX5_readLine_82 : decode cX5_readLine 82 = .ok (.iconst 0, 1) := by decide +kernel
theorem dX5_readLine_83 : decode cX5_readLine 83 = .ok (.istore_n 3, 1) := by decide +kernel
theorem dX5_readLine_84 : decode cX5_readLine 84 = .ok (.iload_n 3, 1) := by decide +kernel
theorem dX5_readLine_85 : decode cX5_readLine 85 = .ok (.getstatic 75, 3) := by decide +kernel
theorem dX5_readLine_88 : decode cX5_readLine 88 = .ok (.iload_n 2, 1) := by decide +kernel
theorem dX5_readLine_89 : decode cX5_readLine 89 = .ok (.iaload, 1) := by decide +kernel
theorem dX5_readLine_90 : decode cX5_readLine 90 = .ok (.if_icmp .ge 20, 3) := by decide +kernel
theorem dX5_readLine_93 : decode cX5_readLine 93 = .ok (.aload_n 0, 1) := by decide +kernel
theorem dX5_readLine_94 : decode cX5_readLine 94 = .ok (.iload_n 2, 1) := by decide +kernel
theorem dX5_readLine_95 : decode cX5_readLine 95 = .ok (.iload_n 3, 1) := by decide +kernel
theorem dX5_readLine_96 : decode cX5_readLine 96 = .ok (.invokevirtual 78, 3) := by decide +kernel
theorem dX5_readLine_99 : decode cX5_readLine 99 = .ok (.ifCond .ne 5, 3) := by decide +kernel
theorem dX5_readLine_102 : decode cX5_readLine 102 = .ok (.iconst 0, 1) := by decide +kernel
theorem dX5_readLine_103 : decode cX5_readLine 103 = .ok (.ireturn, 1) := by decide +kernel
theorem dX5_readLine_104 : decode cX5_readLine 104 = .ok (.iinc 3 1, 3) := by decide +kernel
theorem dX5_readLine_107 : decode cX5_readLine 107 = .ok (.goto (-23), 3) := by decide +kernel
theorem dX5_readLine_110 : decode cX5_readLine 110 = .ok (.aload_n 0, 1) := by decide +kernel
theorem dX5_readLine_111 : decode cX5_readLine 111 = .ok (.invokevirtual 47, 3) := by decide +kernel
theorem dX5_readLine_114 : decode cX5_readLine 114 = .ok (.aload_n 0, 1) := by decide +kernel
theorem dX5_readLine_115 : decode cX5_readLine 115 = .ok (.getfield 36, 3) := by decide +kernel
theorem dX5_readLine_118 : decode cX5_readLine 118 = .ok (.aload_n 0, 1) := by decide +kernel
theorem dX5_readLine_119 : decode cX5_readLine 119 = .ok (.getfield 33, 3) := by decide +kernel
theorem dX5_readLine_122 : decode cX5_readLine 122 = .ok (.if_icmp .ge 17, 3) := by decide +kernel
theorem dX5_readLine_125 : decode cX5_readLine 125 = .ok (.aload_n 0, 1) := by decide +kernel
theorem dX5_readLine_126 : decode cX5_readLine 126 = .ok (.getfield 19, 3) := by decide +kernel
theorem dX5_readLine_129 : decode cX5_readLine 129 = .ok (.aload_n 0, 1) := by decide +kernel
theorem dX5_readLine_130 : decode cX5_readLine 130 = .ok (.getfield 36, 3) := by decide +kernel
theorem dX5_readLine_133 : decode cX5_readLine 133 = .ok (.baload, 1) := by decide +kernel
theorem dX5_readLine_134 : decode cX5_readLine 134 = .ok (.bipush 59, 2) := by decide +kernel
theorem dX5_readLine_136 : decode cX5_readLine 136 = .ok (.if_icmp .eq 13, 3) := by decide +kernel
theorem dX5_readLine_139 : decode cX5_readLine 139 = .ok (.aload_n 0, 1) := by decide +kernel
theorem dX5_readLine_140 : decode cX5_readLine 140 = .ok (.iconst 1, 1) := by decide +kernel
theorem dX5_readLine_141 : decode cX5_readLine 141 = .ok (.aload_n 0, 1) := by decide +kernel
theorem dX5_readLine_142 : decode cX5_readLine 142 = .ok (.getfield 36, 3) := by decide +kernel
theorem dX5_readLine_145 : decode cX5_readLine 145 = .ok (.invokevirtual 61, 3) := by decide +kernel
theorem dX5_readLine_148 : decode cX5_readLine 148 = .ok (.ireturn, 1) := by decide +kernel
theorem dX5_readLine_149 : decode cX5_readLine 149 = .ok (.aload_n 0, 1) := by decide +kernel
theorem dX5_readLine_150 : decode cX5_readLine 150 = .ok (.dup, 1) := by decide +kernel
theorem dX5_readLine_151 : decode cX5_readLine 151 = .ok (.getfield 36, 3) := by decide +kernel
theorem dX5_readLine_154 : decode cX5_readLine 154 = .ok (.iconst 1, 1) := by decide +kernel
theorem dX5_readLine_155 : decode cX5_readLine 155 = .ok (.iadd, 1) := by decide +kernel
theorem dX5_readLine_156 : decode cX5_readLine 156 = .ok (.putfield 36, 3) := by decide +kernel
theorem dX5_readLine_159 : decode cX5_readLine 159 = .ok (.aload_n 0, 1) := by decide +kernel
theorem dX5_readLine_160 : decode cX5_readLine 160 = .ok (.getfield 23, 3) := by decide +kernel
theorem dX5_readLine_163 : decode cX5_readLine 163 = .ok (.iload_n 2, 1) := by decide +kernel
theorem dX5_readLine_164 : decode cX5_readLine 164 = .ok (.aload_n 0, 1) := by decide +kernel
theorem dX5_readLine_165 : decode cX5_readLine 165 = .ok (.getfield 9, 3) := by decide +kernel
theorem dX5_readLine_168 : decode cX5_readLine 168 = .ok (.invokevirtual 81, 3) := by decide +kernel
theorem dX5_readLine_171 : decode cX5_readLine 171 = .ok (.iconst 1, 1) := by decide +kernel
theorem dX5_readLine_172 : decode cX5_readLine 172 = .ok (.ireturn, 1) := by decide +kernel
theorem dX5_readName_0 : decode cX5_readName 0 = .ok (.aload_n 0, 1) := by decide +kernel
theorem dX5_readName_1 : decode cX5_readName 1 = .ok (.invokevirtual 47, 3) := by decide +kernel
theorem dX5_readName_4 : decode cX5_readName 4 = .ok (.aload_n 0, 1) := by decide +kernel
theorem dX5_readName_5 : decode cX5_readName 5 = .ok (.getfield 36, 3) := by decide +kernel
theorem dX5_readName_8 : decode cX5_readName 8 = .ok (.istore_n 1, 1) := by decide +kernel
theorem dX5_readName_9 : decode cX5_readName 9 = .ok (.aload_n 0, 1) := by decide +kernel
theorem dX5_readName_10 : decode cX5_readName 10 = .ok (.bipush 97, 2) := by decide +kernel
theorem dX5_readName_12 : decode cX5_readName 12 = .ok (.bipush 122, 2) := by decide +kernel
theorem dX5_readName_14 : decode cX5_readName 14 = .ok (.invokevirtual 54, 3) := by decide +kernel
theorem dX5_readName_17 : decode cX5_readName 17 = .ok (.istore_n 2, 1) := by decide +kernel
theorem dX5_readName_18 : decode cX5_readName 18 = .ok (.iload_n 2, 1) := by decide +kernel
theorem dX5_readName_19 : decode cX5_readName 19 = .ok (.iconst 1, 1) := by decide +kernel
theorem dX5_readName_20 : decode cX5_readName 20 = .ok (.if_icmp .lt 19, 3) := by decide +kernel
theorem dX5_readName_23 : decode cX5_readName 23 = .ok (.iload_n 2, 1) := by decide +kernel
theorem dX5_readName_24 : decode cX5_readName 24 = .ok (.bipush 8, 2) := by decide +kernel
theorem dX5_readName_26 : decode cX5_readName 26 = .ok (.if_icmp .gt 13, 3) := by decide +kernel
theorem dX5_readName_29 : decode cX5_readName 29 = .ok (.aload_n 0, 1) := by decide +kernel
theorem dX5_readName_30 : decode cX5_readName 30 = .ok (.iload_n 1, 1) := by decide +kernel
theorem dX5_readName_31 : decode cX5_readName 31 = .ok (.iload_n 2, 1) := by decide +kernel
theorem dX5_readName_32 : decode cX5_readName 32 = .ok (.invokevirtual 58, 3) := by decide +kernel
theorem dX5_readName_35 : decode cX5_readName 35 = .ok (.iconst (-1), 1) := by decide +kernel
theorem dX5_readName_36 : decode cX5_readName 36 = .ok (.if_icmp .eq 10, 3) := by decide +kernel
theorem dX5_readName_39 : decode cX5_readName 39 = .ok (.aload_n 0, 1) := by decide +kernel
theorem dX5_readName_40 : decode cX5_readName 40 = .ok (.iconst 1, 1) := by decide +kernel
theorem dX5_readName_41 : decode cX5_readName 41 = .ok (.iload_n 1, 1) := by decide +kernel
theorem dX5_readName_42 : decode cX5_readName 42 = .ok (.invokevirtual 61, 3) := by decide +kernel
theorem dX5_readName_45 : decode cX5_readName 45 = .ok (.ireturn, 1) := by decide +kernel
theorem dX5_readName_46 : decode cX5_readName 46 = .ok (.aload_n 0, 1) := by decide +kernel
theorem dX5_readName_47 : decode cX5_readName 47 = .ok (.getfield 23, 3) := by decide +kernel
theorem dX5_readName_50 : decode cX5_readName 50 = .ok (.aload_n 0, 1) := by decide +kernel
theorem dX5_readName_51 : decode cX5_readName 51 = .ok (.getfield 19, 3) := by decide +kernel
theorem dX5_readName_54 : decode cX5_readName 54 = .ok (.iload_n 1, 1) := by decide +kernel
theorem dX5_readName_55 : decode cX5_readName 55 = .ok (.iload_n 2, 1) := by decide +kernel
theorem dX5_readName_56 : decode cX5_readName 56 = .ok (.invokevirtual 85, 3) := by decide +kernel
theorem dX5_readName_59 : decode cX5_readName 59 = .ok (.aload_n 0, 1) := by decide +kernel
theorem dX5_readName_60 : decode cX5_readName 60 = .ok (.getfield 23, 3) := by decide +kernel
theorem dX5_readName_63 : decode cX5_readName 63 = .ok (.invokevirtual 89, 3) := by decide +kernel
theorem dX5_readName_66 : decode cX5_readName 66 = .ok (.ifCond .eq 12, 3) := by decide +kernel
theorem dX5_readName_69 : decode cX5_readName 69 = .ok (.aload_n 0, 1) := by decide +kernel
theorem dX5_readName_70 : decode cX5_readName 70 = .ok (.iconst 3, 1) := by decide +kernel
theorem dX5_readName_71 : decode cX5_readName 71 = .ok (.iload_n 1, 1) := by decide +kernel
theorem dX5_readName_72 : decode cX5_readName 72 = .ok (.invokevirtual 61, 3) := by decide +kernel
theorem dX5_readName_75 : decode cX5_readName 75 = .ok (.ifCond .eq 7, 3) := by decide +kernel
theorem dX5_readName_78 : decode cX5_readName 78 = .ok (.iconst 1, 1) := by decide +kernel
theorem dX5_readName_79 : decode cX5_readName 79 = .ok (.goto 4, 3) := by decide +kernel
theorem dX5_readName_82 : decode cX5_readName 82 = .ok (.iconst 0, 1) := by decide +kernel
theorem dX5_readName_83 : decode cX5_readName 83 = .ok (.ireturn, 1) := by decide +kernel
theorem dX5_readNumber_0 : decode cX5_readNumber 0 = .ok (.aload_n 0, 1) := by decide +kernel
theorem dX5_readNumber_1 : decode cX5_readNumber 1 = .ok (.getfield 36, 3) := by decide +kernel
theorem dX5_readNumber_4 : decode cX5_readNumber 4 = .ok (.istore_n 3, 1) := by decide +kernel
theorem dX5_readNumber_5 : decode cX5_readNumber 5 = .ok (.aload_n 0, 1) := by decide +kernel
theorem dX5_readNumber_6 : decode cX5_readNumber 6 = .ok (.invokevirtual 47, 3) := by decide +kernel
theorem dX5_readNumber_9 : decode cX5_readNumber 9 = .ok (.aload_n 0, 1) := by decide +kernel
theorem dX5_readNumber_10 : decode cX5_readNumber 10 = .ok (.getfield 36, 3) := by decide +kernel
theorem dX5_readNumber_13 : decode cX5_readNumber 13 = .ok (.istore 4, 2) := by decide +kernel
theorem dX5_readNumber_15 : decode cX5_readNumber 15 = .ok (.aload_n 0, 1) := by decide +kernel
theorem dX5_readNumber_16 : decode cX5_readNumber 16 = .ok (.bipush 48, 2) := by decide +kernel
theorem dX5_readNumber_18 : decode cX5_readNumber 18 = .ok (.bipush 57, 2) := by decide +kernel
theorem dX5_readNumber_20 : decode cX5_readNumber 20 = .ok (.invokevirtual 54, 3) := by decide +kernel
theorem dX5_readNumber_23 : decode cX5_readNumber 23 = .ok (.istore 5, 2) := by decide +kernel
theorem dX5_readNumber_25 : decode cX5_readNumber 25 = .ok (.iload 4, 2) := by decide +kernel
theorem dX5_readNumber_27 : decode cX5_readNumber 27 = .ok (.iload_n 3, 1) := by decide +kernel
theorem dX5_readNumber_28 : decode cX5_readNumber 28 = .ok (.if_icmp .eq 15, 3) := by decide +kernel
theorem dX5_readNumber_31 : decode cX5_readNumber 31 = .ok (.iload 5, 2) := by decide +kernel
theorem dX5_readNumber_33 : decode cX5_readNumber 33 = .ok (.iconst 1, 1) := by decide +kernel
theorem dX5_readNumber_34 : decode cX5_readNumber 34 = .ok (.if_icmp .lt 9, 3) := by decide +kernel
theorem dX5_readNumber_37 : decode cX5_readNumber 37 = .ok (.iload 5, 2) := by decide +kernel
theorem dX5_readNumber_39 : decode cX5_readNumber 39 = .ok (.iconst 4, 1) := by decide +kernel
theorem dX5_readNumber_40 : decode cX5_readNumber 40 = .ok (.if_icmp .le 11, 3) := by decide +kernel
theorem dX5_readNumber_43 : decode cX5_readNumber 43 = .ok (.aload_n 0, 1) := by decide +kernel
theorem dX5_readNumber_44 : decode cX5_readNumber 44 = .ok (.iconst 1, 1) := by decide +kernel
theorem dX5_readNumber_45 : decode cX5_readNumber 45 = .ok (.iload 4, 2) := by decide +kernel
theorem dX5_readNumber_47 : decode cX5_readNumber 47 = .ok (.invokevirtual 61, 3) := by decide +kernel
theorem dX5_readNumber_50 : decode cX5_readNumber 50 = .ok (.ireturn, 1) := by decide +kernel
theorem dX5_readNumber_51 : decode cX5_readNumber 51 = .ok (.iconst 0, 1) := by decide +kernel
theorem dX5_readNumber_52 : decode cX5_readNumber 52 = .ok (.istore 6, 2) := by decide +kernel
theorem dX5_readNumber_54 : decode cX5_readNumber 54 = .ok (.iload 4, 2) := by decide +kernel
theorem dX5_readNumber_56 : decode cX5_readNumber 56 = .ok (.istore 7, 2) := by decide +kernel
theorem dX5_readNumber_58 : decode cX5_readNumber 58 = .ok (.iload 7, 2) := by decide +kernel
theorem dX5_readNumber_60 : decode cX5_readNumber 60 = .ok (.aload_n 0, 1) := by decide +kernel
theorem dX5_readNumber_61 : decode cX5_readNumber 61 = .ok (.getfield 36, 3) := by decide +kernel
theorem dX5_readNumber_64 : decode cX5_readNumber 64 = .ok (.if_icmp .ge 27, 3) := by decide +kernel
theorem dX5_readNumber_67 : decode cX5_readNumber 67 = .ok (.iload 6, 2) := by decide +kernel
theorem dX5_readNumber_69 : decode cX5_readNumber 69 = .ok (.bipush 10, 2) := by decide +kernel
theorem dX5_readNumber_71 : decode cX5_readNumber 71 = .ok (.imul, 1) := by decide +kernel
theorem dX5_readNumber_72 : decode cX5_readNumber 72 = .ok (.aload_n 0, 1) := by decide +kernel
theorem dX5_readNumber_73 : decode cX5_readNumber 73 = .ok (.getfield 19, 3) := by decide +kernel
theorem dX5_readNumber_76 : decode cX5_readNumber 76 = .ok (.iload 7, 2) := by decide +kernel
theorem dX5_readNumber_78 : decode cX5_readNumber 78 = .ok (.baload, 1) := by decide +kernel
theorem dX5_readNumber_79 : decode cX5_readNumber 79 = .ok (.iadd, 1) := by decide +kernel
theorem dX5_readNumber_80 : decode cX5_readNumber 80 = .ok (.bipush 48, 2) := by decide +kernel
theorem dX5_readNumber_82 : decode cX5_readNumber 82 = .ok (.isub, 1) := by decide +kernel
theorem dX5_readNumber_83 : decode cX5_readNumber 83 = .ok (.istore 6, 2) := by decide +kernel
theorem dX5_readNumber_85 : decode cX5_readNumber 85 = .ok (.iinc 7 1, 3) := by decide +kernel
theorem dX5_readNumber_88 : decode cX5_readNumber 88 = .ok (.goto (-30), 3) := by decide +kernel
theorem dX5_readNumber_91 : decode cX5_readNumber 91 = .ok (.iload 6, 2) := by decide +kernel
theorem dX5_readNumber_93 : decode cX5_readNumber 93 = .ok (.aload_n 0, 1) := by decide +kernel
theorem dX5_readNumber_94 : decode cX5_readNumber 94 = .ok (.iload_n 1, 1) := by decide +kernel
theorem dX5_readNumber_95 : decode cX5_readNumber 95 = .ok (.iload_n 2, 1) := by decide +kernel
theorem dX5_readNumber_96 : decode cX5_readNumber 96 = .ok (.invokevirtual 92, 3) := by decide +kernel
theorem dX5_readNumber_99 : decode cX5_readNumber 99 = .ok (.if_icmp .lt 19, 3) := by decide +kernel
theorem dX5_readNumber_102 : decode cX5_readNumber 102 = .ok (.iload 6, 2) := by decide +kernel
theorem dX5_readNumber_104 : decode cX5_readNumber 104 = .ok (.getstatic 95, 3) := by decide +kernel
theorem dX5_readNumber_107 : decode cX5_readNumber 107 = .ok (.getstatic 98, 3) := by decide +kernel
theorem dX5_readNumber_110 : decode cX5_readNumber 110 = .ok (.iload_n 1, 1) := by decide +kernel
theorem dX5_readNumber_111 : decode cX5_readNumber 111 = .ok (.iaload, 1) := by decide +kernel
theorem dX5_readNumber_112 : decode cX5_readNumber 112 = .ok (.iload_n 2, 1) := by decide +kernel
theorem dX5_readNumber_113 : decode cX5_readNumber 113 = .ok (.iadd, 1) := by decide +kernel
theorem dX5_readNumber_114 : decode cX5_readNumber 114 = .ok (.iaload, 1) := by decide +kernel
theorem dX5_readNumber_115 : decode cX5_readNumber 115 = .ok (.if_icmp .le 11, 3) := by decide +kernel
theorem dX5_readNumber_118 : decode cX5_readNumber 118 = .ok (.aload_n 0, 1) := by decide +kernel
theorem dX5_readNumber_119 : decode cX5_readNumber 119 = .ok (.iconst 2, 1) := by decide +kernel
theorem dX5_readNumber_120 : decode cX5_readNumber 120 = .ok (.iload 4, 2) := by decide +kernel
theorem dX5_readNumber_122 : decode cX5_readNumber 122 = .ok (.invokevirtual 61, 3) := by decide +kernel
theorem dX5_readNumber_125 : decode cX5_readNumber 125 = .ok (.ireturn, 1) := by decide +kernel
theorem dX5_readNumber_126 : decode cX5_readNumber 126 = .ok (.aload_n 0, 1) := by decide +kernel
theorem dX5_readNumber_127 : decode cX5_readNumber 127 = .ok (.getfield 9, 3) := by decide +kernel
theorem dX5_readNumber_130 : decode cX5_readNumber 130 = .ok (.iload_n 2, 1) := by decide +kernel
theorem dX5_readNumber_131 : decode cX5_readNumber 131 = .ok (.iload 6, 2) := by decide +kernel
theorem dX5_readNumber_133 : decode cX5_readNumber 133 = .ok (.iastore, 1) := by decide +kernel
theorem dX5_readNumber_134 : decode cX5_readNumber 134 = .ok (.aload_n 0, 1) := by decide +kernel
theorem dX5_readNumber_135 : decode cX5_readNumber 135 = .ok (.getfield 23, 3) := by decide +kernel
theorem dX5_readNumber_138 : decode cX5_readNumber 138 = .ok (.iload_n 1, 1) := by decide +kernel
theorem dX5_readNumber_139 : decode cX5_readNumber 139 = .ok (.iload_n 2, 1) := by decide +kernel
theorem dX5_readNumber_140 : decode cX5_readNumber 140 = .ok (.aload_n 0, 1) := by decide +kernel
theorem dX5_readNumber_141 : decode cX5_readNumber 141 = .ok (.getfield 9, 3) := by decide +kernel
theorem dX5_readNumber_144 : decode cX5_readNumber 144 = .ok (.invokevirtual 101, 3) := by decide +kernel
theorem dX5_readNumber_147 : decode cX5_readNumber 147 = .ok (.ifCond .eq 13, 3) := by decide +kernel
theorem dX5_readNumber_150 : decode cX5_readNumber 150 = .ok (.aload_n 0, 1) := by decide +kernel
theorem dX5_readNumber_151 : decode cX5_readNumber 151 = .ok (.iconst 3, 1) := by decide +kernel
theorem dX5_readNumber_152 : decode cX5_readNumber 152 = .ok (.iload 4, 2) := by decide +kernel
theorem dX5_readNumber_154 : decode cX5_readNumber 154 = .ok (.invokevirtual 61, 3) := by decide +kernel
theorem dX5_readNumber_157 : decode cX5_readNumber 157 = .ok (.ifCond .eq 7, 3) := by decide +kernel
theorem dX5_readNumber_160 : decode cX5_readNumber 160 = .ok (.iconst 1, 1) := by decide +kernel
theorem dX5_readNumber_161 : decode cX5_readNumber 161 = .ok (.goto 4, 3) := by decide +kernel
theorem dX5_readNumber_164 : decode cX5_readNumber 164 = .ok (.iconst 0, 1) := by decide +kernel
theorem dX5_readNumber_165 : decode cX5_readNumber 165 = .ok (.ireturn, 1) := by decide +kernel
theorem dX5_leastNumber_0 : decode cX5_leastNumber 0 = .ok (.iload_n 1, 1) := by decide +kernel
theorem dX5_leastNumber_1 : decode cX5_leastNumber 1 = .ok (.bipush 7, 2) := by decide +kernel
theorem dX5_leastNumber_3 : decode cX5_leastNumber 3 = .ok (.if_icmp .ne 15, 3) := by decide +kernel
theorem dX5_leastNumber_6 : decode cX5_leastNumber 6 = .ok (.iload_n 2, 1) := by decide +kernel
theorem dX5_leastNumber_7 : decode cX5_leastNumber 7 = .ok (.iconst 1, 1) := by decide +kernel
theorem dX5_leastNumber_8 : decode cX5_leastNumber 8 = .ok (.if_icmp .ne 10, 3) := by decide +kernel
theorem dX5_leastNumber_11 : decode cX5_leastNumber 11 = .ok (.aload_n 0, 1) := by decide +kernel
theorem dX5_leastNumber_12 : decode cX5_leastNumber 12 = .ok (.getfield 9, 3) := by decide +kernel
theorem dX5_leastNumber_15 : decode cX5_leastNumber 15 = .ok (.iconst 0, 1) := by decide +kernel
theorem dX5_leastNumber_16 : decode cX5_leastNumber 16 = .ok (.iaload, 1) := by decide +kernel
theorem dX5_leastNumber_17 : decode cX5_leastNumber 17 = .ok (.ireturn, 1) := by decide +kernel
theorem dX5_leastNumber_18 : decode cX5_leastNumber 18 = .ok (.iload_n 1, 1) := by decide +kernel
theorem dX5_leastNumber_19 : decode cX5_leastNumber 19 = .ok (.bipush 10, 2) := by decide +kernel
theorem dX5_leastNumber_21 : decode cX5_leastNumber 21 = .ok (.if_icmp .ne 17, 3) := by decide +kernel
theorem dX5_leastNumber_24 : decode cX5_leastNumber 24 = .ok (.iload_n 2, 1) := by decide +kernel
theorem dX5_leastNumber_25 : decode cX5_leastNumber 25 = .ok (.bipush 8, 2) := by decide +kernel
theorem dX5_leastNumber_27 : decode cX5_leastNumber 27 = .ok (.if_icmp .ne 11, 3) := by decide +kernel
theorem dX5_leastNumber_30 : decode cX5_leastNumber 30 = .ok (.aload_n 0, 1) := by decide +kernel
theorem dX5_leastNumber_31 : decode cX5_leastNumber 31 = .ok (.getfield 9, 3) := by decide +kernel
theorem dX5_leastNumber_34 : decode cX5_leastNumber 34 = .ok (.bipush 7, 2) := by decide +kernel
theorem dX5_leastNumber_36 : decode cX5_leastNumber 36 = .ok (.iaload, 1) := by decide +kernel
theorem dX5_leastNumber_37 : decode cX5_leastNumber 37 = .ok (.ireturn, 1) := by decide +kernel
theorem dX5_leastNumber_38 : decode cX5_leastNumber 38 = .ok (.getstatic 105, 3) := by decide +kernel
theorem dX5_leastNumber_41 : decode cX5_leastNumber 41 = .ok (.getstatic 98, 3) := by decide +kernel
theorem dX5_leastNumber_44 : decode cX5_leastNumber 44 = .ok (.iload_n 1, 1) := by decide +kernel
theorem dX5_leastNumber_45 : decode cX5_leastNumber 45 = .ok (.iaload, 1) := by decide +kernel
theorem dX5_leastNumber_46 : decode cX5_leastNumber 46 = .ok (.iload_n 2, 1) := by decide +kernel
theorem dX5_leastNumber_47 : decode cX5_leastNumber 47 = .ok (.iadd, 1) := by decide +kernel
theorem dX5_leastNumber_48 : decode cX5_leastNumber 48 = .ok (.iaload, 1) := by decide +kernel
theorem dX5_leastNumber_49 : decode cX5_leastNumber 49 = .ok (.ireturn, 1) := by decide +kernel
theorem dX5_skipBlanks_0 : decode cX5_skipBlanks 0 = .ok (.aload_n 0, 1) := by decide +kernel
theorem dX5_skipBlanks_1 : decode cX5_skipBlanks 1 = .ok (.getfield 36, 3) := by decide +kernel
theorem dX5_skipBlanks_4 : decode cX5_skipBlanks 4 = .ok (.aload_n 0, 1) := by decide +kernel
theorem dX5_skipBlanks_5 : decode cX5_skipBlanks 5 = .ok (.getfield 33, 3) := by decide +kernel
theorem dX5_skipBlanks_8 : decode cX5_skipBlanks 8 = .ok (.if_icmp .ge 44, 3) := by decide +kernel
theorem dX5_skipBlanks_11 : decode cX5_skipBlanks 11 = .ok (.aload_n 0, 1) := by decide +kernel
theorem dX5_skipBlanks_12 : decode cX5_skipBlanks 12 = .ok (.getfield 19, 3) := by decide +kernel
theorem dX5_skipBlanks_15 : decode cX5_skipBlanks 15 = .ok (.aload_n 0, 1) := by decide +kernel
theorem dX5_skipBlanks_16 : decode cX5_skipBlanks 16 = .ok (.getfield 36, 3) := by decide +kernel
theorem dX5_skipBlanks_19 : decode cX5_skipBlanks 19 = .ok (.baload, 1) := by decide +kernel
theorem dX5_skipBlanks_20 : decode cX5_skipBlanks 20 = .ok (.bipush 32, 2) := by decide +kernel
theorem dX5_skipBlanks_22 : decode cX5_skipBlanks 22 = .ok (.if_icmp .eq 17, 3) := by decide +kernel
theorem dX5_skipBlanks_25 : decode cX5_skipBlanks 25 = .ok (.aload_n 0, 1) := by decide +kernel
theorem dX5_skipBlanks_26 : decode cX5_skipBlanks 26 = .ok (.getfield 19, 3) := by decide +kernel
theorem dX5_skipBlanks_29 : decode cX5_skipBlanks 29 = .ok (.aload_n 0, 1) := by decide +kernel
theorem dX5_skipBlanks_30 : decode cX5_skipBlanks 30 = .ok (.getfield 36, 3) := by decide +kernel
theorem dX5_skipBlanks_33 : decode cX5_skipBlanks 33 = .ok (.baload, 1) := by decide +kernel
theorem dX5_skipBlanks_34 : decode cX5_skipBlanks 34 = .ok (.bipush 10, 2) := by decide +kernel
theorem dX5_skipBlanks_36 : decode cX5_skipBlanks 36 = .ok (.if_icmp .ne 16, 3) := by decide +kernel
theorem dX5_skipBlanks_39 : decode cX5_skipBlanks 39 = .ok (.aload_n 0, 1) := by decide +kernel
theorem dX5_skipBlanks_40 : decode cX5_skipBlanks 40 = .ok (.dup, 1) := by decide +kernel
theorem dX5_skipBlanks_41 : decode cX5_skipBlanks 41 = .ok (.getfield 36, 3) := by decide +kernel
theorem dX5_skipBlanks_44 : decode cX5_skipBlanks 44 = .ok (.iconst 1, 1) := by decide +kernel
theorem dX5_skipBlanks_45 : decode cX5_skipBlanks 45 = .ok (.iadd, 1) := by decide +kernel
theorem dX5_skipBlanks_46 : decode cX5_skipBlanks 46 = .ok (.putfield 36, 3) := by decide +kernel
theorem dX5_skipBlanks_49 : decode cX5_skipBlanks 49 = .ok (.goto (-49), 3) := by decide +kernel
theorem dX5_skipBlanks_52 : decode cX5_skipBlanks 52 = .ok (.return_, 1) := by decide +kernel
theorem dX5_passRow_0 : decode cX5_passRow 0 = .ok (.aload_n 0, 1) := by decide +kernel
theorem dX5_passRow_1 : decode cX5_passRow 1 = .ok (.getfield 36, 3) := by decide +kernel
theorem dX5_passRow_4 : decode cX5_passRow 4 = .ok (.istore_n 3, 1) := by decide +kernel
theorem dX5_passRow_5 : decode cX5_passRow 5 = .ok (.aload_n 0, 1) := by decide +kernel
theorem dX5_passRow_6 : decode cX5_passRow 6 = .ok (.getfield 36, 3) := by decide +kernel
theorem dX5_passRow_9 : decode cX5_passRow 9 = .ok (.aload_n 0, 1) := by decide +kernel
theorem dX5_passRow_10 : decode cX5_passRow 10 = .ok (.getfield 33, 3) := by decide +kernel
theorem dX5_passRow_13 : decode cX5_passRow 13 = .ok (.if_icmp .ge 42, 3) := by decide +kernel
theorem dX5_passRow_16 : decode cX5_passRow 16 = .ok (.aload_n 0, 1) := by decide +kernel
theorem dX5_passRow_17 : decode cX5_passRow 17 = .ok (.getfield 19, 3) := by decide +kernel
theorem dX5_passRow_20 : decode cX5_passRow 20 = .ok (.aload_n 0, 1) := by decide +kernel
theorem dX5_passRow_21 : decode cX5_passRow 21 = .ok (.getfield 36, 3) := by decide +kernel
theorem dX5_passRow_24 : decode cX5_passRow 24 = .ok (.baload, 1) := by decide +kernel
theorem dX5_passRow_25 : decode cX5_passRow 25 = .ok (.iload_n 1, 1) := by decide +kernel
theorem dX5_passRow_26 : decode cX5_passRow 26 = .ok (.if_icmp .lt 29, 3) := by decide +kernel
theorem dX5_passRow_29 : decode cX5_passRow 29 = .ok (.aload_n 0, 1) := by decide +kernel
theorem dX5_passRow_30 : decode cX5_passRow 30 = .ok (.getfield 19, 3) := by decide +kernel
theorem dX5_passRow_33 : decode cX5_passRow 33 = .ok (.aload_n 0, 1) := by decide +kernel
theorem dX5_passRow_34 : decode cX5_passRow 34 = .ok (.getfield 36, 3) := by decide +kernel
theorem dX5_passRow_37 : decode cX5_passRow 37 = .ok (.baload, 1) := by decide +kernel
theorem dX5_passRow_38 : decode cX5_passRow 38 = .ok (.iload_n 2, 1) := by decide +kernel
theorem dX5_passRow_39 : decode cX5_passRow 39 = .ok (.if_icmp .gt 16, 3) := by decide +kernel
theorem dX5_passRow_42 : decode cX5_passRow 42 = .ok (.aload_n 0, 1) := by decide +kernel
theorem dX5_passRow_43 : decode cX5_passRow 43 = .ok (.dup, 1) := by decide +kernel
theorem dX5_passRow_44 : decode cX5_passRow 44 = .ok (.getfield 36, 3) := by decide +kernel
theorem dX5_passRow_47 : decode cX5_passRow 47 = .ok (.iconst 1, 1) := by decide +kernel
theorem dX5_passRow_48 : decode cX5_passRow 48 = .ok (.iadd, 1) := by decide +kernel
theorem dX5_passRow_49 : decode cX5_passRow 49 = .ok (.putfield 36, 3) := by decide +kernel
theorem dX5_passRow_52 : decode cX5_passRow 52 = .ok (.goto (-47), 3) := by decide +kernel
theorem dX5_passRow_55 : decode cX5_passRow 55 = .ok (.aload_n 0, 1) := by decide +kernel
theorem dX5_passRow_56 : decode cX5_passRow 56 = .ok (.getfield 36, 3) := by decide +kernel
theorem dX5_passRow_59 : decode cX5_passRow 59 = .ok (.iload_n 3, 1) := by decide +kernel
theorem dX5_passRow_60 : decode cX5_passRow 60 = .ok (.isub, 1) := by decide +kernel
theorem dX5_passRow_61 : decode cX5_passRow 61 = .ok (.ireturn, 1) := by decide +kernel
theorem dX5_lineKind_0 : decode cX5_lineKind 0 = .ok (.iconst 0, 1) := by decide +kernel
theorem dX5_lineKind_1 : decode cX5_lineKind 1 = .ok (.istore_n 3, 1) := by decide +kernel
theorem dX5_lineKind_2 : decode cX5_lineKind 2 = .ok (.iload_n 3, 1) := by decide +kernel
theorem dX5_lineKind_3 : decode cX5_lineKind 3 = .ok (.bipush 11, 2) := by decide +kernel
theorem dX5_lineKind_5 : decode cX5_lineKind 5 = .ok (.if_icmp .ge 24, 3) := by decide +kernel
theorem dX5_lineKind_8 : decode cX5_lineKind 8 = .ok (.aload_n 0, 1) := by decide +kernel
theorem dX5_lineKind_9 : decode cX5_lineKind 9 = .ok (.iload_n 3, 1) := by decide +kernel
theorem dX5_lineKind_10 : decode cX5_lineKind 10 = .ok (.invokestatic 108, 3) := by decide +kernel
theorem dX5_lineKind_13 : decode cX5_lineKind 13 = .ok (.iload_n 1, 1) := by decide +kernel
theorem dX5_lineKind_14 : decode cX5_lineKind 14 = .ok (.iload_n 2, 1) := by decide +kernel
theorem dX5_lineKind_15 : decode cX5_lineKind 15 = .ok (.invokevirtual 112, 3) := by decide +kernel
theorem dX5_lineKind_18 : decode cX5_lineKind 18 = .ok (.ifCond .eq 5, 3) := by decide +kernel
theorem dX5_lineKind_21 : decode cX5_lineKind 21 = .ok (.iload_n 3, 1) := by decide +kernel
theorem dX5_lineKind_22 : decode cX5_lineKind 22 = .ok (.ireturn, 1) := by decide +kernel
theorem dX5_lineKind_23 : decode cX5_lineKind 23 = .ok (.iinc 3 1, 3) := by decide +kernel
theorem dX5_lineKind_26 : decode cX5_lineKind 26 = .ok (.goto (-24), 3) := by decide +kernel
theorem dX5_lineKind_29 : decode cX5_lineKind 29 = .ok (.iconst (-1), 1) := by decide +kernel
theorem dX5_lineKind_30 : decode cX5_lineKind 30 = .ok (.ireturn, 1) := by decide +kernel
theorem dX5_isWord_0 : decode cX5_isWord 0 = .ok (.aload_n 1, 1) := by decide +kernel
theorem dX5_isWord_1 : decode cX5_isWord 1 = .ok (.invokevirtual 116, 3) := by decide +kernel
theorem dX5_isWord_4 : decode cX5_isWord 4 = .ok (.iload_n 3, 1) := by decide +kernel
theorem dX5_isWord_5 : decode cX5_isWord 5 = .ok (.if_icmp .eq 5, 3) := by decide +kernel
theorem dX5_isWord_8 : decode cX5_isWord 8 = .ok (.iconst 0, 1) := by decide +kernel
theorem dX5_isWord_9 : decode cX5_isWord 9 = .ok (.ireturn, 1) := by decide +kernel
theorem dX5_isWord_10 : decode cX5_isWord 10 = .ok (.iconst 0, 1) := by decide +kernel
theorem dX5_isWord_11 : decode cX5_isWord 11 = .ok (.istore 4, 2) := by decide +kernel
theorem dX5_isWord_13 : decode cX5_isWord 13 = .ok (.iload 4, 2) := by decide +kernel
theorem dX5_isWord_15 : decode cX5_isWord 15 = .ok (.iload_n 3, 1) := by decide +kernel
theorem dX5_isWord_16 : decode cX5_isWord 16 = .ok (.if_icmp .ge 29, 3) := by decide +kernel
theorem dX5_isWord_19 : decode cX5_isWord 19 = .ok (.aload_n 1, 1) := by decide +kernel
theorem dX5_isWord_20 : decode cX5_isWord 20 = .ok (.iload 4, 2) := by decide +kernel
theorem dX5_isWord_22 : decode cX5_isWord 22 = .ok (.invokevirtual 121, 3) := by decide +kernel
theorem dX5_isWord_25 : decode cX5_isWord 25 = .ok (.aload_n 0, 1) := by decide +kernel
theorem dX5_isWord_26 : decode cX5_isWord 26 = .ok (.getfield 19, 3) := by decide +kernel
theorem dX5_isWord_29 : decode cX5_isWord 29 = .ok (.iload_n 2, 1) := by decide +kernel
theorem dX5_isWord_30 : decode cX5_isWord 30 = .ok (.iload 4, 2) := by decide +kernel
theorem dX5_isWord_32 : decode cX5_isWord 32 = .ok (.iadd, 1) := by decide +kernel
theorem dX5_isWord_33 : decode cX5_isWord 33 = .ok (.baload, 1) := by decide +kernel
theorem dX5_isWord_34 : decode cX5_isWord 34 = .ok (.if_icmp .eq 5, 3) := by decide +kernel
theorem dX5_isWord_37 : decode cX5_isWord 37 = .ok (.iconst 0, 1) := by decide +kernel
theorem dX5_isWord_38 : decode cX5_isWord 38 = .ok (.ireturn, 1) := by decide +kernel
theorem dX5_isWord_39 : decode cX5_isWord 39 = .ok (.iinc 4 1, 3) := by decide +kernel
theorem dX5_isWord_42 : decode cX5_isWord 42 = .ok (.goto (-29), 3) := by decide +kernel
theorem dX5_isWord_45 : decode cX5_isWord 45 = .ok (.iconst 1, 1) := by decide +kernel
theorem dX5_isWord_46 : decode cX5_isWord 46 = .ok (.ireturn, 1) := by decide +kernel
theorem dX5_wordOf_0 : decode cX5_wordOf 0 = .ok (.iload_n 0, 1) := by decide +kernel
theorem dX5_wordOf_1 : decode cX5_wordOf 1 = .ok (.tableswitch 85 0 9 #[55, 58, 61, 64, 67, 70, 73, 76, 79, 82], 55) := by decide +kernel
theorem dX5_wordOf_56 : decode cX5_wordOf 56 = .ok (.ldc 125, 2) := by decide +kernel
theorem dX5_wordOf_58 : decode cX5_wordOf 58 = .ok (.areturn, 1) := by decide +kernel
theorem dX5_wordOf_59 : decode cX5_wordOf 59 = .ok (.ldc 127, 2) := by decide +kernel
theorem dX5_wordOf_61 : decode cX5_wordOf 61 = .ok (.areturn, 1) := by decide +kernel
theorem dX5_wordOf_62 : decode cX5_wordOf 62 = .ok (.ldc 129, 2) := by decide +kernel
theorem dX5_wordOf_64 : decode cX5_wordOf 64 = .ok (.areturn, 1) := by decide +kernel
theorem dX5_wordOf_65 : decode cX5_wordOf 65 = .ok (.ldc 131, 2) := by decide +kernel
theorem dX5_wordOf_67 : decode cX5_wordOf 67 = .ok (.areturn, 1) := by decide +kernel
theorem dX5_wordOf_68 : decode cX5_wordOf 68 = .ok (.ldc 133, 2) := by decide +kernel
theorem dX5_wordOf_70 : decode cX5_wordOf 70 = .ok (.areturn, 1) := by decide +kernel
theorem dX5_wordOf_71 : decode cX5_wordOf 71 = .ok (.ldc 135, 2) := by decide +kernel
theorem dX5_wordOf_73 : decode cX5_wordOf 73 = .ok (.areturn, 1) := by decide +kernel
theorem dX5_wordOf_74 : decode cX5_wordOf 74 = .ok (.ldc 137, 2) := by decide +kernel
theorem dX5_wordOf_76 : decode cX5_wordOf 76 = .ok (.areturn, 1) := by decide +kernel
theorem dX5_wordOf_77 : decode cX5_wordOf 77 = .ok (.ldc 139, 2) := by decide +kernel
theorem dX5_wordOf_79 : decode cX5_wordOf 79 = .ok (.areturn, 1) := by decide +kernel
theorem dX5_wordOf_80 : decode cX5_wordOf 80 = .ok (.ldc 141, 2) := by decide +kernel
theorem dX5_wordOf_82 : decode cX5_wordOf 82 = .ok (.areturn, 1) := by decide +kernel
theorem dX5_wordOf_83 : decode cX5_wordOf 83 = .ok (.ldc 143, 2) := by decide +kernel
theorem dX5_wordOf_85 : decode cX5_wordOf 85 = .ok (.areturn, 1) := by decide +kernel
theorem dX5_wordOf_86 : decode cX5_wordOf 86 = .ok (.ldc 145, 2) := by decide +kernel
theorem dX5_wordOf_88 : decode cX5_wordOf 88 = .ok (.areturn, 1) := by decide +kernel
theorem dX6_init_0 : decode cX6_init 0 = .ok (.aload_n 0, 1) := by decide +kernel
theorem dX6_init_1 : decode cX6_init 1 = .ok (.invokespecial 3, 3) := by decide +kernel
theorem dX6_init_4 : decode cX6_init 4 = .ok (.aload_n 0, 1) := by decide +kernel
theorem dX6_init_5 : decode cX6_init 5 = .ok (.bipush 100, 2) := by decide +kernel
theorem dX6_init_7 : decode cX6_init 7 = .ok (.newarray .int, 2) := by decide +kernel
theorem dX6_init_9 : decode cX6_init 9 = .ok (.putfield 9, 3) := by decide +kernel
theorem dX6_init_12 : decode cX6_init 12 = .ok (.aload_n 0, 1) := by decide +kernel
theorem dX6_init_13 : decode cX6_init 13 = .ok (.aload_n 1, 1) := by decide +kernel
theorem dX6_init_14 : decode cX6_init 14 = .ok (.putfield 15, 3) := by decide +kernel
theorem dX6_init_17 : decode cX6_init 17 = .ok (.aload_n 0, 1) := by decide +kernel
theorem dX6_init_18 : decode cX6_init 18 = .ok (.aload_n 2, 1) := by decide +kernel
theorem dX6_init_19 : decode cX6_init 19 = .ok (.putfield 19, 3) := by decide +kernel
theorem dX6_init_22 : decode cX6_init 22 = .ok (.aload_n 0, 1) := by decide +kernel
theorem dX6_init_23 : decode cX6_init 23 = .ok (.aload_n 3, 1) := by decide +kernel
theorem dX6_init_24 : decode cX6_init 24 = .ok (.putfield 23, 3) := by decide +kernel
theorem dX6_init_27 : decode cX6_init 27 = .ok (.aload_n 0, 1) := by decide +kernel
theorem dX6_init_28 : decode cX6_init 28 = .ok (.aload 4, 2) := by decide +kernel
theorem dX6_init_30 : decode cX6_init 30 = .ok (.putfield 27, 3) := by decide +kernel
theorem dX6_init_33 : decode cX6_init 33 = .ok (.return_, 1) := by decide +kernel
theorem dX6_find_0 : decode cX6_find 0 = .ok (.iload_n 2, 1) := by decide +kernel
theorem dX6_find_1 : decode cX6_find 1 = .ok (.istore 4, 2) := by decide +kernel
theorem dX6_find_3 : decode cX6_find 3 = .ok (.iload 4, 2) := by decide +kernel
theorem dX6_find_5 : decode cX6_find 5 = .ok (.iload_n 3, 1) := by decide +kernel
theorem dX6_find_6 : decode cX6_find 6 = .ok (.if_icmp .lt 139, 3) := by decide +kernel
theorem dX6_find_9 : decode cX6_find 9 = .ok (.aload_n 0, 1) := by decide +kernel
theorem dX6_find_10 : decode cX6_find 10 = .ok (.iload_n 1, 1) := by decide +kernel
theorem dX6_find_11 : decode cX6_find 11 = .ok (.iload 4, 2) := by decide +kernel
theorem dX6_find_13 : decode cX6_find 13 = .ok (.invokevirtual 31, 3) := by decide +kernel
theorem dX6_find_16 : decode cX6_find 16 = .ok (.ifCond .ne 6, 3) := by decide +kernel
theorem dX6_find_19 : decode cX6_find 19 = .ok (.goto 120, 3) := by decide +kernel
theorem dX6_find_22 : decode cX6_find 22 = .ok (.aload_n 0, 1) := by decide +kernel
theorem dX6_find_23 : decode cX6_find 23 = .ok (.getfield 15, 3) := by decide +kernel
theorem dX6_find_26 : decode cX6_find 26 = .ok (.iload_n 1, 1) := by decide +kernel
theorem dX6_find_27 : decode cX6_find 27 = .ok (.iconst 4, 1) := by decide +kernel
theorem dX6_find_28 : decode cX6_find 28 = .ok (.invokevirtual 35, 3) := by decide +kernel
theorem dX6_find_31 : decode cX6_find 31 = .ok (.istore 5, 2) := by decide +kernel
theorem dX6_find_33 : decode cX6_find 33 = .ok (.iload 5, 2) := by decide +kernel
theorem dX6_find_35 : decode cX6_find 35 = .ok (.sipush 336, 3) := by decide +kernel
theorem dX6_find_38 : decode cX6_find 38 = .ok (.if_icmp .ge 101, 3) := by decide +kernel
theorem dX6_find_41 : decode cX6_find 41 = .ok (.aload_n 0, 1) := by decide +kernel
theorem dX6_find_42 : decode cX6_find 42 = .ok (.getfield 23, 3) := by decide +kernel
theorem dX6_find_45 : decode cX6_find 45 = .ok (.iload_n 1, 1) := by decide +kernel
theorem dX6_find_46 : decode cX6_find 46 = .ok (.iload 5, 2) := by decide +kernel
theorem dX6_find_48 : decode cX6_find 48 = .ok (.iload 4, 2) := by decide +kernel
theorem dX6_find_50 : decode cX6_find 50 = .ok (.invokevirtual 41, 3) := by decide +kernel
theorem dX6_find_53 : decode cX6_find 53 = .ok (.ifCond .eq 6, 3) := by decide +kernel
theorem dX6_find_56 : decode cX6_find 56 = .ok (.goto 77, 3) := by decide +kernel
theorem dX6_find_59 : decode cX6_find 59 = .ok (.aload_n 0, 1) := by decide +kernel
theorem dX6_find_60 : decode cX6_find 60 = .ok (.getfield 23, 3) := by decide +kernel
theorem dX6_find_63 : decode cX6_find 63 = .ok (.iload 5, 2) := by decide +kernel
theorem dX6_find_65 : decode cX6_find 65 = .ok (.iload 4, 2) := by decide +kernel
theorem dX6_find_67 : decode cX6_find 67 = .ok (.invokevirtual 47, 3) := by decide +kernel
theorem dX6_find_70 : decode cX6_find 70 = .ok (.istore 6, 2) := by decide +kernel
theorem dX6_find_72 : decode cX6_find 72 = .ok (.iload 6, 2) := by decide +kernel
theorem dX6_find_74 : decode cX6_find 74 = .ok (.iconst (-1), 1) := by decide +kernel
theorem dX6_find_75 : decode cX6_find 75 = .ok (.if_icmp .eq 10, 3) := by decide +kernel
theorem dX6_find_78 : decode cX6_find 78 = .ok (.iload 6, 2) := by decide +kernel
theorem dX6_find_80 : decode cX6_find 80 = .ok (.istore 5, 2) := by decide +kernel
theorem dX6_find_82 : decode cX6_find 82 = .ok (.goto 51, 3) := by decide +kernel
theorem dX6_find_85 : decode cX6_find 85 = .ok (.aload_n 0, 1) := by decide +kernel
theorem dX6_find_86 : decode cX6_find 86 = .ok (.iload_n 1, 1) := by decide +kernel
theorem dX6_find_87 : decode cX6_find 87 = .ok (.iload 5, 2) := by decide +kernel
theorem dX6_find_89 : decode cX6_find 89 = .ok (.iload 4, 2) := by decide +kernel
theorem dX6_find_91 : decode cX6_find 91 = .ok (.invokevirtual 50, 3) := by decide +kernel
theorem dX6_find_94 : decode cX6_find 94 = .ok (.istore 7, 2) := by decide +kernel
theorem dX6_find_96 : decode cX6_find 96 = .ok (.iload 7, 2) := by decide +kernel
theorem dX6_find_98 : decode cX6_find 98 = .ok (.iconst (-1), 1) := by decide +kernel
theorem dX6_find_99 : decode cX6_find 99 = .ok (.if_icmp .eq 34, 3) := by decide +kernel
theorem dX6_find_102 : decode cX6_find 102 = .ok (.aload_n 0, 1) := by decide +kernel
theorem dX6_find_103 : decode cX6_find 103 = .ok (.iload 7, 2) := by decide +kernel
theorem dX6_find_105 : decode cX6_find 105 = .ok (.putfield 53, 3) := by decide +kernel
theorem dX6_find_108 : decode cX6_find 108 = .ok (.aload_n 0, 1) := by decide +kernel
theorem dX6_find_109 : decode cX6_find 109 = .ok (.iload 5, 2) := by decide +kernel
theorem dX6_find_111 : decode cX6_find 111 = .ok (.putfield 57, 3) := by decide +kernel
theorem dX6_find_114 : decode cX6_find 114 = .ok (.aload_n 0, 1) := by decide +kernel
theorem dX6_find_115 : decode cX6_find 115 = .ok (.iload 4, 2) := by decide +kernel
theorem dX6_find_117 : decode cX6_find 117 = .ok (.putfield 60, 3) := by decide +kernel
theorem dX6_find_120 : decode cX6_find 120 = .ok (.aload_n 0, 1) := by decide +kernel
theorem dX6_find_121 : decode cX6_find 121 = .ok (.aload_n 0, 1) := by decide +kernel
theorem dX6_find_122 : decode cX6_find 122 = .ok (.getfield 23, 3) := by decide +kernel
theorem dX6_find_125 : decode cX6_find 125 = .ok (.getfield 63, 3) := by decide +kernel
theorem dX6_find_128 : decode cX6_find 128 = .ok (.putfield 66, 3) := by decide +kernel
theorem dX6_find_131 : decode cX6_find 131 = .ok (.iconst 1, 1) := by decide +kernel
theorem dX6_find_132 : decode cX6_find 132 = .ok (.ireturn, 1) := by decide +kernel
theorem dX6_find_133 : decode cX6_find 133 = .ok (.iinc 5 1, 3) := by decide +kernel
theorem dX6_find_136 : decode cX6_find 136 = .ok (.goto (-103), 3) := by decide +kernel
theorem dX6_find_139 : decode cX6_find 139 = .ok (.iinc 4 (-1), 3) := by decide +kernel
theorem dX6_find_142 : decode cX6_find 142 = .ok (.goto (-139), 3) := by decide +kernel
theorem dX6_find_145 : decode cX6_find 145 = .ok (.iconst 0, 1) := by decide +kernel
theorem dX6_find_146 : decode cX6_find 146 = .ok (.ireturn, 1) := by decide +kernel
theorem dX6_survey_0 : decode cX6_survey 0 = .ok (.aload_n 0, 1) := by decide +kernel
theorem dX6_survey_1 : decode cX6_survey 1 = .ok (.getfield 15, 3) := by decide +kernel
theorem dX6_survey_4 : decode cX6_survey 4 = .ok (.iload_n 1, 1) := by decide +kernel
theorem dX6_survey_5 : decode cX6_survey 5 = .ok (.iconst 0, 1) := by decide +kernel
theorem dX6_survey_6 : decode cX6_survey 6 = .ok (.invokevirtual 35, 3) := by decide +kernel
theorem dX6_survey_9 : decode cX6_survey 9 = .ok (.istore_n 3, 1) := by decide +kernel
theorem dX6_survey_10 : decode cX6_survey 10 = .ok (.iconst 0, 1) := by decide +kernel
theorem dX6_survey_11 : decode cX6_survey 11 = .ok (.istore 4, 2) := by decide +kernel
theorem dX6_survey_13 : decode cX6_survey 13 = .ok (.iconst 0, 1) := by decide +kernel
theorem dX6_survey_14 : decode cX6_survey 14 = .ok (.istore 5, 2) := by decide +kernel
theorem dX6_survey_16 : decode cX6_survey 16 = .ok (.iload 5, 2) := by decide +kernel
theorem dX6_survey_18 : decode cX6_survey 18 = .ok (.bipush 100, 2) := by decide +kernel
theorem dX6_survey_20 : decode cX6_survey 20 = .ok (.if_icmp .ge 103, 3) := by decide +kernel
theorem dX6_survey_23 : decode cX6_survey 23 = .ok (.iload 5, 2) := by decide +kernel
theorem dX6_survey_25 : decode cX6_survey 25 = .ok (.bipush 10, 2) := by decide +kernel
theorem dX6_survey_27 : decode cX6_survey 27 = .ok (.imul, 1) := by decide +kernel
theorem dX6_survey_28 : decode cX6_survey 28 = .ok (.istore 6, 2) := by decide +kernel
theorem dX6_survey_30 : decode cX6_survey 30 = .ok (.aload_n 0, 1) := by decide +kernel
theorem dX6_survey_31 : decode cX6_survey 31 = .ok (.getfield 23, 3) := by decide +kernel
theorem dX6_survey_34 : decode cX6_survey 34 = .ok (.iload_n 1, 1) := by decide +kernel
theorem dX6_survey_35 : decode cX6_survey 35 = .ok (.iload 6, 2) := by decide +kernel
theorem dX6_survey_37 : decode cX6_survey 37 = .ok (.invokevirtual 67, 3) := by decide +kernel
theorem dX6_survey_40 : decode cX6_survey 40 = .ok (.ifCond .eq 26, 3) := by decide +kernel
theorem dX6_survey_43 : decode cX6_survey 43 = .ok (.aload_n 0, 1) := by decide +kernel
theorem dX6_survey_44 : decode cX6_survey 44 = .ok (.getfield 27, 3) := by decide +kernel
theorem dX6_survey_47 : decode cX6_survey 47 = .ok (.iload 6, 2) := by decide +kernel
theorem dX6_survey_49 : decode cX6_survey 49 = .ok (.iload 6, 2) := by decide +kernel
theorem dX6_survey_51 : decode cX6_survey 51 = .ok (.iload_n 3, 1) := by decide +kernel
theorem dX6_survey_52 : decode cX6_survey 52 = .ok (.iadd, 1) := by decide +kernel
theorem dX6_survey_53 : decode cX6_survey 53 = .ok (.iconst 1, 1) := by decide +kernel
theorem dX6_survey_54 : decode cX6_survey 54 = .ok (.isub, 1) := by decide +kernel
theorem dX6_survey_55 : decode cX6_survey 55 = .ok (.invokevirtual 70, 3) := by decide +kernel
theorem dX6_survey_58 : decode cX6_survey 58 = .ok (.iload_n 2, 1) := by decide +kernel
theorem dX6_survey_59 : decode cX6_survey 59 = .ok (.if_icmp .lt 7, 3) := by decide +kernel
theorem dX6_survey_62 : decode cX6_survey 62 = .ok (.iconst 1, 1) := by decide +kernel
theorem dX6_survey_63 : decode cX6_survey 63 = .ok (.goto 4, 3) := by decide +kernel
theorem dX6_survey_66 : decode cX6_survey 66 = .ok (.iconst 0, 1) := by decide +kernel
theorem dX6_survey_67 : decode cX6_survey 67 = .ok (.istore 7, 2) := by decide +kernel
theorem dX6_survey_69 : decode cX6_survey 69 = .ok (.aload_n 0, 1) := by decide +kernel
theorem dX6_survey_70 : decode cX6_survey 70 = .ok (.getfield 9, 3) := by decide +kernel
theorem dX6_survey_73 : decode cX6_survey 73 = .ok (.iload 5, 2) := by decide +kernel
theorem dX6_survey_75 : decode cX6_survey 75 = .ok (.iload 7, 2) := by decide +kernel
theorem dX6_survey_77 : decode cX6_survey 77 = .ok (.ifCond .eq 21, 3) := by decide +kernel
theorem dX6_survey_80 : decode cX6_survey 80 = .ok (.aload_n 0, 1) := by decide +kernel
theorem dX6_survey_81 : decode cX6_survey 81 = .ok (.getfield 15, 3) := by decide +kernel
theorem dX6_survey_84 : decode cX6_survey 84 = .ok (.iload 6, 2) := by decide +kernel
theorem dX6_survey_86 : decode cX6_survey 86 = .ok (.iload 6, 2) := by decide +kernel
theorem dX6_survey_88 : decode cX6_survey 88 = .ok (.iload_n 3, 1) := by decide +kernel
theorem dX6_survey_89 : decode cX6_survey 89 = .ok (.iadd, 1) := by decide +kernel
theorem dX6_survey_90 : decode cX6_survey 90 = .ok (.iconst 1, 1) := by decide +kernel
theorem dX6_survey_91 : decode cX6_survey 91 = .ok (.isub, 1) := by decide +kernel
theorem dX6_survey_92 : decode cX6_survey 92 = .ok (.invokevirtual 75, 3) := by decide +kernel
theorem dX6_survey_95 : decode cX6_survey 95 = .ok (.goto 4, 3) := by decide +kernel
theorem dX6_survey_98 : decode cX6_survey 98 = .ok (.iconst (-1), 1) := by decide +kernel
theorem dX6_survey_99 : decode cX6_survey 99 = .ok (.iastore, 1) := by decide +kernel
theorem dX6_survey_100 : decode cX6_survey 100 = .ok (.iload 4, 2) := by decide +kernel
theorem dX6_survey_102 : decode cX6_survey 102 = .ok (.ifCond .ne 8, 3) := by decide +kernel
theorem dX6_survey_105 : decode cX6_survey 105 = .ok (.iload 7, 2) := by decide +kernel
theorem dX6_survey_107 : decode cX6_survey 107 = .ok (.ifCond .eq 7, 3) := by decide +kernel
theorem dX6_survey_110 : decode cX6_survey 110 = .ok (.iconst 1, 1) := by decide +kernel
theorem dX6_survey_111 : decode cX6_survey 111 = .ok (.goto 4, 3) := by decide +kernel
theorem dX6_survey_114 : decode cX6_survey 114 = .ok (.iconst 0, 1) := by decide +kernel
theorem dX6_survey_115 : decode cX6_survey 115 = .ok (.istore 4, 2) := by decide +kernel
theorem dX6_survey_117 : decode cX6_survey 117 = .ok (.iinc 5 1, 3) := by decide +kernel
theorem dX6_survey_120 : decode cX6_survey 120 = .ok (.goto (-104), 3) := by decide +kernel
theorem dX6_survey_123 : decode cX6_survey 123 = .ok (.iload 4, 2) := by decide +kernel
theorem dX6_survey_125 : decode cX6_survey 125 = .ok (.ireturn, 1) := by decide +kernel
theorem dX6_firstMetre_0 : decode cX6_firstMetre 0 = .ok (.aload_n 0, 1) := by decide +kernel
theorem dX6_firstMetre_1 : decode cX6_firstMetre 1 = .ok (.getfield 19, 3) := by decide +kernel
theorem dX6_firstMetre_4 : decode cX6_firstMetre 4 = .ok (.iload_n 2, 1) := by decide +kernel
theorem dX6_firstMetre_5 : decode cX6_firstMetre 5 = .ok (.aload_n 0, 1) := by decide +kernel
theorem dX6_firstMetre_6 : decode cX6_firstMetre 6 = .ok (.getfield 23, 3) := by decide +kernel
theorem dX6_firstMetre_9 : decode cX6_firstMetre 9 = .ok (.getfield 63, 3) := by decide +kernel
theorem dX6_firstMetre_12 : decode cX6_firstMetre 12 = .ok (.invokevirtual 78, 3) := by decide +kernel
theorem dX6_firstMetre_15 : decode cX6_firstMetre 15 = .ok (.istore 4, 2) := by decide +kernel
theorem dX6_firstMetre_17 : decode cX6_firstMetre 17 = .ok (.aload_n 0, 1) := by decide +kernel
theorem dX6_firstMetre_18 : decode cX6_firstMetre 18 = .ok (.getfield 15, 3) := by decide +kernel
theorem dX6_firstMetre_21 : decode cX6_firstMetre 21 = .ok (.iload_n 1, 1) := by decide +kernel
theorem dX6_firstMetre_22 : decode cX6_firstMetre 22 = .ok (.invokevirtual 83, 3) := by decide +kernel
theorem dX6_firstMetre_25 : decode cX6_firstMetre 25 = .ok (.istore 5, 2) := by decide +kernel
theorem dX6_firstMetre_27 : decode cX6_firstMetre 27 = .ok (.iconst 0, 1) := by decide +kernel
theorem dX6_firstMetre_28 : decode cX6_firstMetre 28 = .ok (.istore 6, 2) := by decide +kernel
theorem dX6_firstMetre_30 : decode cX6_firstMetre 30 = .ok (.iload 6, 2) := by decide +kernel
theorem dX6_firstMetre_32 : decode cX6_firstMetre 32 = .ok (.bipush 100, 2) := by decide +kernel
theorem dX6_firstMetre_34 : decode cX6_firstMetre 34 = .ok (.if_icmp .ge 102, 3) := by decide +kernel
theorem dX6_firstMetre_37 : decode cX6_firstMetre 37 = .ok (.aload_n 0, 1) := by decide +kernel
theorem dX6_firstMetre_38 : decode cX6_firstMetre 38 = .ok (.getfield 9, 3) := by decide +kernel
theorem dX6_firstMetre_41 : decode cX6_firstMetre 41 = .ok (.iload 6, 2) := by decide +kernel
theorem dX6_firstMetre_43 : decode cX6_firstMetre 43 = .ok (.iaload, 1) := by decide +kernel
theorem dX6_firstMetre_44 : decode cX6_firstMetre 44 = .ok (.iconst (-1), 1) := by decide +kernel
theorem dX6_firstMetre_45 : decode cX6_firstMetre 45 = .ok (.if_icmp .eq 85, 3) := by decide +kernel
theorem dX6_firstMetre_48 : decode cX6_firstMetre 48 = .ok (.aload_n 0, 1) := by decide +kernel
theorem dX6_firstMetre_49 : decode cX6_firstMetre 49 = .ok (.getfield 9, 3) := by decide +kernel
theorem dX6_firstMetre_52 : decode cX6_firstMetre 52 = .ok (.iload 6, 2) := by decide +kernel
theorem dX6_firstMetre_54 : decode cX6_firstMetre 54 = .ok (.iaload, 1) := by decide +kernel
theorem dX6_firstMetre_55 : decode cX6_firstMetre 55 = .ok (.iload 4, 2) := by decide +kernel
theorem dX6_firstMetre_57 : decode cX6_firstMetre 57 = .ok (.iadd, 1) := by decide +kernel
theorem dX6_firstMetre_58 : decode cX6_firstMetre 58 = .ok (.iload 5, 2) := by decide +kernel
theorem dX6_firstMetre_60 : decode cX6_firstMetre 60 = .ok (.if_icmp .ge 6, 3) := by decide +kernel
theorem dX6_firstMetre_63 : decode cX6_firstMetre 63 = .ok (.goto 67, 3) := by decide +kernel
theorem dX6_firstMetre_66 : decode cX6_firstMetre 66 = .ok (.iload 6, 2) := by decide +kernel
theorem dX6_firstMetre_68 : decode cX6_firstMetre 68 = .ok (.bipush 10, 2) := by decide +kernel
theorem dX6_firstMetre_70 : decode cX6_firstMetre 70 = .ok (.imul, 1) := by decide +kernel
theorem dX6_firstMetre_71 : decode cX6_firstMetre 71 = .ok (.istore 7, 2) := by decide +kernel
theorem dX6_firstMetre_73 : decode cX6_firstMetre 73 = .ok (.aload_n 0, 1) := by decide +kernel
theorem dX6_firstMetre_74 : decode cX6_firstMetre 74 = .ok (.getfield 23, 3) := by decide +kernel
theorem dX6_firstMetre_77 : decode cX6_firstMetre 77 = .ok (.iload_n 1, 1) := by decide +kernel
theorem dX6_firstMetre_78 : decode cX6_firstMetre 78 = .ok (.iload 7, 2) := by decide +kernel
theorem dX6_firstMetre_80 : decode cX6_firstMetre 80 = .ok (.iload_n 2, 1) := by decide +kernel
theorem dX6_firstMetre_81 : decode cX6_firstMetre 81 = .ok (.invokevirtual 87, 3) := by decide +kernel
theorem dX6_firstMetre_84 : decode cX6_firstMetre 84 = .ok (.istore 8, 2) := by decide +kernel
theorem dX6_firstMetre_86 : decode cX6_firstMetre 86 = .ok (.iload 8, 2) := by decide +kernel
theorem dX6_firstMetre_88 : decode cX6_firstMetre 88 = .ok (.iload 7, 2) := by decide +kernel
theorem dX6_firstMetre_90 : decode cX6_firstMetre 90 = .ok (.if_icmp .le 15, 3) := by decide +kernel
theorem dX6_firstMetre_93 : decode cX6_firstMetre 93 = .ok (.iload 8, 2) := by decide +kernel
theorem dX6_firstMetre_95 : decode cX6_firstMetre 95 = .ok (.iconst 1, 1) := by decide +kernel
theorem dX6_firstMetre_96 : decode cX6_firstMetre 96 = .ok (.isub, 1) := by decide +kernel
theorem dX6_firstMetre_97 : decode cX6_firstMetre 97 = .ok (.bipush 10, 2) := by decide +kernel
theorem dX6_firstMetre_99 : decode cX6_firstMetre 99 = .ok (.idiv, 1) := by decide +kernel
theorem dX6_firstMetre_100 : decode cX6_firstMetre 100 = .ok (.istore 6, 2) := by decide +kernel
theorem dX6_firstMetre_102 : decode cX6_firstMetre 102 = .ok (.goto 28, 3) := by decide +kernel
theorem dX6_firstMetre_105 : decode cX6_firstMetre 105 = .ok (.aload_n 0, 1) := by decide +kernel
theorem dX6_firstMetre_106 : decode cX6_firstMetre 106 = .ok (.getfield 27, 3) := by decide +kernel
theorem dX6_firstMetre_109 : decode cX6_firstMetre 109 = .ok (.iload_n 1, 1) := by decide +kernel
theorem dX6_firstMetre_110 : decode cX6_firstMetre 110 = .ok (.iload 7, 2) := by decide +kernel
theorem dX6_firstMetre_112 : decode cX6_firstMetre 112 = .ok (.iload_n 2, 1) := by decide +kernel
theorem dX6_firstMetre_113 : decode cX6_firstMetre 113 = .ok (.iload_n 3, 1) := by decide +kernel
theorem dX6_firstMetre_114 : decode cX6_firstMetre 114 = .ok (.aload_n 0, 1) := by decide +kernel
theorem dX6_firstMetre_115 : decode cX6_firstMetre 115 = .ok (.getfield 23, 3) := by decide +kernel
theorem dX6_firstMetre_118 : decode cX6_firstMetre 118 = .ok (.getfield 90, 3) := by decide +kernel
theorem dX6_firstMetre_121 : decode cX6_firstMetre 121 = .ok (.invokevirtual 93, 3) := by decide +kernel
theorem dX6_firstMetre_124 : decode cX6_firstMetre 124 = .ok (.ifCond .eq 6, 3) := by decide +kernel
theorem dX6_firstMetre_127 : decode cX6_firstMetre 127 = .ok (.iload 7, 2) := by decide +kernel
theorem dX6_firstMetre_129 : decode cX6_firstMetre 129 = .ok (.ireturn, 1) := by decide +kernel
theorem dX6_firstMetre_130 : decode cX6_firstMetre 130 = .ok (.iinc 6 1, 3) := by decide +kernel
theorem dX6_firstMetre_133 : decode cX6_firstMetre 133 = .ok (.goto (-103), 3) := by decide +kernel
theorem dX6_firstMetre_136 : decode cX6_firstMetre 136 = .ok (.iconst (-1), 1) := by decide +kernel
theorem dX6_firstMetre_137 : decode cX6_firstMetre 137 = .ok (.ireturn, 1) := by decide +kernel
theorem dX7_init_0 : decode cX7_init 0 = .ok (.aload_n 0, 1) := by decide +kernel
theorem dX7_init_1 : decode cX7_init 1 = .ok (.invokespecial 3, 3) := by decide +kernel
theorem dX7_init_4 : decode cX7_init 4 = .ok (.aload_n 0, 1) := by decide +kernel
theorem dX7_init_5 : decode cX7_init 5 = .ok (.bipush 14, 2) := by decide +kernel
theorem dX7_init_7 : decode cX7_init 7 = .ok (.newarray .int, 2) := by decide +kernel
theorem dX7_init_9 : decode cX7_init 9 = .ok (.putfield 9, 3) := by decide +kernel
theorem dX7_init_12 : decode cX7_init 12 = .ok (.aload_n 0, 1) := by decide +kernel
theorem dX7_init_13 : decode cX7_init 13 = .ok (.bipush 14, 2) := by decide +kernel
theorem dX7_init_15 : decode cX7_init 15 = .ok (.newarray .int, 2) := by decide +kernel
theorem dX7_init_17 : decode cX7_init 17 = .ok (.putfield 15, 3) := by decide +kernel
theorem dX7_init_20 : decode cX7_init 20 = .ok (.aload_n 0, 1) := by decide +kernel
theorem dX7_init_21 : decode cX7_init 21 = .ok (.bipush 14, 2) := by decide +kernel
theorem dX7_init_23 : decode cX7_init 23 = .ok (.newarray .int, 2) := by decide +kernel
theorem dX7_init_25 : decode cX7_init 25 = .ok (.putfield 18, 3) := by decide +kernel
theorem dX7_init_28 : decode cX7_init 28 = .ok (.aload_n 0, 1) := by decide +kernel
theorem dX7_init_29 : decode cX7_init 29 = .ok (.bipush 14, 2) := by decide +kernel
theorem dX7_init_31 : decode cX7_init 31 = .ok (.newarray .int, 2) := by decide +kernel
theorem dX7_init_33 : decode cX7_init 33 = .ok (.putfield 21, 3) := by decide +kernel
theorem dX7_init_36 : decode cX7_init 36 = .ok (.aload_n 0, 1) := by decide +kernel
theorem dX7_init_37 : decode cX7_init 37 = .ok (.bipush 14, 2) := by decide +kernel
theorem dX7_init_39 : decode cX7_init 39 = .ok (.newarray .int, 2) := by decide +kernel
theorem dX7_init_41 : decode cX7_init 41 = .ok (.putfield 24, 3) := by decide +kernel
theorem dX7_init_44 : decode cX7_init 44 = .ok (.aload_n 0, 1) := by decide +kernel
theorem dX7_init_45 : decode cX7_init 45 = .ok (.bipush 14, 2) := by decide +kernel
theorem dX7_init_47 : decode cX7_init 47 = .ok (.newarray .int, 2) := by decide +kernel
theorem dX7_init_49 : decode cX7_init 49 = .ok (.putfield 27, 3) := by decide +kernel
theorem dX7_init_52 : decode cX7_init 52 = .ok (.aload_n 0, 1) := by decide +kernel
theorem dX7_init_53 : decode cX7_init 53 = .ok (.sipush 336, 3) := by decide +kernel
theorem dX7_init_56 : decode cX7_init 56 = .ok (.newarray .int, 2) := by decide +kernel
theorem dX7_init_58 : decode cX7_init 58 = .ok (.putfield 30, 3) := by decide +kernel
theorem dX7_init_61 : decode cX7_init 61 = .ok (.aload_n 0, 1) := by decide +kernel
theorem dX7_init_62 : decode cX7_init 62 = .ok (.bipush 14, 2) := by decide +kernel
theorem dX7_init_64 : decode cX7_init 64 = .ok (.newarray .int, 2) := by decide +kernel
theorem dX7_init_66 : decode cX7_init 66 = .ok (.putfield 33, 3) := by decide +kernel
theorem dX7_init_69 : decode cX7_init 69 = .ok (.aload_n 0, 1) := by decide +kernel
theorem dX7_init_70 : decode cX7_init 70 = .ok (.aload_n 1, 1) := by decide +kernel
theorem dX7_init_71 : decode cX7_init 71 = .ok (.putfield 36, 3) := by decide +kernel
theorem dX7_init_74 : decode cX7_init 74 = .ok (.aload_n 0, 1) := by decide +kernel
theorem dX7_init_75 : decode cX7_init 75 = .ok (.aload_n 2, 1) := by decide +kernel
theorem dX7_init_76 : decode cX7_init 76 = .ok (.putfield 40, 3) := by decide +kernel
theorem dX7_init_79 : decode cX7_init 79 = .ok (.return_, 1) := by decide +kernel
theorem dX7_has_0 : decode cX7_has 0 = .ok (.aload_n 0, 1) := by decide +kernel
theorem dX7_has_1 : decode cX7_has 1 = .ok (.getfield 21, 3) := by decide +kernel
theorem dX7_has_4 : decode cX7_has 4 = .ok (.iload_n 1, 1) := by decide +kernel
theorem dX7_has_5 : decode cX7_has 5 = .ok (.iaload, 1) := by decide +kernel
theorem dX7_has_6 : decode cX7_has 6 = .ok (.ifCond .le 7, 3) := by decide +kernel
theorem dX7_has_9 : decode cX7_has 9 = .ok (.iconst 1, 1) := by decide +kernel
theorem dX7_has_10 : decode cX7_has 10 = .ok (.goto 4, 3) := by decide +kernel
theorem dX7_has_13 : decode cX7_has 13 = .ok (.iconst 0, 1) := by decide +kernel
theorem dX7_has_14 : decode cX7_has 14 = .ok (.ireturn, 1) := by decide +kernel
theorem dX7_howMany_0 : decode cX7_howMany 0 = .ok (.iconst 0, 1) := by decide +kernel
theorem dX7_howMany_1 : decode cX7_howMany 1 = .ok (.istore_n 1, 1) := by decide +kernel
theorem dX7_howMany_2 : decode cX7_howMany 2 = .ok (.iconst 0, 1) := by decide +kernel
theorem dX7_howMany_3 : decode cX7_howMany 3 = .ok (.istore_n 2, 1) := by decide +kernel
theorem dX7_howMany_4 : decode cX7_howMany 4 = .ok (.iload_n 2, 1) := by decide +kernel
theorem dX7_howMany_5 : decode cX7_howMany 5 = .ok (.aload_n 0, 1) := by decide +kernel
theorem dX7_howMany_6 : decode cX7_howMany 6 = .ok (.getfield 36, 3) := by decide +kernel
theorem dX7_howMany_9 : decode cX7_howMany 9 = .ok (.getfield 44, 3) := by decide +kernel
theorem dX7_howMany_12 : decode cX7_howMany 12 = .ok (.if_icmp .ge 25, 3) := by decide +kernel
theorem dX7_howMany_15 : decode cX7_howMany 15 = .ok (.iload_n 1, 1) := by decide +kernel
theorem dX7_howMany_16 : decode cX7_howMany 16 = .ok (.aload_n 0, 1) := by decide +kernel
theorem dX7_howMany_17 : decode cX7_howMany 17 = .ok (.iload_n 2, 1) := by decide +kernel
theorem dX7_howMany_18 : decode cX7_howMany 18 = .ok (.invokevirtual 50, 3) := by decide +kernel
theorem dX7_howMany_21 : decode cX7_howMany 21 = .ok (.ifCond .eq 7, 3) := by decide +kernel
theorem dX7_howMany_24 : decode cX7_howMany 24 = .ok (.iconst 1, 1) := by decide +kernel
theorem dX7_howMany_25 : decode cX7_howMany 25 = .ok (.goto 4, 3) := by decide +kernel
theorem dX7_howMany_28 : decode cX7_howMany 28 = .ok (.iconst 0, 1) := by decide +kernel
theorem dX7_howMany_29 : decode cX7_howMany 29 = .ok (.iadd, 1) := by decide +kernel
theorem dX7_howMany_30 : decode cX7_howMany 30 = .ok (.istore_n 1, 1) := by decide +kernel
theorem dX7_howMany_31 : decode cX7_howMany 31 = .ok (.iinc 2 1, 3) := by decide +kernel
theorem dX7_howMany_34 : decode cX7_howMany 34 = .ok (.goto (-30), 3) := by decide +kernel
theorem dX7_howMany_37 : decode cX7_howMany 37 = .ok (.iload_n 1, 1) := by decide +kernel
theorem dX7_howMany_38 : decode cX7_howMany 38 = .ok (.ireturn, 1) := by decide +kernel
theorem dX7_propose_0 : decode cX7_propose 0 = .ok (.aload_n 0, 1) := by decide +kernel
theorem dX7_propose_1 : decode cX7_propose 1 = .ok (.getfield 9, 3) := by decide +kernel
theorem dX7_propose_4 : decode cX7_propose 4 = .ok (.iload_n 1, 1) := by decide +kernel
theorem dX7_propose_5 : decode cX7_propose 5 = .ok (.iload_n 2, 1) := by decide +kernel
theorem dX7_propose_6 : decode cX7_propose 6 = .ok (.iastore, 1) := by decide +kernel
theorem dX7_propose_7 : decode cX7_propose 7 = .ok (.aload_n 0, 1) := by decide +kernel
theorem dX7_propose_8 : decode cX7_propose 8 = .ok (.getfield 15, 3) := by decide +kernel
theorem dX7_propose_11 : decode cX7_propose 11 = .ok (.iload_n 1, 1) := by decide +kernel
theorem dX7_propose_12 : decode cX7_propose 12 = .ok (.iload_n 2, 1) := by decide +kernel
theorem dX7_propose_13 : decode cX7_propose 13 = .ok (.aload_n 0, 1) := by decide +kernel
theorem dX7_propose_14 : decode cX7_propose 14 = .ok (.getfield 36, 3) := by decide +kernel
theorem dX7_propose_17 : decode cX7_propose 17 = .ok (.iload_n 1, 1) := by decide +kernel
theorem dX7_propose_18 : decode cX7_propose 18 = .ok (.iconst 0, 1) := by decide +kernel
theorem dX7_propose_19 : decode cX7_propose 19 = .ok (.invokevirtual 54, 3) := by decide +kernel
theorem dX7_propose_22 : decode cX7_propose 22 = .ok (.iadd, 1) := by decide +kernel
theorem dX7_propose_23 : decode cX7_propose 23 = .ok (.iconst 1, 1) := by decide +kernel
theorem dX7_propose_24 : decode cX7_propose 24 = .ok (.isub, 1) := by decide +kernel
theorem dX7_propose_25 : decode cX7_propose 25 = .ok (.iastore, 1) := by decide +kernel
theorem dX7_propose_26 : decode cX7_propose 26 = .ok (.aload_n 0, 1) := by decide +kernel
theorem dX7_propose_27 : decode cX7_propose 27 = .ok (.getfield 18, 3) := by decide +kernel
theorem dX7_propose_30 : decode cX7_propose 30 = .ok (.iload_n 1, 1) := by decide +kernel
theorem dX7_propose_31 : decode cX7_propose 31 = .ok (.iload_n 3, 1) := by decide +kernel
theorem dX7_propose_32 : decode cX7_propose 32 = .ok (.iastore, 1) := by decide +kernel
theorem dX7_propose_33 : decode cX7_propose 33 = .ok (.aload_n 0, 1) := by decide +kernel
theorem dX7_propose_34 : decode cX7_propose 34 = .ok (.getfield 21, 3) := by decide +kernel
theorem dX7_propose_37 : decode cX7_propose 37 = .ok (.iload_n 1, 1) := by decide +kernel
theorem dX7_propose_38 : decode cX7_propose 38 = .ok (.iload 4, 2) := by decide +kernel
theorem dX7_propose_40 : decode cX7_propose 40 = .ok (.iastore, 1) := by decide +kernel
theorem dX7_propose_41 : decode cX7_propose 41 = .ok (.aload_n 0, 1) := by decide +kernel
theorem dX7_propose_42 : decode cX7_propose 42 = .ok (.getfield 24, 3) := by decide +kernel
theorem dX7_propose_45 : decode cX7_propose 45 = .ok (.iload_n 1, 1) := by decide +kernel
theorem dX7_propose_46 : decode cX7_propose 46 = .ok (.iload 5, 2) := by decide +kernel
theorem dX7_propose_48 : decode cX7_propose 48 = .ok (.iastore, 1) := by decide +kernel
theorem dX7_propose_49 : decode cX7_propose 49 = .ok (.return_, 1) := by decide +kernel
theorem dX7_withdraw_0 : decode cX7_withdraw 0 = .ok (.aload_n 0, 1) := by decide +kernel
theorem dX7_withdraw_1 : decode cX7_withdraw 1 = .ok (.getfield 21, 3) := by decide +kernel
theorem dX7_withdraw_4 : decode cX7_withdraw 4 = .ok (.iload_n 1, 1) := by decide +kernel
theorem dX7_withdraw_5 : decode cX7_withdraw 5 = .ok (.iconst 0, 1) := by decide +kernel
theorem dX7_withdraw_6 : decode cX7_withdraw 6 = .ok (.iastore, 1) := by decide +kernel
theorem dX7_withdraw_7 : decode cX7_withdraw 7 = .ok (.return_, 1) := by decide +kernel
theorem dX7_lay_0 : decode cX7_lay 0 = .ok (.aload_n 0, 1) := by decide +kernel
theorem dX7_lay_1 : decode cX7_lay 1 = .ok (.iload_n 1, 1) := by decide +kernel
theorem dX7_lay_2 : decode cX7_lay 2 = .ok (.iload_n 2, 1) := by decide +kernel
theorem dX7_lay_3 : decode cX7_lay 3 = .ok (.iload_n 3, 1) := by decide +kernel
theorem dX7_lay_4 : decode cX7_lay 4 = .ok (.iload 4, 2) := by decide +kernel
theorem dX7_lay_6 : decode cX7_lay 6 = .ok (.aload_n 0, 1) := by decide +kernel
theorem dX7_lay_7 : decode cX7_lay 7 = .ok (.getfield 36, 3) := by decide +kernel
theorem dX7_lay_10 : decode cX7_lay 10 = .ok (.iload_n 1, 1) := by decide +kernel
theorem dX7_lay_11 : decode cX7_lay 11 = .ok (.iload 4, 2) := by decide +kernel
theorem dX7_lay_13 : decode cX7_lay 13 = .ok (.invokevirtual 58, 3) := by decide +kernel
theorem dX7_lay_16 : decode cX7_lay 16 = .ok (.invokevirtual 61, 3) := by decide +kernel
theorem dX7_lay_19 : decode cX7_lay 19 = .ok (.aload_n 0, 1) := by decide +kernel
theorem dX7_lay_20 : decode cX7_lay 20 = .ok (.getfield 27, 3) := by decide +kernel
theorem dX7_lay_23 : decode cX7_lay 23 = .ok (.iload_n 1, 1) := by decide +kernel
theorem dX7_lay_24 : decode cX7_lay 24 = .ok (.aload_n 0, 1) := by decide +kernel
theorem dX7_lay_25 : decode cX7_lay 25 = .ok (.getfield 40, 3) := by decide +kernel
theorem dX7_lay_28 : decode cX7_lay 28 = .ok (.aload_n 0, 1) := by decide +kernel
theorem dX7_lay_29 : decode cX7_lay 29 = .ok (.getfield 36, 3) := by decide +kernel
theorem dX7_lay_32 : decode cX7_lay 32 = .ok (.iload_n 1, 1) := by decide +kernel
theorem dX7_lay_33 : decode cX7_lay 33 = .ok (.iconst 2, 1) := by decide +kernel
theorem dX7_lay_34 : decode cX7_lay 34 = .ok (.invokevirtual 54, 3) := by decide +kernel
theorem dX7_lay_37 : decode cX7_lay 37 = .ok (.iload_n 3, 1) := by decide +kernel
theorem dX7_lay_38 : decode cX7_lay 38 = .ok (.aload_n 0, 1) := by decide +kernel
theorem dX7_lay_39 : decode cX7_lay 39 = .ok (.getfield 24, 3) := by decide +kernel
theorem dX7_lay_42 : decode cX7_lay 42 = .ok (.iload_n 1, 1) := by decide +kernel
theorem dX7_lay_43 : decode cX7_lay 43 = .ok (.iaload, 1) := by decide +kernel
theorem dX7_lay_44 : decode cX7_lay 44 = .ok (.iadd, 1) := by decide +kernel
theorem dX7_lay_45 : decode cX7_lay 45 = .ok (.invokevirtual 65, 3) := by decide +kernel
theorem dX7_lay_48 : decode cX7_lay 48 = .ok (.iastore, 1) := by decide +kernel
theorem dX7_lay_49 : decode cX7_lay 49 = .ok (.aload_n 0, 1) := by decide +kernel
theorem dX7_lay_50 : decode cX7_lay 50 = .ok (.iload_n 1, 1) := by decide +kernel
theorem dX7_lay_51 : decode cX7_lay 51 = .ok (.iload 4, 2) := by decide +kernel
theorem dX7_lay_53 : decode cX7_lay 53 = .ok (.invokevirtual 70, 3) := by decide +kernel
theorem dX7_lay_56 : decode cX7_lay 56 = .ok (.return_, 1) := by decide +kernel
theorem dX7_lift_0 : decode cX7_lift 0 = .ok (.aload_n 0, 1) := by decide +kernel
theorem dX7_lift_1 : decode cX7_lift 1 = .ok (.iload_n 1, 1) := by decide +kernel
theorem dX7_lift_2 : decode cX7_lift 2 = .ok (.aload_n 0, 1) := by decide +kernel
theorem dX7_lift_3 : decode cX7_lift 3 = .ok (.getfield 21, 3) := by decide +kernel
theorem dX7_lift_6 : decode cX7_lift 6 = .ok (.iload_n 1, 1) := by decide +kernel
theorem dX7_lift_7 : decode cX7_lift 7 = .ok (.iaload, 1) := by decide +kernel
theorem dX7_lift_8 : decode cX7_lift 8 = .ok (.ineg, 1) := by decide +kernel
theorem dX7_lift_9 : decode cX7_lift 9 = .ok (.invokevirtual 70, 3) := by decide +kernel
theorem dX7_lift_12 : decode cX7_lift 12 = .ok (.aload_n 0, 1) := by decide +kernel
theorem dX7_lift_13 : decode cX7_lift 13 = .ok (.getfield 21, 3) := by decide +kernel
theorem dX7_lift_16 : decode cX7_lift 16 = .ok (.iload_n 1, 1) := by decide +kernel
theorem dX7_lift_17 : decode cX7_lift 17 = .ok (.iconst 0, 1) := by decide +kernel
theorem dX7_lift_18 : decode cX7_lift 18 = .ok (.iastore, 1) := by decide +kernel
theorem dX7_lift_19 : decode cX7_lift 19 = .ok (.return_, 1) := by decide +kernel
theorem dX7_addBusy_0 : decode cX7_addBusy 0 = .ok (.sipush 336, 3) := by decide +kernel
theorem dX7_addBusy_3 : decode cX7_addBusy 3 = .ok (.aload_n 0, 1) := by decide +kernel
theorem dX7_addBusy_4 : decode cX7_addBusy 4 = .ok (.getfield 18, 3) := by decide +kernel
theorem dX7_addBusy_7 : decode cX7_addBusy 7 = .ok (.iload_n 1, 1) := by decide +kernel
theorem dX7_addBusy_8 : decode cX7_addBusy 8 = .ok (.iaload, 1) := by decide +kernel
theorem dX7_addBusy_9 : decode cX7_addBusy 9 = .ok (.aload_n 0, 1) := by decide +kernel
theorem dX7_addBusy_10 : decode cX7_addBusy 10 = .ok (.getfield 24, 3) := by decide +kernel
theorem dX7_addBusy_13 : decode cX7_addBusy 13 = .ok (.iload_n 1, 1) := by decide +kernel
theorem dX7_addBusy_14 : decode cX7_addBusy 14 = .ok (.iaload, 1) := by decide +kernel
theorem dX7_addBusy_15 : decode cX7_addBusy 15 = .ok (.iadd, 1) := by decide +kernel
theorem dX7_addBusy_16 : decode cX7_addBusy 16 = .ok (.invokestatic 74, 3) := by decide +kernel
theorem dX7_addBusy_19 : decode cX7_addBusy 19 = .ok (.istore_n 3, 1) := by decide +kernel
theorem dX7_addBusy_20 : decode cX7_addBusy 20 = .ok (.aload_n 0, 1) := by decide +kernel
theorem dX7_addBusy_21 : decode cX7_addBusy 21 = .ok (.getfield 18, 3) := by decide +kernel
theorem dX7_addBusy_24 : decode cX7_addBusy 24 = .ok (.iload_n 1, 1) := by decide +kernel
theorem dX7_addBusy_25 : decode cX7_addBusy 25 = .ok (.iaload, 1) := by decide +kernel
theorem dX7_addBusy_26 : decode cX7_addBusy 26 = .ok (.istore 4, 2) := by decide +kernel
theorem dX7_addBusy_28 : decode cX7_addBusy 28 = .ok (.iload 4, 2) := by decide +kernel
theorem dX7_addBusy_30 : decode cX7_addBusy 30 = .ok (.iload_n 3, 1) := by decide +kernel
theorem dX7_addBusy_31 : decode cX7_addBusy 31 = .ok (.if_icmp .ge 20, 3) := by decide +kernel
theorem dX7_addBusy_34 : decode cX7_addBusy 34 = .ok (.aload_n 0, 1) := by decide +kernel
theorem dX7_addBusy_35 : decode cX7_addBusy 35 = .ok (.getfield 30, 3) := by decide +kernel
theorem dX7_addBusy_38 : decode cX7_addBusy 38 = .ok (.iload 4, 2) := by decide +kernel
theorem dX7_addBusy_40 : decode cX7_addBusy 40 = .ok (.dup2, 1) := by decide +kernel
theorem dX7_addBusy_41 : decode cX7_addBusy 41 = .ok (.iaload, 1) := by decide +kernel
theorem dX7_addBusy_42 : decode cX7_addBusy 42 = .ok (.iload_n 2, 1) := by decide +kernel
theorem dX7_addBusy_43 : decode cX7_addBusy 43 = .ok (.iadd, 1) := by decide +kernel
theorem dX7_addBusy_44 : decode cX7_addBusy 44 = .ok (.iastore, 1) := by decide +kernel
theorem dX7_addBusy_45 : decode cX7_addBusy 45 = .ok (.iinc 4 1, 3) := by decide +kernel
theorem dX7_addBusy_48 : decode cX7_addBusy 48 = .ok (.goto (-20), 3) := by decide +kernel
theorem dX7_addBusy_51 : decode cX7_addBusy 51 = .ok (.return_, 1) := by decide +kernel
theorem dX7_takeUp_0 : decode cX7_takeUp 0 = .ok (.aload_n 0, 1) := by decide +kernel
theorem dX7_takeUp_1 : decode cX7_takeUp 1 = .ok (.aload_n 0, 1) := by decide +kernel
theorem dX7_takeUp_2 : decode cX7_takeUp 2 = .ok (.getfield 9, 3) := by decide +kernel
theorem dX7_takeUp_5 : decode cX7_takeUp 5 = .ok (.iload_n 1, 1) := by decide +kernel
theorem dX7_takeUp_6 : decode cX7_takeUp 6 = .ok (.iaload, 1) := by decide +kernel
theorem dX7_takeUp_7 : decode cX7_takeUp 7 = .ok (.putfield 79, 3) := by decide +kernel
theorem dX7_takeUp_10 : decode cX7_takeUp 10 = .ok (.aload_n 0, 1) := by decide +kernel
theorem dX7_takeUp_11 : decode cX7_takeUp 11 = .ok (.aload_n 0, 1) := by decide +kernel
theorem dX7_takeUp_12 : decode cX7_takeUp 12 = .ok (.getfield 18, 3) := by decide +kernel
theorem dX7_takeUp_15 : decode cX7_takeUp 15 = .ok (.iload_n 1, 1) := by decide +kernel
theorem dX7_takeUp_16 : decode cX7_takeUp 16 = .ok (.iaload, 1) := by decide +kernel
theorem dX7_takeUp_17 : decode cX7_takeUp 17 = .ok (.putfield 82, 3) := by decide +kernel
theorem dX7_takeUp_20 : decode cX7_takeUp 20 = .ok (.aload_n 0, 1) := by decide +kernel
theorem dX7_takeUp_21 : decode cX7_takeUp 21 = .ok (.aload_n 0, 1) := by decide +kernel
theorem dX7_takeUp_22 : decode cX7_takeUp 22 = .ok (.getfield 21, 3) := by decide +kernel
theorem dX7_takeUp_25 : decode cX7_takeUp 25 = .ok (.iload_n 1, 1) := by decide +kernel
theorem dX7_takeUp_26 : decode cX7_takeUp 26 = .ok (.iaload, 1) := by decide +kernel
theorem dX7_takeUp_27 : decode cX7_takeUp 27 = .ok (.putfield 85, 3) := by decide +kernel
theorem dX7_takeUp_30 : decode cX7_takeUp 30 = .ok (.aload_n 0, 1) := by decide +kernel
theorem dX7_takeUp_31 : decode cX7_takeUp 31 = .ok (.getfield 85, 3) := by decide +kernel
theorem dX7_takeUp_34 : decode cX7_takeUp 34 = .ok (.ifCond .le 8, 3) := by decide +kernel
theorem dX7_takeUp_37 : decode cX7_takeUp 37 = .ok (.aload_n 0, 1) := by decide +kernel
theorem dX7_takeUp_38 : decode cX7_takeUp 38 = .ok (.iload_n 1, 1) := by decide +kernel
theorem dX7_takeUp_39 : decode cX7_takeUp 39 = .ok (.invokevirtual 88, 3) := by decide +kernel
theorem dX7_takeUp_42 : decode cX7_takeUp 42 = .ok (.return_, 1) := by decide +kernel
theorem dX7_layBack_0 : decode cX7_layBack 0 = .ok (.aload_n 0, 1) := by decide +kernel
theorem dX7_layBack_1 : decode cX7_layBack 1 = .ok (.getfield 85, 3) := by decide +kernel
theorem dX7_layBack_4 : decode cX7_layBack 4 = .ok (.ifCond .le 20, 3) := by decide +kernel
theorem dX7_layBack_7 : decode cX7_layBack 7 = .ok (.aload_n 0, 1) := by decide +kernel
theorem dX7_layBack_8 : decode cX7_layBack 8 = .ok (.iload_n 1, 1) := by decide +kernel
theorem dX7_layBack_9 : decode cX7_layBack 9 = .ok (.aload_n 0, 1) := by decide +kernel
theorem dX7_layBack_10 : decode cX7_layBack 10 = .ok (.getfield 79, 3) := by decide +kernel
theorem dX7_layBack_13 : decode cX7_layBack 13 = .ok (.aload_n 0, 1) := by decide +kernel
theorem dX7_layBack_14 : decode cX7_layBack 14 = .ok (.getfield 82, 3) := by decide +kernel
theorem dX7_layBack_17 : decode cX7_layBack 17 = .ok (.aload_n 0, 1) := by decide +kernel
theorem dX7_layBack_18 : decode cX7_layBack 18 = .ok (.getfield 85, 3) := by decide +kernel
theorem dX7_layBack_21 : decode cX7_layBack 21 = .ok (.invokevirtual 92, 3) := by decide +kernel
theorem dX7_layBack_24 : decode cX7_layBack 24 = .ok (.return_, 1) := by decide +kernel
theorem dX7_clear_0 : decode cX7_clear 0 = .ok (.aload_n 0, 1) := by decide +kernel
theorem dX7_clear_1 : decode cX7_clear 1 = .ok (.getfield 21, 3) := by decide +kernel
theorem dX7_clear_4 : decode cX7_clear 4 = .ok (.iconst 0, 1) := by decide +kernel
theorem dX7_clear_5 : decode cX7_clear 5 = .ok (.invokestatic 96, 3) := by decide +kernel
theorem dX7_clear_8 : decode cX7_clear 8 = .ok (.aload_n 0, 1) := by decide +kernel
theorem dX7_clear_9 : decode cX7_clear 9 = .ok (.getfield 30, 3) := by decide +kernel
theorem dX7_clear_12 : decode cX7_clear 12 = .ok (.iconst 0, 1) := by decide +kernel
theorem dX7_clear_13 : decode cX7_clear 13 = .ok (.invokestatic 96, 3) := by decide +kernel
theorem dX7_clear_16 : decode cX7_clear 16 = .ok (.return_, 1) := by decide +kernel
theorem dX7_save_0 : decode cX7_save 0 = .ok (.iconst 0, 1) := by decide +kernel
theorem dX7_save_1 : decode cX7_save 1 = .ok (.istore_n 2, 1) := by decide +kernel
theorem dX7_save_2 : decode cX7_save 2 = .ok (.iload_n 2, 1) := by decide +kernel
theorem dX7_save_3 : decode cX7_save 3 = .ok (.bipush 14, 2) := by decide +kernel
theorem dX7_save_5 : decode cX7_save 5 = .ok (.if_icmp .ge 46, 3) := by decide +kernel
theorem dX7_save_8 : decode cX7_save 8 = .ok (.aload_n 1, 1) := by decide +kernel
theorem dX7_save_9 : decode cX7_save 9 = .ok (.iload_n 2, 1) := by decide +kernel
theorem dX7_save_10 : decode cX7_save 10 = .ok (.iconst 3, 1) := by decide +kernel
theorem dX7_save_11 : decode cX7_save 11 = .ok (.imul, 1) := by decide +kernel
theorem dX7_save_12 : decode cX7_save 12 = .ok (.aload_n 0, 1) := by decide +kernel
theorem dX7_save_13 : decode cX7_save 13 = .ok (.getfield 9, 3) := by decide +kernel
theorem dX7_save_16 : decode cX7_save 16 = .ok (.iload_n 2, 1) := by decide +kernel
theorem dX7_save_17 : decode cX7_save 17 = .ok (.iaload, 1) := by decide +kernel
theorem dX7_save_18 : decode cX7_save 18 = .ok (.iastore, 1) := by decide +kernel
theorem dX7_save_19 : decode cX7_save 19 = .ok (.aload_n 1, 1) := by decide +kernel
theorem dX7_save_20 : decode cX7_save 20 = .ok (.iload_n 2, 1) := by decide +kernel
theorem dX7_save_21 : decode cX7_save 21 = .ok (.iconst 3, 1) := by decide +kernel
theorem dX7_save_22 : decode cX7_save 22 = .ok (.imul, 1) := by decide +kernel
theorem dX7_save_23 : decode cX7_save 23 = .ok (.iconst 1, 1) := by decide +kernel
theorem dX7_save_24 : decode cX7_save 24 = .ok (.iadd, 1) := by decide +kernel
theorem dX7_save_25 : decode cX7_save 25 = .ok (.aload_n 0, 1) := by decide +kernel
theorem dX7_save_26 : decode cX7_save 26 = .ok (.getfield 18, 3) := by decide +kernel
theorem dX7_save_29 : decode cX7_save 29 = .ok (.iload_n 2, 1) := by decide +kernel
theorem dX7_save_30 : decode cX7_save 30 = .ok (.iaload, 1) := by decide +kernel
theorem dX7_save_31 : decode cX7_save 31 = .ok (.iastore, 1) := by decide +kernel
theorem dX7_save_32 : decode cX7_save 32 = .ok (.aload_n 1, 1) := by decide +kernel
theorem dX7_save_33 : decode cX7_save 33 = .ok (.iload_n 2, 1) := by decide +kernel
theorem dX7_save_34 : decode cX7_save 34 = .ok (.iconst 3, 1) := by decide +kernel
theorem dX7_save_35 : decode cX7_save 35 = .ok (.imul, 1) := by decide +kernel
theorem dX7_save_36 : decode cX7_save 36 = .ok (.iconst 2, 1) := by decide +kernel
theorem dX7_save_37 : decode cX7_save 37 = .ok (.iadd, 1) := by decide +kernel
theorem dX7_save_38 : decode cX7_save 38 = .ok (.aload_n 0, 1) := by decide +kernel
theorem dX7_save_39 : decode cX7_save 39 = .ok (.getfield 21, 3) := by decide +kernel
theorem dX7_save_42 : decode cX7_save 42 = .ok (.iload_n 2, 1) := by decide +kernel
theorem dX7_save_43 : decode cX7_save 43 = .ok (.iaload, 1) := by decide +kernel
theorem dX7_save_44 : decode cX7_save 44 = .ok (.iastore, 1) := by decide +kernel
theorem dX7_save_45 : decode cX7_save 45 = .ok (.iinc 2 1, 3) := by decide +kernel
theorem dX7_save_48 : decode cX7_save 48 = .ok (.goto (-46), 3) := by decide +kernel
theorem dX7_save_51 : decode cX7_save 51 = .ok (.return_, 1) := by decide +kernel
theorem dX7_load_0 : decode cX7_load 0 = .ok (.aload_n 0, 1) := by decide +kernel
theorem dX7_load_1 : decode cX7_load 1 = .ok (.invokevirtual 102, 3) := by decide +kernel
theorem dX7_load_4 : decode cX7_load 4 = .ok (.iconst 0, 1) := by decide +kernel
theorem dX7_load_5 : decode cX7_load 5 = .ok (.istore_n 2, 1) := by decide +kernel
theorem dX7_load_6 : decode cX7_load 6 = .ok (.iload_n 2, 1) := by decide +kernel
theorem dX7_load_7 : decode cX7_load 7 = .ok (.aload_n 0, 1) := by decide +kernel
theorem dX7_load_8 : decode cX7_load 8 = .ok (.getfield 36, 3) := by decide +kernel
theorem dX7_load_11 : decode cX7_load 11 = .ok (.getfield 44, 3) := by decide +kernel
theorem dX7_load_14 : decode cX7_load 14 = .ok (.if_icmp .ge 43, 3) := by decide +kernel
theorem dX7_load_17 : decode cX7_load 17 = .ok (.aload_n 1, 1) := by decide +kernel
theorem dX7_load_18 : decode cX7_load 18 = .ok (.iload_n 2, 1) := by decide +kernel
theorem dX7_load_19 : decode cX7_load 19 = .ok (.iconst 3, 1) := by decide +kernel
theorem dX7_load_20 : decode cX7_load 20 = .ok (.imul, 1) := by decide +kernel
theorem dX7_load_21 : decode cX7_load 21 = .ok (.iconst 2, 1) := by decide +kernel
theorem dX7_load_22 : decode cX7_load 22 = .ok (.iadd, 1) := by decide +kernel
theorem dX7_load_23 : decode cX7_load 23 = .ok (.iaload, 1) := by decide +kernel
theorem dX7_load_24 : decode cX7_load 24 = .ok (.ifCond .le 27, 3) := by decide +kernel
theorem dX7_load_27 : decode cX7_load 27 = .ok (.aload_n 0, 1) := by decide +kernel
theorem dX7_load_28 : decode cX7_load 28 = .ok (.iload_n 2, 1) := by decide +kernel
theorem dX7_load_29 : decode cX7_load 29 = .ok (.aload_n 1, 1) := by decide +kernel
theorem dX7_load_30 : decode cX7_load 30 = .ok (.iload_n 2, 1) := by decide +kernel
theorem dX7_load_31 : decode cX7_load 31 = .ok (.iconst 3, 1) := by decide +kernel
theorem dX7_load_32 : decode cX7_load 32 = .ok (.imul, 1) := by decide +kernel
theorem dX7_load_33 : decode cX7_load 33 = .ok (.iaload, 1) := by decide +kernel
theorem dX7_load_34 : decode cX7_load 34 = .ok (.aload_n 1, 1) := by decide +kernel
theorem dX7_load_35 : decode cX7_load 35 = .ok (.iload_n 2, 1) := by decide +kernel
theorem dX7_load_36 : decode cX7_load 36 = .ok (.iconst 3, 1) := by decide +kernel
theorem dX7_load_37 : decode cX7_load 37 = .ok (.imul, 1) := by decide +kernel
theorem dX7_load_38 : decode cX7_load 38 = .ok (.iconst 1, 1) := by decide +kernel
theorem dX7_load_39 : decode cX7_load 39 = .ok (.iadd, 1) := by decide +kernel
theorem dX7_load_40 : decode cX7_load 40 = .ok (.iaload, 1) := by decide +kernel
theorem dX7_load_41 : decode cX7_load 41 = .ok (.aload_n 1, 1) := by decide +kernel
theorem dX7_load_42 : decode cX7_load 42 = .ok (.iload_n 2, 1) := by decide +kernel
theorem dX7_load_43 : decode cX7_load 43 = .ok (.iconst 3, 1) := by decide +kernel
theorem dX7_load_44 : decode cX7_load 44 = .ok (.imul, 1) := by decide +kernel
theorem dX7_load_45 : decode cX7_load 45 = .ok (.iconst 2, 1) := by decide +kernel
theorem dX7_load_46 : decode cX7_load 46 = .ok (.iadd, 1) := by decide +kernel
theorem dX7_load_47 : decode cX7_load 47 = .ok (.iaload, 1) := by decide +kernel
theorem dX7_load_48 : decode cX7_load 48 = .ok (.invokevirtual 92, 3) := by decide +kernel
theorem dX7_load_51 : decode cX7_load 51 = .ok (.iinc 2 1, 3) := by decide +kernel
theorem dX7_load_54 : decode cX7_load 54 = .ok (.goto (-48), 3) := by decide +kernel
theorem dX7_load_57 : decode cX7_load 57 = .ok (.return_, 1) := by decide +kernel
theorem dX7_isAsSaved_0 : decode cX7_isAsSaved 0 = .ok (.aload_n 0, 1) := by decide +kernel
theorem dX7_isAsSaved_1 : decode cX7_isAsSaved 1 = .ok (.getfield 21, 3) := by decide +kernel
theorem dX7_isAsSaved_4 : decode cX7_isAsSaved 4 = .ok (.iload_n 1, 1) := by decide +kernel
theorem dX7_isAsSaved_5 : decode cX7_isAsSaved 5 = .ok (.iaload, 1) := by decide +kernel
theorem dX7_isAsSaved_6 : decode cX7_isAsSaved 6 = .ok (.aload_n 2, 1) := by decide +kernel
theorem dX7_isAsSaved_7 : decode cX7_isAsSaved 7 = .ok (.iload_n 1, 1) := by decide +kernel
theorem dX7_isAsSaved_8 : decode cX7_isAsSaved 8 = .ok (.iconst 3, 1) := by decide +kernel
theorem dX7_isAsSaved_9 : decode cX7_isAsSaved 9 = .ok (.imul, 1) := by decide +kernel
theorem dX7_isAsSaved_10 : decode cX7_isAsSaved 10 = .ok (.iconst 2, 1) := by decide +kernel
theorem dX7_isAsSaved_11 : decode cX7_isAsSaved 11 = .ok (.iadd, 1) := by decide +kernel
theorem dX7_isAsSaved_12 : decode cX7_isAsSaved 12 = .ok (.iaload, 1) := by decide +kernel
theorem dX7_isAsSaved_13 : decode cX7_isAsSaved 13 = .ok (.if_icmp .eq 5, 3) := by decide +kernel
theorem dX7_isAsSaved_16 : decode cX7_isAsSaved 16 = .ok (.iconst 0, 1) := by decide +kernel
theorem dX7_isAsSaved_17 : decode cX7_isAsSaved 17 = .ok (.ireturn, 1) := by decide +kernel
theorem dX7_isAsSaved_18 : decode cX7_isAsSaved 18 = .ok (.aload_n 0, 1) := by decide +kernel
theorem dX7_isAsSaved_19 : decode cX7_isAsSaved 19 = .ok (.iload_n 1, 1) := by decide +kernel
theorem dX7_isAsSaved_20 : decode cX7_isAsSaved 20 = .ok (.invokevirtual 50, 3) := by decide +kernel
theorem dX7_isAsSaved_23 : decode cX7_isAsSaved 23 = .ok (.ifCond .eq 33, 3) := by decide +kernel
theorem dX7_isAsSaved_26 : decode cX7_isAsSaved 26 = .ok (.aload_n 0, 1) := by decide +kernel
theorem dX7_isAsSaved_27 : decode cX7_isAsSaved 27 = .ok (.getfield 9, 3) := by decide +kernel
theorem dX7_isAsSaved_30 : decode cX7_isAsSaved 30 = .ok (.iload_n 1, 1) := by decide +kernel
theorem dX7_isAsSaved_31 : decode cX7_isAsSaved 31 = .ok (.iaload, 1) := by decide +kernel
theorem dX7_isAsSaved_32 : decode cX7_isAsSaved 32 = .ok (.aload_n 2, 1) := by decide +kernel
theorem dX7_isAsSaved_33 : decode cX7_isAsSaved 33 = .ok (.iload_n 1, 1) := by decide +kernel
theorem dX7_isAsSaved_34 : decode cX7_isAsSaved 34 = .ok (.iconst 3, 1) := by decide +kernel
theorem dX7_isAsSaved_35 : decode cX7_isAsSaved 35 = .ok (.imul, 1) := by decide +kernel
theorem dX7_isAsSaved_36 : decode cX7_isAsSaved 36 = .ok (.iaload, 1) := by decide +kernel
theorem dX7_isAsSaved_37 : decode cX7_isAsSaved 37 = .ok (.if_icmp .ne 23, 3) := by decide +kernel
theorem dX7_isAsSaved_40 : decode cX7_isAsSaved 40 = .ok (.aload_n 0, 1) := by decide +kernel
theorem dX7_isAsSaved_41 : decode cX7_isAsSaved 41 = .ok (.getfield 18, 3) := by decide +kernel
theorem dX7_isAsSaved_44 : decode cX7_isAsSaved 44 = .ok (.iload_n 1, 1) := by decide +kernel
theorem dX7_isAsSaved_45 : decode cX7_isAsSaved 45 = .ok (.iaload, 1) := by decide +kernel
theorem dX7_isAsSaved_46 : decode cX7_isAsSaved 46 = .ok (.aload_n 2, 1) := by decide +kernel
theorem dX7_isAsSaved_47 : decode cX7_isAsSaved 47 = .ok (.iload_n 1, 1) := by decide +kernel
theorem dX7_isAsSaved_48 : decode cX7_isAsSaved 48 = .ok (.iconst 3, 1) := by decide +kernel
theorem dX7_isAsSaved_49 : decode cX7_isAsSaved 49 = .ok (.imul, 1) := by decide +kernel
theorem dX7_isAsSaved_50 : decode cX7_isAsSaved 50 = .ok (.iconst 1, 1) := by decide +kernel
theorem dX7_isAsSaved_51 : decode cX7_isAsSaved 51 = .ok (.iadd, 1) := by decide +kernel
theorem dX7_isAsSaved_52 : decode cX7_isAsSaved 52 = .ok (.iaload, 1) := by decide +kernel
theorem dX7_isAsSaved_53 : decode cX7_isAsSaved 53 = .ok (.if_icmp .ne 7, 3) := by decide +kernel
theorem dX7_isAsSaved_56 : decode cX7_isAsSaved 56 = .ok (.iconst 1, 1) := by decide +kernel
theorem dX7_isAsSaved_57 : decode cX7_isAsSaved 57 = .ok (.goto 4, 3) := by decide +kernel
theorem dX7_isAsSaved_60 : decode cX7_isAsSaved 60 = .ok (.iconst 0, 1) := by decide +kernel
theorem dX7_isAsSaved_61 : decode cX7_isAsSaved 61 = .ok (.ireturn, 1) := by decide +kernel
theorem dX7_lineUp_0 : decode cX7_lineUp 0 = .ok (.aload_n 0, 1) := by decide +kernel
theorem dX7_lineUp_1 : decode cX7_lineUp 1 = .ok (.iconst 0, 1) := by decide +kernel
theorem dX7_lineUp_2 : decode cX7_lineUp 2 = .ok (.putfield 105, 3) := by decide +kernel
theorem dX7_lineUp_5 : decode cX7_lineUp 5 = .ok (.iconst 0, 1) := by decide +kernel
theorem dX7_lineUp_6 : decode cX7_lineUp 6 = .ok (.istore_n 1, 1) := by decide +kernel
theorem dX7_lineUp_7 : decode cX7_lineUp 7 = .ok (.iload_n 1, 1) := by decide +kernel
theorem dX7_lineUp_8 : decode cX7_lineUp 8 = .ok (.aload_n 0, 1) := by decide +kernel
theorem dX7_lineUp_9 : decode cX7_lineUp 9 = .ok (.getfield 36, 3) := by decide +kernel
theorem dX7_lineUp_12 : decode cX7_lineUp 12 = .ok (.getfield 44, 3) := by decide +kernel
theorem dX7_lineUp_15 : decode cX7_lineUp 15 = .ok (.if_icmp .ge 85, 3) := by decide +kernel
theorem dX7_lineUp_18 : decode cX7_lineUp 18 = .ok (.aload_n 0, 1) := by decide +kernel
theorem dX7_lineUp_19 : decode cX7_lineUp 19 = .ok (.iload_n 1, 1) := by decide +kernel
theorem dX7_lineUp_20 : decode cX7_lineUp 20 = .ok (.invokevirtual 50, 3) := by decide +kernel
theorem dX7_lineUp_23 : decode cX7_lineUp 23 = .ok (.ifCond .eq 71, 3) := by decide +kernel
theorem dX7_lineUp_26 : decode cX7_lineUp 26 = .ok (.aload_n 0, 1) := by decide +kernel
theorem dX7_lineUp_27 : decode cX7_lineUp 27 = .ok (.getfield 105, 3) := by decide +kernel
theorem dX7_lineUp_30 : decode cX7_lineUp 30 = .ok (.istore_n 2, 1) := by decide +kernel
theorem dX7_lineUp_31 : decode cX7_lineUp 31 = .ok (.iload_n 2, 1) := by decide +kernel
theorem dX7_lineUp_32 : decode cX7_lineUp 32 = .ok (.ifCond .le 45, 3) := by decide +kernel
theorem dX7_lineUp_35 : decode cX7_lineUp 35 = .ok (.aload_n 0, 1) := by decide +kernel
theorem dX7_lineUp_36 : decode cX7_lineUp 36 = .ok (.getfield 9, 3) := by decide +kernel
theorem dX7_lineUp_39 : decode cX7_lineUp 39 = .ok (.aload_n 0, 1) := by decide +kernel
theorem dX7_lineUp_40 : decode cX7_lineUp 40 = .ok (.getfield 33, 3) := by decide +kernel
theorem dX7_lineUp_43 : decode cX7_lineUp 43 = .ok (.iload_n 2, 1) := by decide +kernel
theorem dX7_lineUp_44 : decode cX7_lineUp 44 = .ok (.iconst 1, 1) := by decide +kernel
theorem dX7_lineUp_45 : decode cX7_lineUp 45 = .ok (.isub, 1) := by decide +kernel
theorem dX7_lineUp_46 : decode cX7_lineUp 46 = .ok (.iaload, 1) := by decide +kernel
theorem dX7_lineUp_47 : decode cX7_lineUp 47 = .ok (.iaload, 1) := by decide +kernel
theorem dX7_lineUp_48 : decode cX7_lineUp 48 = .ok (.aload_n 0, 1) := by decide +kernel
theorem dX7_lineUp_49 : decode cX7_lineUp 49 = .ok (.getfield 9, 3) := by decide +kernel
theorem dX7_lineUp_52 : decode cX7_lineUp 52 = .ok (.iload_n 1, 1) := by decide +kernel
theorem dX7_lineUp_53 : decode cX7_lineUp 53 = .ok (.iaload, 1) := by decide +kernel
theorem dX7_lineUp_54 : decode cX7_lineUp 54 = .ok (.if_icmp .le 23, 3) := by decide +kernel
theorem dX7_lineUp_57 : decode cX7_lineUp 57 = .ok (.aload_n 0, 1) := by decide +kernel
theorem dX7_lineUp_58 : decode cX7_lineUp 58 = .ok (.getfield 33, 3) := by decide +kernel
theorem dX7_lineUp_61 : decode cX7_lineUp 61 = .ok (.iload_n 2, 1) := by decide +kernel
theorem dX7_lineUp_62 : decode cX7_lineUp 62 = .ok (.aload_n 0, 1) := by decide +kernel
theorem dX7_lineUp_63 : decode cX7_lineUp 63 = .ok (.getfield 33, 3) := by decide +kernel
theorem dX7_lineUp_66 : decode cX7_lineUp 66 = .ok (.iload_n 2, 1) := by decide +kernel
theorem dX7_lineUp_67 : decode cX7_lineUp 67 = .ok (.iconst 1, 1) := by decide +kernel
theorem dX7_lineUp_68 : decode cX7_lineUp 68 = .ok (.isub, 1) := by decide +kernel
theorem dX7_lineUp_69 : decode cX7_lineUp 69 = .ok (.iaload, 1) := by decide +kernel
theorem dX7_lineUp_70 : decode cX7_lineUp 70 = .ok (.iastore, 1) := by decide +kernel
theorem dX7_lineUp_71 : decode cX7_lineUp 71 = .ok (.iinc 2 (-1), 3) := by decide +kernel
theorem dX7_lineUp_74 : decode cX7_lineUp 74 = .ok (.goto (-43), 3) := by decide +kernel
theorem dX7_lineUp_77 : decode cX7_lineUp 77 = .ok (.aload_n 0, 1) := by decide +kernel
theorem dX7_lineUp_78 : decode cX7_lineUp 78 = .ok (.getfield 33, 3) := by decide +kernel
theorem dX7_lineUp_81 : decode cX7_lineUp 81 = .ok (.iload_n 2, 1) := by decide +kernel
theorem dX7_lineUp_82 : decode cX7_lineUp 82 = .ok (.iload_n 1, 1) := by decide +kernel
theorem dX7_lineUp_83 : decode cX7_lineUp 83 = .ok (.iastore, 1) := by decide +kernel
theorem dX7_lineUp_84 : decode cX7_lineUp 84 = .ok (.aload_n 0, 1) := by decide +kernel
theorem dX7_lineUp_85 : decode cX7_lineUp 85 = .ok (.dup, 1) := by decide +kernel
theorem dX7_lineUp_86 : decode cX7_lineUp 86 = .ok (.getfield 105, 3) := by decide +kernel
theorem dX7_lineUp_89 : decode cX7_lineUp 89 = .ok (.iconst 1, 1) := by decide +kernel
theorem dX7_lineUp_90 : decode cX7_lineUp 90 = .ok (.iadd, 1) := by decide +kernel
theorem dX7_lineUp_91 : decode cX7_lineUp 91 = .ok (.putfield 105, 3) := by decide +kernel
theorem dX7_lineUp_94 : decode cX7_lineUp 94 = .ok (.iinc 1 1, 3) := by decide +kernel
theorem dX7_lineUp_97 : decode cX7_lineUp 97 = .ok (.goto (-90), 3) := by decide +kernel
theorem dX7_lineUp_100 : decode cX7_lineUp 100 = .ok (.return_, 1) := by decide +kernel
theorem dX7_liesIn_0 : decode cX7_liesIn 0 = .ok (.aload_n 0, 1) := by decide +kernel
theorem dX7_liesIn_1 : decode cX7_liesIn 1 = .ok (.iload_n 1, 1) := by decide +kernel
theorem dX7_liesIn_2 : decode cX7_liesIn 2 = .ok (.invokevirtual 50, 3) := by decide +kernel
theorem dX7_liesIn_5 : decode cX7_liesIn 5 = .ok (.ifCond .eq 27, 3) := by decide +kernel
theorem dX7_liesIn_8 : decode cX7_liesIn 8 = .ok (.iload_n 2, 1) := by decide +kernel
theorem dX7_liesIn_9 : decode cX7_liesIn 9 = .ok (.aload_n 0, 1) := by decide +kernel
theorem dX7_liesIn_10 : decode cX7_liesIn 10 = .ok (.getfield 18, 3) := by decide +kernel
theorem dX7_liesIn_13 : decode cX7_liesIn 13 = .ok (.iload_n 1, 1) := by decide +kernel
theorem dX7_liesIn_14 : decode cX7_liesIn 14 = .ok (.iaload, 1) := by decide +kernel
theorem dX7_liesIn_15 : decode cX7_liesIn 15 = .ok (.if_icmp .lt 17, 3) := by decide +kernel
theorem dX7_liesIn_18 : decode cX7_liesIn 18 = .ok (.iload_n 2, 1) := by decide +kernel
theorem dX7_liesIn_19 : decode cX7_liesIn 19 = .ok (.aload_n 0, 1) := by decide +kernel
theorem dX7_liesIn_20 : decode cX7_liesIn 20 = .ok (.getfield 27, 3) := by decide +kernel
theorem dX7_liesIn_23 : decode cX7_liesIn 23 = .ok (.iload_n 1, 1) := by decide +kernel
theorem dX7_liesIn_24 : decode cX7_liesIn 24 = .ok (.iaload, 1) := by decide +kernel
theorem dX7_liesIn_25 : decode cX7_liesIn 25 = .ok (.if_icmp .ge 7, 3) := by decide +kernel
theorem dX7_liesIn_28 : decode cX7_liesIn 28 = .ok (.iconst 1, 1) := by decide +kernel
theorem dX7_liesIn_29 : decode cX7_liesIn 29 = .ok (.goto 4, 3) := by decide +kernel
theorem dX7_liesIn_32 : decode cX7_liesIn 32 = .ok (.iconst 0, 1) := by decide +kernel
theorem dX7_liesIn_33 : decode cX7_liesIn 33 = .ok (.ireturn, 1) := by decide +kernel
theorem dX7_slotsIn_0 : decode cX7_slotsIn 0 = .ok (.aload_n 0, 1) := by decide +kernel
theorem dX7_slotsIn_1 : decode cX7_slotsIn 1 = .ok (.iload_n 1, 1) := by decide +kernel
theorem dX7_slotsIn_2 : decode cX7_slotsIn 2 = .ok (.invokevirtual 50, 3) := by decide +kernel
theorem dX7_slotsIn_5 : decode cX7_slotsIn 5 = .ok (.ifCond .ne 5, 3) := by decide +kernel
theorem dX7_slotsIn_8 : decode cX7_slotsIn 8 = .ok (.iconst 0, 1) := by decide +kernel
theorem dX7_slotsIn_9 : decode cX7_slotsIn 9 = .ok (.ireturn, 1) := by decide +kernel
theorem dX7_slotsIn_10 : decode cX7_slotsIn 10 = .ok (.iconst 0, 1) := by decide +kernel
theorem dX7_slotsIn_11 : decode cX7_slotsIn 11 = .ok (.iload_n 3, 1) := by decide +kernel
theorem dX7_slotsIn_12 : decode cX7_slotsIn 12 = .ok (.aload_n 0, 1) := by decide +kernel
theorem dX7_slotsIn_13 : decode cX7_slotsIn 13 = .ok (.getfield 27, 3) := by decide +kernel
theorem dX7_slotsIn_16 : decode cX7_slotsIn 16 = .ok (.iload_n 1, 1) := by decide +kernel
theorem dX7_slotsIn_17 : decode cX7_slotsIn 17 = .ok (.iaload, 1) := by decide +kernel
theorem dX7_slotsIn_18 : decode cX7_slotsIn 18 = .ok (.invokestatic 74, 3) := by decide +kernel
theorem dX7_slotsIn_21 : decode cX7_slotsIn 21 = .ok (.iload_n 2, 1) := by decide +kernel
theorem dX7_slotsIn_22 : decode cX7_slotsIn 22 = .ok (.aload_n 0, 1) := by decide +kernel
theorem dX7_slotsIn_23 : decode cX7_slotsIn 23 = .ok (.getfield 18, 3) := by decide +kernel
theorem dX7_slotsIn_26 : decode cX7_slotsIn 26 = .ok (.iload_n 1, 1) := by decide +kernel
theorem dX7_slotsIn_27 : decode cX7_slotsIn 27 = .ok (.iaload, 1) := by decide +kernel
theorem dX7_slotsIn_28 : decode cX7_slotsIn 28 = .ok (.invokestatic 108, 3) := by decide +kernel
theorem dX7_slotsIn_31 : decode cX7_slotsIn 31 = .ok (.isub, 1) := by decide +kernel
theorem dX7_slotsIn_32 : decode cX7_slotsIn 32 = .ok (.invokestatic 108, 3) := by decide +kernel
theorem dX7_slotsIn_35 : decode cX7_slotsIn 35 = .ok (.ireturn, 1) := by decide +kernel
theorem dX7_movedAhead_0 : decode cX7_movedAhead 0 = .ok (.aload_n 0, 1) := by decide +kernel
theorem dX7_movedAhead_1 : decode cX7_movedAhead 1 = .ok (.iload_n 1, 1) := by decide +kernel
theorem dX7_movedAhead_2 : decode cX7_movedAhead 2 = .ok (.invokevirtual 50, 3) := by decide +kernel
theorem dX7_movedAhead_5 : decode cX7_movedAhead 5 = .ok (.ifCond .eq 13, 3) := by decide +kernel
theorem dX7_movedAhead_8 : decode cX7_movedAhead 8 = .ok (.iload_n 2, 1) := by decide +kernel
theorem dX7_movedAhead_9 : decode cX7_movedAhead 9 = .ok (.aload_n 0, 1) := by decide +kernel
theorem dX7_movedAhead_10 : decode cX7_movedAhead 10 = .ok (.getfield 18, 3) := by decide +kernel
theorem dX7_movedAhead_13 : decode cX7_movedAhead 13 = .ok (.iload_n 1, 1) := by decide +kernel
theorem dX7_movedAhead_14 : decode cX7_movedAhead 14 = .ok (.iaload, 1) := by decide +kernel
theorem dX7_movedAhead_15 : decode cX7_movedAhead 15 = .ok (.if_icmp .gt 5, 3) := by decide +kernel
theorem dX7_movedAhead_18 : decode cX7_movedAhead 18 = .ok (.iconst 0, 1) := by decide +kernel
theorem dX7_movedAhead_19 : decode cX7_movedAhead 19 = .ok (.ireturn, 1) := by decide +kernel
theorem dX7_movedAhead_20 : decode cX7_movedAhead 20 = .ok (.aload_n 0, 1) := by decide +kernel
theorem dX7_movedAhead_21 : decode cX7_movedAhead 21 = .ok (.getfield 24, 3) := by decide +kernel
theorem dX7_movedAhead_24 : decode cX7_movedAhead 24 = .ok (.iload_n 1, 1) := by decide +kernel
theorem dX7_movedAhead_25 : decode cX7_movedAhead 25 = .ok (.iaload, 1) := by decide +kernel
theorem dX7_movedAhead_26 : decode cX7_movedAhead 26 = .ok (.iload_n 2, 1) := by decide +kernel
theorem dX7_movedAhead_27 : decode cX7_movedAhead 27 = .ok (.aload_n 0, 1) := by decide +kernel
theorem dX7_movedAhead_28 : decode cX7_movedAhead 28 = .ok (.getfield 18, 3) := by decide +kernel
theorem dX7_movedAhead_31 : decode cX7_movedAhead 31 = .ok (.iload_n 1, 1) := by decide +kernel
theorem dX7_movedAhead_32 : decode cX7_movedAhead 32 = .ok (.iaload, 1) := by decide +kernel
theorem dX7_movedAhead_33 : decode cX7_movedAhead 33 = .ok (.isub, 1) := by decide +kernel
theorem dX7_movedAhead_34 : decode cX7_movedAhead 34 = .ok (.invokestatic 74, 3) := by decide +kernel
theorem dX7_movedAhead_37 : decode cX7_movedAhead 37 = .ok (.istore_n 3, 1) := by decide +kernel
theorem dX7_movedAhead_38 : decode cX7_movedAhead 38 = .ok (.aload_n 0, 1) := by decide +kernel
theorem dX7_movedAhead_39 : decode cX7_movedAhead 39 = .ok (.getfield 36, 3) := by decide +kernel
theorem dX7_movedAhead_42 : decode cX7_movedAhead 42 = .ok (.iload_n 1, 1) := by decide +kernel
theorem dX7_movedAhead_43 : decode cX7_movedAhead 43 = .ok (.iconst 3, 1) := by decide +kernel
theorem dX7_movedAhead_44 : decode cX7_movedAhead 44 = .ok (.invokevirtual 54, 3) := by decide +kernel
theorem dX7_movedAhead_47 : decode cX7_movedAhead 47 = .ok (.iload_n 3, 1) := by decide +kernel
theorem dX7_movedAhead_48 : decode cX7_movedAhead 48 = .ok (.aload_n 0, 1) := by decide +kernel
theorem dX7_movedAhead_49 : decode cX7_movedAhead 49 = .ok (.getfield 36, 3) := by decide +kernel
theorem dX7_movedAhead_52 : decode cX7_movedAhead 52 = .ok (.aload_n 0, 1) := by decide +kernel
theorem dX7_movedAhead_53 : decode cX7_movedAhead 53 = .ok (.getfield 21, 3) := by decide +kernel
theorem dX7_movedAhead_56 : decode cX7_movedAhead 56 = .ok (.iload_n 1, 1) := by decide +kernel
theorem dX7_movedAhead_57 : decode cX7_movedAhead 57 = .ok (.iaload, 1) := by decide +kernel
theorem dX7_movedAhead_58 : decode cX7_movedAhead 58 = .ok (.invokevirtual 111, 3) := by decide +kernel
theorem dX7_movedAhead_61 : decode cX7_movedAhead 61 = .ok (.imul, 1) := by decide +kernel
theorem dX7_movedAhead_62 : decode cX7_movedAhead 62 = .ok (.invokestatic 74, 3) := by decide +kernel
theorem dX7_movedAhead_65 : decode cX7_movedAhead 65 = .ok (.ireturn, 1) := by decide +kernel
theorem dX7_lateOf_0 : decode cX7_lateOf 0 = .ok (.aload_n 0, 1) := by decide +kernel
theorem dX7_lateOf_1 : decode cX7_lateOf 1 = .ok (.iload_n 1, 1) := by decide +kernel
theorem dX7_lateOf_2 : decode cX7_lateOf 2 = .ok (.invokevirtual 50, 3) := by decide +kernel
theorem dX7_lateOf_5 : decode cX7_lateOf 5 = .ok (.ifCond .eq 26, 3) := by decide +kernel
theorem dX7_lateOf_8 : decode cX7_lateOf 8 = .ok (.iconst 0, 1) := by decide +kernel
theorem dX7_lateOf_9 : decode cX7_lateOf 9 = .ok (.aload_n 0, 1) := by decide +kernel
theorem dX7_lateOf_10 : decode cX7_lateOf 10 = .ok (.getfield 27, 3) := by decide +kernel
theorem dX7_lateOf_13 : decode cX7_lateOf 13 = .ok (.iload_n 1, 1) := by decide +kernel
theorem dX7_lateOf_14 : decode cX7_lateOf 14 = .ok (.iaload, 1) := by decide +kernel
theorem dX7_lateOf_15 : decode cX7_lateOf 15 = .ok (.aload_n 0, 1) := by decide +kernel
theorem dX7_lateOf_16 : decode cX7_lateOf 16 = .ok (.getfield 36, 3) := by decide +kernel
theorem dX7_lateOf_19 : decode cX7_lateOf 19 = .ok (.iload_n 1, 1) := by decide +kernel
theorem dX7_lateOf_20 : decode cX7_lateOf 20 = .ok (.iconst 5, 1) := by decide +kernel
theorem dX7_lateOf_21 : decode cX7_lateOf 21 = .ok (.invokevirtual 54, 3) := by decide +kernel
theorem dX7_lateOf_24 : decode cX7_lateOf 24 = .ok (.isub, 1) := by decide +kernel
theorem dX7_lateOf_25 : decode cX7_lateOf 25 = .ok (.invokestatic 108, 3) := by decide +kernel
theorem dX7_lateOf_28 : decode cX7_lateOf 28 = .ok (.goto 4, 3) := by decide +kernel
theorem dX7_lateOf_31 : decode cX7_lateOf 31 = .ok (.iconst 0, 1) := by decide +kernel
theorem dX7_lateOf_32 : decode cX7_lateOf 32 = .ok (.ireturn, 1) := by decide +kernel
theorem dX7_costOf_0 : decode cX7_costOf 0 = .ok (.aload_n 0, 1) := by decide +kernel
theorem dX7_costOf_1 : decode cX7_costOf 1 = .ok (.iload_n 1, 1) := by decide +kernel
theorem dX7_costOf_2 : decode cX7_costOf 2 = .ok (.invokevirtual 115, 3) := by decide +kernel
theorem dX7_costOf_5 : decode cX7_costOf 5 = .ok (.bipush 8, 2) := by decide +kernel
theorem dX7_costOf_7 : decode cX7_costOf 7 = .ok (.aload_n 0, 1) := by decide +kernel
theorem dX7_costOf_8 : decode cX7_costOf 8 = .ok (.getfield 36, 3) := by decide +kernel
theorem dX7_costOf_11 : decode cX7_costOf 11 = .ok (.iload_n 1, 1) := by decide +kernel
theorem dX7_costOf_12 : decode cX7_costOf 12 = .ok (.bipush 6, 2) := by decide +kernel
theorem dX7_costOf_14 : decode cX7_costOf 14 = .ok (.invokevirtual 54, 3) := by decide +kernel
theorem dX7_costOf_17 : decode cX7_costOf 17 = .ok (.ishr, 1) := by decide +kernel
theorem dX7_costOf_18 : decode cX7_costOf 18 = .ok (.imul, 1) := by decide +kernel
theorem dX7_costOf_19 : decode cX7_costOf 19 = .ok (.ireturn, 1) := by decide +kernel
theorem dX7_busyIn_0 : decode cX7_busyIn 0 = .ok (.iconst 0, 1) := by decide +kernel
theorem dX7_busyIn_1 : decode cX7_busyIn 1 = .ok (.istore_n 3, 1) := by decide +kernel
theorem dX7_busyIn_2 : decode cX7_busyIn 2 = .ok (.iload_n 1, 1) := by decide +kernel
theorem dX7_busyIn_3 : decode cX7_busyIn 3 = .ok (.istore 4, 2) := by decide +kernel
theorem dX7_busyIn_5 : decode cX7_busyIn 5 = .ok (.iload 4, 2) := by decide +kernel
theorem dX7_busyIn_7 : decode cX7_busyIn 7 = .ok (.iload_n 2, 1) := by decide +kernel
theorem dX7_busyIn_8 : decode cX7_busyIn 8 = .ok (.if_icmp .ge 19, 3) := by decide +kernel
theorem dX7_busyIn_11 : decode cX7_busyIn 11 = .ok (.iload_n 3, 1) := by decide +kernel
theorem dX7_busyIn_12 : decode cX7_busyIn 12 = .ok (.aload_n 0, 1) := by decide +kernel
theorem dX7_busyIn_13 : decode cX7_busyIn 13 = .ok (.getfield 30, 3) := by decide +kernel
theorem dX7_busyIn_16 : decode cX7_busyIn 16 = .ok (.iload 4, 2) := by decide +kernel
theorem dX7_busyIn_18 : decode cX7_busyIn 18 = .ok (.iaload, 1) := by decide +kernel
theorem dX7_busyIn_19 : decode cX7_busyIn 19 = .ok (.iadd, 1) := by decide +kernel
theorem dX7_busyIn_20 : decode cX7_busyIn 20 = .ok (.istore_n 3, 1) := by decide +kernel
theorem dX7_busyIn_21 : decode cX7_busyIn 21 = .ok (.iinc 4 1, 3) := by decide +kernel
theorem dX7_busyIn_24 : decode cX7_busyIn 24 = .ok (.goto (-19), 3) := by decide +kernel
theorem dX7_busyIn_27 : decode cX7_busyIn 27 = .ok (.iload_n 3, 1) := by decide +kernel
theorem dX7_busyIn_28 : decode cX7_busyIn 28 = .ok (.ireturn, 1) := by decide +kernel
theorem dX7_busiestIn_0 : decode cX7_busiestIn 0 = .ok (.iconst 0, 1) := by decide +kernel
theorem dX7_busiestIn_1 : decode cX7_busiestIn 1 = .ok (.istore_n 3, 1) := by decide +kernel
theorem dX7_busiestIn_2 : decode cX7_busiestIn 2 = .ok (.iload_n 1, 1) := by decide +kernel
theorem dX7_busiestIn_3 : decode cX7_busiestIn 3 = .ok (.istore 4, 2) := by decide +kernel
theorem dX7_busiestIn_5 : decode cX7_busiestIn 5 = .ok (.iload 4, 2) := by decide +kernel
theorem dX7_busiestIn_7 : decode cX7_busiestIn 7 = .ok (.iload_n 2, 1) := by decide +kernel
theorem dX7_busiestIn_8 : decode cX7_busiestIn 8 = .ok (.if_icmp .ge 21, 3) := by decide +kernel
theorem dX7_busiestIn_11 : decode cX7_busiestIn 11 = .ok (.iload_n 3, 1) := by decide +kernel
theorem dX7_busiestIn_12 : decode cX7_busiestIn 12 = .ok (.aload_n 0, 1) := by decide +kernel
theorem dX7_busiestIn_13 : decode cX7_busiestIn 13 = .ok (.getfield 30, 3) := by decide +kernel
theorem dX7_busiestIn_16 : decode cX7_busiestIn 16 = .ok (.iload 4, 2) := by decide +kernel
theorem dX7_busiestIn_18 : decode cX7_busiestIn 18 = .ok (.iaload, 1) := by decide +kernel
theorem dX7_busiestIn_19 : decode cX7_busiestIn 19 = .ok (.invokestatic 108, 3) := by decide +kernel
theorem dX7_busiestIn_22 : decode cX7_busiestIn 22 = .ok (.istore_n 3, 1) := by decide +kernel
theorem dX7_busiestIn_23 : decode cX7_busiestIn 23 = .ok (.iinc 4 1, 3) := by decide +kernel
theorem dX7_busiestIn_26 : decode cX7_busiestIn 26 = .ok (.goto (-21), 3) := by decide +kernel
theorem dX7_busiestIn_29 : decode cX7_busiestIn 29 = .ok (.iload_n 3, 1) := by decide +kernel
theorem dX7_busiestIn_30 : decode cX7_busiestIn 30 = .ok (.ireturn, 1) := by decide +kernel
