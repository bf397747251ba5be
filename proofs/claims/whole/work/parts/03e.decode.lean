theorem dX12_lawOf_24 : decode cX12_lawOf 24 = .ok (.iload_n 1, 1) := by decide +kernel
theorem dX12_lawOf_25 : decode cX12_lawOf 25 = .ok (.iaload, 1) := by decide +kernel
theorem dX12_lawOf_26 : decode cX12_lawOf 26 = .ok (.istore 8, 2) := by decide +kernel
theorem dX12_lawOf_28 : decode cX12_lawOf 28 = .ok (.aload_n 0, 1) := by decide +kernel
theorem dX12_lawOf_29 : decode cX12_lawOf 29 = .ok (.getfield 39, 3) := by decide +kernel
theorem dX12_lawOf_32 : decode cX12_lawOf 32 = .ok (.iload_n 1, 1) := by decide +kernel
theorem dX12_lawOf_33 : decode cX12_lawOf 33 = .ok (.iaload, 1) := by decide +kernel
theorem dX12_lawOf_34 : decode cX12_lawOf 34 = .ok (.istore 9, 2) := by decide +kernel
theorem dX12_lawOf_36 : decode cX12_lawOf 36 = .ok (.aload_n 0, 1) := by decide +kernel
theorem dX12_lawOf_37 : decode cX12_lawOf 37 = .ok (.getfield 42, 3) := by decide +kernel
theorem dX12_lawOf_40 : decode cX12_lawOf 40 = .ok (.iload_n 1, 1) := by decide +kernel
theorem dX12_lawOf_41 : decode cX12_lawOf 41 = .ok (.iaload, 1) := by decide +kernel
theorem dX12_lawOf_42 : decode cX12_lawOf 42 = .ok (.istore 10, 2) := by decide +kernel
theorem dX12_lawOf_44 : decode cX12_lawOf 44 = .ok (.aload_n 0, 1) := by decide +kernel
theorem dX12_lawOf_45 : decode cX12_lawOf 45 = .ok (.iload_n 1, 1) := by decide +kernel
theorem dX12_lawOf_46 : decode cX12_lawOf 46 = .ok (.lload_n 2, 1) := by decide +kernel
theorem dX12_lawOf_47 : decode cX12_lawOf 47 = .ok (.l2i, 1) := by decide +kernel
theorem dX12_lawOf_48 : decode cX12_lawOf 48 = .ok (.lload 4, 2) := by decide +kernel
theorem dX12_lawOf_50 : decode cX12_lawOf 50 = .ok (.l2i, 1) := by decide +kernel
theorem dX12_lawOf_51 : decode cX12_lawOf 51 = .ok (.iload 6, 2) := by decide +kernel
theorem dX12_lawOf_53 : decode cX12_lawOf 53 = .ok (.invokevirtual 383, 3) := by decide +kernel
theorem dX12_lawOf_56 : decode cX12_lawOf 56 = .ok (.aload_n 0, 1) := by decide +kernel
theorem dX12_lawOf_57 : decode cX12_lawOf 57 = .ok (.iload_n 1, 1) := by decide +kernel
theorem dX12_lawOf_58 : decode cX12_lawOf 58 = .ok (.invokevirtual 387, 3) := by decide +kernel
theorem dX12_lawOf_61 : decode cX12_lawOf 61 = .ok (.istore 7, 2) := by decide +kernel
theorem dX12_lawOf_63 : decode cX12_lawOf 63 = .ok (.aload_n 0, 1) := by decide +kernel
theorem dX12_lawOf_64 : decode cX12_lawOf 64 = .ok (.iload_n 1, 1) := by decide +kernel
theorem dX12_lawOf_65 : decode cX12_lawOf 65 = .ok (.iload 8, 2) := by decide +kernel
theorem dX12_lawOf_67 : decode cX12_lawOf 67 = .ok (.iload 9, 2) := by decide +kernel
theorem dX12_lawOf_69 : decode cX12_lawOf 69 = .ok (.iload 10, 2) := by decide +kernel
theorem dX12_lawOf_71 : decode cX12_lawOf 71 = .ok (.invokevirtual 383, 3) := by decide +kernel
theorem dX12_lawOf_74 : decode cX12_lawOf 74 = .ok (.iload 7, 2) := by decide +kernel
theorem dX12_lawOf_76 : decode cX12_lawOf 76 = .ok (.ireturn, 1) := by decide +kernel
theorem dX12_breaks_0 : decode cX12_breaks 0 = .ok (.aload_n 0, 1) := by decide +kernel
theorem dX12_breaks_1 : decode cX12_breaks 1 = .ok (.iload_n 1, 1) := by decide +kernel
theorem dX12_breaks_2 : decode cX12_breaks 2 = .ok (.invokevirtual 297, 3) := by decide +kernel
theorem dX12_breaks_5 : decode cX12_breaks 5 = .ok (.ifCond .eq 17, 3) := by decide +kernel
theorem dX12_breaks_8 : decode cX12_breaks 8 = .ok (.aload_n 0, 1) := by decide +kernel
theorem dX12_breaks_9 : decode cX12_breaks 9 = .ok (.iload_n 1, 1) := by decide +kernel
theorem dX12_breaks_10 : decode cX12_breaks 10 = .ok (.iload_n 2, 1) := by decide +kernel
theorem dX12_breaks_11 : decode cX12_breaks 11 = .ok (.i2l, 1) := by decide +kernel
theorem dX12_breaks_12 : decode cX12_breaks 12 = .ok (.iload_n 3, 1) := by decide +kernel
theorem dX12_breaks_13 : decode cX12_breaks 13 = .ok (.i2l, 1) := by decide +kernel
theorem dX12_breaks_14 : decode cX12_breaks 14 = .ok (.iload 4, 2) := by decide +kernel
theorem dX12_breaks_16 : decode cX12_breaks 16 = .ok (.invokevirtual 390, 3) := by decide +kernel
theorem dX12_breaks_19 : decode cX12_breaks 19 = .ok (.goto 4, 3) := by decide +kernel
theorem dX12_breaks_22 : decode cX12_breaks 22 = .ok (.iconst (-1), 1) := by decide +kernel
theorem dX12_breaks_23 : decode cX12_breaks 23 = .ok (.ireturn, 1) := by decide +kernel
theorem dX12_inWay_0 : decode cX12_inWay 0 = .ok (.aload_n 0, 1) := by decide +kernel
theorem dX12_inWay_1 : decode cX12_inWay 1 = .ok (.iload_n 1, 1) := by decide +kernel
theorem dX12_inWay_2 : decode cX12_inWay 2 = .ok (.invokevirtual 297, 3) := by decide +kernel
theorem dX12_inWay_5 : decode cX12_inWay 5 = .ok (.ifCond .ne 5, 3) := by decide +kernel
theorem dX12_inWay_8 : decode cX12_inWay 8 = .ok (.iconst (-1), 1) := by decide +kernel
theorem dX12_inWay_9 : decode cX12_inWay 9 = .ok (.ireturn, 1) := by decide +kernel
theorem dX12_inWay_10 : decode cX12_inWay 10 = .ok (.aload_n 0, 1) := by decide +kernel
theorem dX12_inWay_11 : decode cX12_inWay 11 = .ok (.iload_n 1, 1) := by decide +kernel
theorem dX12_inWay_12 : decode cX12_inWay 12 = .ok (.iload_n 2, 1) := by decide +kernel
theorem dX12_inWay_13 : decode cX12_inWay 13 = .ok (.i2l, 1) := by decide +kernel
theorem dX12_inWay_14 : decode cX12_inWay 14 = .ok (.iload_n 3, 1) := by decide +kernel
theorem dX12_inWay_15 : decode cX12_inWay 15 = .ok (.i2l, 1) := by decide +kernel
theorem dX12_inWay_16 : decode cX12_inWay 16 = .ok (.iload 4, 2) := by decide +kernel
theorem dX12_inWay_18 : decode cX12_inWay 18 = .ok (.invokevirtual 379, 3) := by decide +kernel
theorem dX12_inWay_21 : decode cX12_inWay 21 = .ok (.ifCond .le 5, 3) := by decide +kernel
theorem dX12_inWay_24 : decode cX12_inWay 24 = .ok (.iconst 0, 1) := by decide +kernel
theorem dX12_inWay_25 : decode cX12_inWay 25 = .ok (.ireturn, 1) := by decide +kernel
theorem dX12_inWay_26 : decode cX12_inWay 26 = .ok (.aload_n 0, 1) := by decide +kernel
theorem dX12_inWay_27 : decode cX12_inWay 27 = .ok (.getfield 36, 3) := by decide +kernel
theorem dX12_inWay_30 : decode cX12_inWay 30 = .ok (.iload_n 1, 1) := by decide +kernel
theorem dX12_inWay_31 : decode cX12_inWay 31 = .ok (.iaload, 1) := by decide +kernel
theorem dX12_inWay_32 : decode cX12_inWay 32 = .ok (.istore 5, 2) := by decide +kernel
theorem dX12_inWay_34 : decode cX12_inWay 34 = .ok (.aload_n 0, 1) := by decide +kernel
theorem dX12_inWay_35 : decode cX12_inWay 35 = .ok (.getfield 39, 3) := by decide +kernel
theorem dX12_inWay_38 : decode cX12_inWay 38 = .ok (.iload_n 1, 1) := by decide +kernel
theorem dX12_inWay_39 : decode cX12_inWay 39 = .ok (.iaload, 1) := by decide +kernel
theorem dX12_inWay_40 : decode cX12_inWay 40 = .ok (.istore 6, 2) := by decide +kernel
theorem dX12_inWay_42 : decode cX12_inWay 42 = .ok (.aload_n 0, 1) := by decide +kernel
theorem dX12_inWay_43 : decode cX12_inWay 43 = .ok (.getfield 42, 3) := by decide +kernel
theorem dX12_inWay_46 : decode cX12_inWay 46 = .ok (.iload_n 1, 1) := by decide +kernel
theorem dX12_inWay_47 : decode cX12_inWay 47 = .ok (.iaload, 1) := by decide +kernel
theorem dX12_inWay_48 : decode cX12_inWay 48 = .ok (.istore 7, 2) := by decide +kernel
theorem dX12_inWay_50 : decode cX12_inWay 50 = .ok (.aload_n 0, 1) := by decide +kernel
theorem dX12_inWay_51 : decode cX12_inWay 51 = .ok (.iload_n 1, 1) := by decide +kernel
theorem dX12_inWay_52 : decode cX12_inWay 52 = .ok (.iload_n 2, 1) := by decide +kernel
theorem dX12_inWay_53 : decode cX12_inWay 53 = .ok (.iload_n 3, 1) := by decide +kernel
theorem dX12_inWay_54 : decode cX12_inWay 54 = .ok (.iload 4, 2) := by decide +kernel
theorem dX12_inWay_56 : decode cX12_inWay 56 = .ok (.invokevirtual 383, 3) := by decide +kernel
theorem dX12_inWay_59 : decode cX12_inWay 59 = .ok (.aload_n 0, 1) := by decide +kernel
theorem dX12_inWay_60 : decode cX12_inWay 60 = .ok (.iload_n 1, 1) := by decide +kernel
theorem dX12_inWay_61 : decode cX12_inWay 61 = .ok (.invokevirtual 370, 3) := by decide +kernel
theorem dX12_inWay_64 : decode cX12_inWay 64 = .ok (.istore 8, 2) := by decide +kernel
theorem dX12_inWay_66 : decode cX12_inWay 66 = .ok (.aload_n 0, 1) := by decide +kernel
theorem dX12_inWay_67 : decode cX12_inWay 67 = .ok (.iload_n 1, 1) := by decide +kernel
theorem dX12_inWay_68 : decode cX12_inWay 68 = .ok (.iload 5, 2) := by decide +kernel
theorem dX12_inWay_70 : decode cX12_inWay 70 = .ok (.iload 6, 2) := by decide +kernel
theorem dX12_inWay_72 : decode cX12_inWay 72 = .ok (.iload 7, 2) := by decide +kernel
theorem dX12_inWay_74 : decode cX12_inWay 74 = .ok (.invokevirtual 383, 3) := by decide +kernel
theorem dX12_inWay_77 : decode cX12_inWay 77 = .ok (.iload 8, 2) := by decide +kernel
theorem dX12_inWay_79 : decode cX12_inWay 79 = .ok (.ireturn, 1) := by decide +kernel
theorem dX12_layTens_0 : decode cX12_layTens 0 = .ok (.iconst 0, 1) := by decide +kernel
theorem dX12_layTens_1 : decode cX12_layTens 1 = .ok (.istore_n 2, 1) := by decide +kernel
theorem dX12_layTens_2 : decode cX12_layTens 2 = .ok (.bipush 10, 2) := by decide +kernel
theorem dX12_layTens_4 : decode cX12_layTens 4 = .ok (.iload_n 2, 1) := by decide +kernel
theorem dX12_layTens_5 : decode cX12_layTens 5 = .ok (.imul, 1) := by decide +kernel
theorem dX12_layTens_6 : decode cX12_layTens 6 = .ok (.aload_n 0, 1) := by decide +kernel
theorem dX12_layTens_7 : decode cX12_layTens 7 = .ok (.iload_n 1, 1) := by decide +kernel
theorem dX12_layTens_8 : decode cX12_layTens 8 = .ok (.iconst 0, 1) := by decide +kernel
theorem dX12_layTens_9 : decode cX12_layTens 9 = .ok (.invokevirtual 316, 3) := by decide +kernel
theorem dX12_layTens_12 : decode cX12_layTens 12 = .ok (.iadd, 1) := by decide +kernel
theorem dX12_layTens_13 : decode cX12_layTens 13 = .ok (.aload_n 0, 1) := by decide +kernel
theorem dX12_layTens_14 : decode cX12_layTens 14 = .ok (.getfield 13, 3) := by decide +kernel
theorem dX12_layTens_17 : decode cX12_layTens 17 = .ok (.iconst 0, 1) := by decide +kernel
theorem dX12_layTens_18 : decode cX12_layTens 18 = .ok (.iaload, 1) := by decide +kernel
theorem dX12_layTens_19 : decode cX12_layTens 19 = .ok (.if_icmp .gt 36, 3) := by decide +kernel
theorem dX12_layTens_22 : decode cX12_layTens 22 = .ok (.aload_n 0, 1) := by decide +kernel
theorem dX12_layTens_23 : decode cX12_layTens 23 = .ok (.getfield 54, 3) := by decide +kernel
theorem dX12_layTens_26 : decode cX12_layTens 26 = .ok (.iload_n 2, 1) := by decide +kernel
theorem dX12_layTens_27 : decode cX12_layTens 27 = .ok (.aload_n 0, 1) := by decide +kernel
theorem dX12_layTens_28 : decode cX12_layTens 28 = .ok (.bipush 10, 2) := by decide +kernel
theorem dX12_layTens_30 : decode cX12_layTens 30 = .ok (.iload_n 2, 1) := by decide +kernel
theorem dX12_layTens_31 : decode cX12_layTens 31 = .ok (.imul, 1) := by decide +kernel
theorem dX12_layTens_32 : decode cX12_layTens 32 = .ok (.bipush 10, 2) := by decide +kernel
theorem dX12_layTens_34 : decode cX12_layTens 34 = .ok (.iload_n 2, 1) := by decide +kernel
theorem dX12_layTens_35 : decode cX12_layTens 35 = .ok (.imul, 1) := by decide +kernel
theorem dX12_layTens_36 : decode cX12_layTens 36 = .ok (.aload_n 0, 1) := by decide +kernel
theorem dX12_layTens_37 : decode cX12_layTens 37 = .ok (.iload_n 1, 1) := by decide +kernel
theorem dX12_layTens_38 : decode cX12_layTens 38 = .ok (.iconst 0, 1) := by decide +kernel
theorem dX12_layTens_39 : decode cX12_layTens 39 = .ok (.invokevirtual 316, 3) := by decide +kernel
theorem dX12_layTens_42 : decode cX12_layTens 42 = .ok (.iadd, 1) := by decide +kernel
theorem dX12_layTens_43 : decode cX12_layTens 43 = .ok (.iconst 1, 1) := by decide +kernel
theorem dX12_layTens_44 : decode cX12_layTens 44 = .ok (.isub, 1) := by decide +kernel
theorem dX12_layTens_45 : decode cX12_layTens 45 = .ok (.invokevirtual 280, 3) := by decide +kernel
theorem dX12_layTens_48 : decode cX12_layTens 48 = .ok (.iastore, 1) := by decide +kernel
theorem dX12_layTens_49 : decode cX12_layTens 49 = .ok (.iinc 2 1, 3) := by decide +kernel
theorem dX12_layTens_52 : decode cX12_layTens 52 = .ok (.goto (-50), 3) := by decide +kernel
theorem dX12_layTens_55 : decode cX12_layTens 55 = .ok (.return_, 1) := by decide +kernel
theorem dX12_fitsAt_0 : decode cX12_fitsAt 0 = .ok (.aload_n 0, 1) := by decide +kernel
theorem dX12_fitsAt_1 : decode cX12_fitsAt 1 = .ok (.iload_n 1, 1) := by decide +kernel
theorem dX12_fitsAt_2 : decode cX12_fitsAt 2 = .ok (.invokevirtual 373, 3) := by decide +kernel
theorem dX12_fitsAt_5 : decode cX12_fitsAt 5 = .ok (.ifCond .ne 5, 3) := by decide +kernel
theorem dX12_fitsAt_8 : decode cX12_fitsAt 8 = .ok (.iconst 0, 1) := by decide +kernel
theorem dX12_fitsAt_9 : decode cX12_fitsAt 9 = .ok (.ireturn, 1) := by decide +kernel
theorem dX12_fitsAt_10 : decode cX12_fitsAt 10 = .ok (.aload_n 0, 1) := by decide +kernel
theorem dX12_fitsAt_11 : decode cX12_fitsAt 11 = .ok (.iload_n 1, 1) := by decide +kernel
theorem dX12_fitsAt_12 : decode cX12_fitsAt 12 = .ok (.invokevirtual 364, 3) := by decide +kernel
theorem dX12_fitsAt_15 : decode cX12_fitsAt 15 = .ok (.istore_n 2, 1) := by decide +kernel
theorem dX12_fitsAt_16 : decode cX12_fitsAt 16 = .ok (.iconst 0, 1) := by decide +kernel
theorem dX12_fitsAt_17 : decode cX12_fitsAt 17 = .ok (.istore_n 3, 1) := by decide +kernel
theorem dX12_fitsAt_18 : decode cX12_fitsAt 18 = .ok (.bipush 10, 2) := by decide +kernel
theorem dX12_fitsAt_20 : decode cX12_fitsAt 20 = .ok (.iload_n 3, 1) := by decide +kernel
theorem dX12_fitsAt_21 : decode cX12_fitsAt 21 = .ok (.imul, 1) := by decide +kernel
theorem dX12_fitsAt_22 : decode cX12_fitsAt 22 = .ok (.aload_n 0, 1) := by decide +kernel
theorem dX12_fitsAt_23 : decode cX12_fitsAt 23 = .ok (.iload_n 1, 1) := by decide +kernel
theorem dX12_fitsAt_24 : decode cX12_fitsAt 24 = .ok (.iconst 0, 1) := by decide +kernel
theorem dX12_fitsAt_25 : decode cX12_fitsAt 25 = .ok (.invokevirtual 316, 3) := by decide +kernel
theorem dX12_fitsAt_28 : decode cX12_fitsAt 28 = .ok (.iadd, 1) := by decide +kernel
theorem dX12_fitsAt_29 : decode cX12_fitsAt 29 = .ok (.aload_n 0, 1) := by decide +kernel
theorem dX12_fitsAt_30 : decode cX12_fitsAt 30 = .ok (.getfield 13, 3) := by decide +kernel
theorem dX12_fitsAt_33 : decode cX12_fitsAt 33 = .ok (.iconst 0, 1) := by decide +kernel
theorem dX12_fitsAt_34 : decode cX12_fitsAt 34 = .ok (.iaload, 1) := by decide +kernel
theorem dX12_fitsAt_35 : decode cX12_fitsAt 35 = .ok (.if_icmp .gt 67, 3) := by decide +kernel
theorem dX12_fitsAt_38 : decode cX12_fitsAt 38 = .ok (.aload_n 0, 1) := by decide +kernel
theorem dX12_fitsAt_39 : decode cX12_fitsAt 39 = .ok (.getfield 54, 3) := by decide +kernel
theorem dX12_fitsAt_42 : decode cX12_fitsAt 42 = .ok (.iload_n 3, 1) := by decide +kernel
theorem dX12_fitsAt_43 : decode cX12_fitsAt 43 = .ok (.iaload, 1) := by decide +kernel
theorem dX12_fitsAt_44 : decode cX12_fitsAt 44 = .ok (.iload_n 2, 1) := by decide +kernel
theorem dX12_fitsAt_45 : decode cX12_fitsAt 45 = .ok (.iadd, 1) := by decide +kernel
theorem dX12_fitsAt_46 : decode cX12_fitsAt 46 = .ok (.aload_n 0, 1) := by decide +kernel
theorem dX12_fitsAt_47 : decode cX12_fitsAt 47 = .ok (.iload_n 1, 1) := by decide +kernel
theorem dX12_fitsAt_48 : decode cX12_fitsAt 48 = .ok (.invokevirtual 367, 3) := by decide +kernel
theorem dX12_fitsAt_51 : decode cX12_fitsAt 51 = .ok (.if_icmp .ge 6, 3) := by decide +kernel
theorem dX12_fitsAt_54 : decode cX12_fitsAt 54 = .ok (.goto 42, 3) := by decide +kernel
theorem dX12_fitsAt_57 : decode cX12_fitsAt 57 = .ok (.aload_n 0, 1) := by decide +kernel
theorem dX12_fitsAt_58 : decode cX12_fitsAt 58 = .ok (.getfield 36, 3) := by decide +kernel
theorem dX12_fitsAt_61 : decode cX12_fitsAt 61 = .ok (.iload_n 1, 1) := by decide +kernel
theorem dX12_fitsAt_62 : decode cX12_fitsAt 62 = .ok (.bipush 10, 2) := by decide +kernel
theorem dX12_fitsAt_64 : decode cX12_fitsAt 64 = .ok (.iload_n 3, 1) := by decide +kernel
theorem dX12_fitsAt_65 : decode cX12_fitsAt 65 = .ok (.imul, 1) := by decide +kernel
theorem dX12_fitsAt_66 : decode cX12_fitsAt 66 = .ok (.iastore, 1) := by decide +kernel
theorem dX12_fitsAt_67 : decode cX12_fitsAt 67 = .ok (.aload_n 0, 1) := by decide +kernel
theorem dX12_fitsAt_68 : decode cX12_fitsAt 68 = .ok (.iload_n 1, 1) := by decide +kernel
theorem dX12_fitsAt_69 : decode cX12_fitsAt 69 = .ok (.invokevirtual 370, 3) := by decide +kernel
theorem dX12_fitsAt_72 : decode cX12_fitsAt 72 = .ok (.ifCond .ne 24, 3) := by decide +kernel
theorem dX12_fitsAt_75 : decode cX12_fitsAt 75 = .ok (.aload_n 0, 1) := by decide +kernel
theorem dX12_fitsAt_76 : decode cX12_fitsAt 76 = .ok (.iload_n 1, 1) := by decide +kernel
theorem dX12_fitsAt_77 : decode cX12_fitsAt 77 = .ok (.invokevirtual 376, 3) := by decide +kernel
theorem dX12_fitsAt_80 : decode cX12_fitsAt 80 = .ok (.ifCond .ne 6, 3) := by decide +kernel
theorem dX12_fitsAt_83 : decode cX12_fitsAt 83 = .ok (.goto 13, 3) := by decide +kernel
theorem dX12_fitsAt_86 : decode cX12_fitsAt 86 = .ok (.aload_n 0, 1) := by decide +kernel
theorem dX12_fitsAt_87 : decode cX12_fitsAt 87 = .ok (.bipush 10, 2) := by decide +kernel
theorem dX12_fitsAt_89 : decode cX12_fitsAt 89 = .ok (.iload_n 3, 1) := by decide +kernel
theorem dX12_fitsAt_90 : decode cX12_fitsAt 90 = .ok (.imul, 1) := by decide +kernel
theorem dX12_fitsAt_91 : decode cX12_fitsAt 91 = .ok (.putfield 393, 3) := by decide +kernel
theorem dX12_fitsAt_94 : decode cX12_fitsAt 94 = .ok (.iconst 1, 1) := by decide +kernel
theorem dX12_fitsAt_95 : decode cX12_fitsAt 95 = .ok (.ireturn, 1) := by decide +kernel
theorem dX12_fitsAt_96 : decode cX12_fitsAt 96 = .ok (.iinc 3 1, 3) := by decide +kernel
theorem dX12_fitsAt_99 : decode cX12_fitsAt 99 = .ok (.goto (-81), 3) := by decide +kernel
theorem dX12_fitsAt_102 : decode cX12_fitsAt 102 = .ok (.iconst 0, 1) := by decide +kernel
theorem dX12_fitsAt_103 : decode cX12_fitsAt 103 = .ok (.ireturn, 1) := by decide +kernel
theorem dX12_seeks_0 : decode cX12_seeks 0 = .ok (.iload_n 2, 1) := by decide +kernel
theorem dX12_seeks_1 : decode cX12_seeks 1 = .ok (.aload_n 0, 1) := by decide +kernel
theorem dX12_seeks_2 : decode cX12_seeks 2 = .ok (.iload_n 1, 1) := by decide +kernel
theorem dX12_seeks_3 : decode cX12_seeks 3 = .ok (.bipush 7, 2) := by decide +kernel
theorem dX12_seeks_5 : decode cX12_seeks 5 = .ok (.invokevirtual 316, 3) := by decide +kernel
theorem dX12_seeks_8 : decode cX12_seeks 8 = .ok (.if_icmp .lt 14, 3) := by decide +kernel
theorem dX12_seeks_11 : decode cX12_seeks 11 = .ok (.iload_n 2, 1) := by decide +kernel
theorem dX12_seeks_12 : decode cX12_seeks 12 = .ok (.aload_n 0, 1) := by decide +kernel
theorem dX12_seeks_13 : decode cX12_seeks 13 = .ok (.iload_n 1, 1) := by decide +kernel
theorem dX12_seeks_14 : decode cX12_seeks 14 = .ok (.bipush 8, 2) := by decide +kernel
theorem dX12_seeks_16 : decode cX12_seeks 16 = .ok (.invokevirtual 316, 3) := by decide +kernel
theorem dX12_seeks_19 : decode cX12_seeks 19 = .ok (.if_icmp .le 5, 3) := by decide +kernel
theorem dX12_seeks_22 : decode cX12_seeks 22 = .ok (.iconst 0, 1) := by decide +kernel
theorem dX12_seeks_23 : decode cX12_seeks 23 = .ok (.ireturn, 1) := by decide +kernel
theorem dX12_seeks_24 : decode cX12_seeks 24 = .ok (.aload_n 0, 1) := by decide +kernel
theorem dX12_seeks_25 : decode cX12_seeks 25 = .ok (.getfield 36, 3) := by decide +kernel
theorem dX12_seeks_28 : decode cX12_seeks 28 = .ok (.iload_n 1, 1) := by decide +kernel
theorem dX12_seeks_29 : decode cX12_seeks 29 = .ok (.iaload, 1) := by decide +kernel
theorem dX12_seeks_30 : decode cX12_seeks 30 = .ok (.istore_n 3, 1) := by decide +kernel
theorem dX12_seeks_31 : decode cX12_seeks 31 = .ok (.aload_n 0, 1) := by decide +kernel
theorem dX12_seeks_32 : decode cX12_seeks 32 = .ok (.getfield 39, 3) := by decide +kernel
theorem dX12_seeks_35 : decode cX12_seeks 35 = .ok (.iload_n 1, 1) := by decide +kernel
theorem dX12_seeks_36 : decode cX12_seeks 36 = .ok (.iaload, 1) := by decide +kernel
theorem dX12_seeks_37 : decode cX12_seeks 37 = .ok (.istore 4, 2) := by decide +kernel
theorem dX12_seeks_39 : decode cX12_seeks 39 = .ok (.aload_n 0, 1) := by decide +kernel
theorem dX12_seeks_40 : decode cX12_seeks 40 = .ok (.getfield 42, 3) := by decide +kernel
theorem dX12_seeks_43 : decode cX12_seeks 43 = .ok (.iload_n 1, 1) := by decide +kernel
theorem dX12_seeks_44 : decode cX12_seeks 44 = .ok (.iaload, 1) := by decide +kernel
theorem dX12_seeks_45 : decode cX12_seeks 45 = .ok (.istore 5, 2) := by decide +kernel
theorem dX12_seeks_47 : decode cX12_seeks 47 = .ok (.aload_n 0, 1) := by decide +kernel
theorem dX12_seeks_48 : decode cX12_seeks 48 = .ok (.iload_n 1, 1) := by decide +kernel
theorem dX12_seeks_49 : decode cX12_seeks 49 = .ok (.invokevirtual 396, 3) := by decide +kernel
theorem dX12_seeks_52 : decode cX12_seeks 52 = .ok (.iconst 0, 1) := by decide +kernel
theorem dX12_seeks_53 : decode cX12_seeks 53 = .ok (.istore 6, 2) := by decide +kernel
theorem dX12_seeks_55 : decode cX12_seeks 55 = .ok (.aload_n 0, 1) := by decide +kernel
theorem dX12_seeks_56 : decode cX12_seeks 56 = .ok (.iload_n 1, 1) := by decide +kernel
theorem dX12_seeks_57 : decode cX12_seeks 57 = .ok (.iconst 4, 1) := by decide +kernel
theorem dX12_seeks_58 : decode cX12_seeks 58 = .ok (.invokevirtual 316, 3) := by decide +kernel
theorem dX12_seeks_61 : decode cX12_seeks 61 = .ok (.istore 7, 2) := by decide +kernel
theorem dX12_seeks_63 : decode cX12_seeks 63 = .ok (.iload 7, 2) := by decide +kernel
theorem dX12_seeks_65 : decode cX12_seeks 65 = .ok (.sipush 335, 3) := by decide +kernel
theorem dX12_seeks_68 : decode cX12_seeks 68 = .ok (.if_icmp .gt 66, 3) := by decide +kernel
theorem dX12_seeks_71 : decode cX12_seeks 71 = .ok (.iload 6, 2) := by decide +kernel
theorem dX12_seeks_73 : decode cX12_seeks 73 = .ok (.ifCond .ne 61, 3) := by decide +kernel
theorem dX12_seeks_76 : decode cX12_seeks 76 = .ok (.aload_n 0, 1) := by decide +kernel
theorem dX12_seeks_77 : decode cX12_seeks 77 = .ok (.aload_n 0, 1) := by decide +kernel
theorem dX12_seeks_78 : decode cX12_seeks 78 = .ok (.iload_n 1, 1) := by decide +kernel
theorem dX12_seeks_79 : decode cX12_seeks 79 = .ok (.iconst 1, 1) := by decide +kernel
theorem dX12_seeks_80 : decode cX12_seeks 80 = .ok (.invokevirtual 316, 3) := by decide +kernel
theorem dX12_seeks_83 : decode cX12_seeks 83 = .ok (.iload 7, 2) := by decide +kernel
theorem dX12_seeks_85 : decode cX12_seeks 85 = .ok (.invokevirtual 308, 3) := by decide +kernel
theorem dX12_seeks_88 : decode cX12_seeks 88 = .ok (.ifCond .eq 40, 3) := by decide +kernel
theorem dX12_seeks_91 : decode cX12_seeks 91 = .ok (.aload_n 0, 1) := by decide +kernel
theorem dX12_seeks_92 : decode cX12_seeks 92 = .ok (.iload_n 1, 1) := by decide +kernel
theorem dX12_seeks_93 : decode cX12_seeks 93 = .ok (.iload 7, 2) := by decide +kernel
theorem dX12_seeks_95 : decode cX12_seeks 95 = .ok (.iload_n 2, 1) := by decide +kernel
theorem dX12_seeks_96 : decode cX12_seeks 96 = .ok (.invokevirtual 322, 3) := by decide +kernel
theorem dX12_seeks_99 : decode cX12_seeks 99 = .ok (.iconst (-1), 1) := by decide +kernel
theorem dX12_seeks_100 : decode cX12_seeks 100 = .ok (.if_icmp .ne 6, 3) := by decide +kernel
theorem dX12_seeks_103 : decode cX12_seeks 103 = .ok (.goto 25, 3) := by decide +kernel
theorem dX12_seeks_106 : decode cX12_seeks 106 = .ok (.aload_n 0, 1) := by decide +kernel
theorem dX12_seeks_107 : decode cX12_seeks 107 = .ok (.iload_n 1, 1) := by decide +kernel
theorem dX12_seeks_108 : decode cX12_seeks 108 = .ok (.iconst 0, 1) := by decide +kernel
theorem dX12_seeks_109 : decode cX12_seeks 109 = .ok (.iload 7, 2) := by decide +kernel
theorem dX12_seeks_111 : decode cX12_seeks 111 = .ok (.iload_n 2, 1) := by decide +kernel
theorem dX12_seeks_112 : decode cX12_seeks 112 = .ok (.invokevirtual 383, 3) := by decide +kernel
theorem dX12_seeks_115 : decode cX12_seeks 115 = .ok (.aload_n 0, 1) := by decide +kernel
theorem dX12_seeks_116 : decode cX12_seeks 116 = .ok (.iload_n 1, 1) := by decide +kernel
theorem dX12_seeks_117 : decode cX12_seeks 117 = .ok (.invokevirtual 399, 3) := by decide +kernel
theorem dX12_seeks_120 : decode cX12_seeks 120 = .ok (.istore 6, 2) := by decide +kernel
theorem dX12_seeks_122 : decode cX12_seeks 122 = .ok (.aload_n 0, 1) := by decide +kernel
theorem dX12_seeks_123 : decode cX12_seeks 123 = .ok (.iload 7, 2) := by decide +kernel
theorem dX12_seeks_125 : decode cX12_seeks 125 = .ok (.putfield 402, 3) := by decide +kernel
theorem dX12_seeks_128 : decode cX12_seeks 128 = .ok (.iinc 7 1, 3) := by decide +kernel
theorem dX12_seeks_131 : decode cX12_seeks 131 = .ok (.goto (-68), 3) := by decide +kernel
theorem dX12_seeks_134 : decode cX12_seeks 134 = .ok (.aload_n 0, 1) := by decide +kernel
theorem dX12_seeks_135 : decode cX12_seeks 135 = .ok (.iload_n 1, 1) := by decide +kernel
theorem dX12_seeks_136 : decode cX12_seeks 136 = .ok (.iload_n 3, 1) := by decide +kernel
theorem dX12_seeks_137 : decode cX12_seeks 137 = .ok (.iload 4, 2) := by decide +kernel
theorem dX12_seeks_139 : decode cX12_seeks 139 = .ok (.iload 5, 2) := by decide +kernel
theorem dX12_seeks_141 : decode cX12_seeks 141 = .ok (.invokevirtual 383, 3) := by decide +kernel
theorem dX12_seeks_144 : decode cX12_seeks 144 = .ok (.iload 6, 2) := by decide +kernel
theorem dX12_seeks_146 : decode cX12_seeks 146 = .ok (.ireturn, 1) := by decide +kernel
theorem dX12_seeksItself_0 : decode cX12_seeksItself 0 = .ok (.aload_n 0, 1) := by decide +kernel
theorem dX12_seeksItself_1 : decode cX12_seeksItself 1 = .ok (.iload_n 1, 1) := by decide +kernel
theorem dX12_seeksItself_2 : decode cX12_seeksItself 2 = .ok (.bipush 8, 2) := by decide +kernel
theorem dX12_seeksItself_4 : decode cX12_seeksItself 4 = .ok (.invokevirtual 316, 3) := by decide +kernel
theorem dX12_seeksItself_7 : decode cX12_seeksItself 7 = .ok (.istore_n 2, 1) := by decide +kernel
theorem dX12_seeksItself_8 : decode cX12_seeksItself 8 = .ok (.iload_n 2, 1) := by decide +kernel
theorem dX12_seeksItself_9 : decode cX12_seeksItself 9 = .ok (.aload_n 0, 1) := by decide +kernel
theorem dX12_seeksItself_10 : decode cX12_seeksItself 10 = .ok (.iload_n 1, 1) := by decide +kernel
theorem dX12_seeksItself_11 : decode cX12_seeksItself 11 = .ok (.bipush 7, 2) := by decide +kernel
theorem dX12_seeksItself_13 : decode cX12_seeksItself 13 = .ok (.invokevirtual 316, 3) := by decide +kernel
theorem dX12_seeksItself_16 : decode cX12_seeksItself 16 = .ok (.if_icmp .lt 20, 3) := by decide +kernel
theorem dX12_seeksItself_19 : decode cX12_seeksItself 19 = .ok (.aload_n 0, 1) := by decide +kernel
theorem dX12_seeksItself_20 : decode cX12_seeksItself 20 = .ok (.iload_n 1, 1) := by decide +kernel
theorem dX12_seeksItself_21 : decode cX12_seeksItself 21 = .ok (.iload_n 2, 1) := by decide +kernel
theorem dX12_seeksItself_22 : decode cX12_seeksItself 22 = .ok (.invokevirtual 405, 3) := by decide +kernel
theorem dX12_seeksItself_25 : decode cX12_seeksItself 25 = .ok (.ifCond .eq 5, 3) := by decide +kernel
theorem dX12_seeksItself_28 : decode cX12_seeksItself 28 = .ok (.iload_n 2, 1) := by decide +kernel
theorem dX12_seeksItself_29 : decode cX12_seeksItself 29 = .ok (.ireturn, 1) := by decide +kernel
theorem dX12_seeksItself_30 : decode cX12_seeksItself 30 = .ok (.iinc 2 (-1), 3) := by decide +kernel
theorem dX12_seeksItself_33 : decode cX12_seeksItself 33 = .ok (.goto (-25), 3) := by decide +kernel
theorem dX12_seeksItself_36 : decode cX12_seeksItself 36 = .ok (.iconst (-1), 1) := by decide +kernel
theorem dX12_seeksItself_37 : decode cX12_seeksItself 37 = .ok (.ireturn, 1) := by decide +kernel
theorem dX12_laysItself_0 : decode cX12_laysItself 0 = .ok (.aload_n 0, 1) := by decide +kernel
theorem dX12_laysItself_1 : decode cX12_laysItself 1 = .ok (.iload_n 1, 1) := by decide +kernel
theorem dX12_laysItself_2 : decode cX12_laysItself 2 = .ok (.invokevirtual 408, 3) := by decide +kernel
theorem dX12_laysItself_5 : decode cX12_laysItself 5 = .ok (.istore_n 2, 1) := by decide +kernel
theorem dX12_laysItself_6 : decode cX12_laysItself 6 = .ok (.iload_n 2, 1) := by decide +kernel
theorem dX12_laysItself_7 : decode cX12_laysItself 7 = .ok (.iconst (-1), 1) := by decide +kernel
theorem dX12_laysItself_8 : decode cX12_laysItself 8 = .ok (.if_icmp .ne 5, 3) := by decide +kernel
theorem dX12_laysItself_11 : decode cX12_laysItself 11 = .ok (.iconst 0, 1) := by decide +kernel
theorem dX12_laysItself_12 : decode cX12_laysItself 12 = .ok (.ireturn, 1) := by decide +kernel
theorem dX12_laysItself_13 : decode cX12_laysItself 13 = .ok (.aload_n 0, 1) := by decide +kernel
theorem dX12_laysItself_14 : decode cX12_laysItself 14 = .ok (.iload_n 1, 1) := by decide +kernel
theorem dX12_laysItself_15 : decode cX12_laysItself 15 = .ok (.aload_n 0, 1) := by decide +kernel
theorem dX12_laysItself_16 : decode cX12_laysItself 16 = .ok (.getfield 393, 3) := by decide +kernel
theorem dX12_laysItself_19 : decode cX12_laysItself 19 = .ok (.aload_n 0, 1) := by decide +kernel
theorem dX12_laysItself_20 : decode cX12_laysItself 20 = .ok (.getfield 402, 3) := by decide +kernel
theorem dX12_laysItself_23 : decode cX12_laysItself 23 = .ok (.iload_n 2, 1) := by decide +kernel
theorem dX12_laysItself_24 : decode cX12_laysItself 24 = .ok (.invokevirtual 383, 3) := by decide +kernel
theorem dX12_laysItself_27 : decode cX12_laysItself 27 = .ok (.iconst 1, 1) := by decide +kernel
theorem dX12_laysItself_28 : decode cX12_laysItself 28 = .ok (.ireturn, 1) := by decide +kernel
theorem dX12_earliest_0 : decode cX12_earliest 0 = .ok (.aload_n 0, 1) := by decide +kernel
theorem dX12_earliest_1 : decode cX12_earliest 1 = .ok (.iload_n 1, 1) := by decide +kernel
theorem dX12_earliest_2 : decode cX12_earliest 2 = .ok (.invokevirtual 297, 3) := by decide +kernel
theorem dX12_earliest_5 : decode cX12_earliest 5 = .ok (.ifCond .eq 27, 3) := by decide +kernel
theorem dX12_earliest_8 : decode cX12_earliest 8 = .ok (.iload_n 2, 1) := by decide +kernel
theorem dX12_earliest_9 : decode cX12_earliest 9 = .ok (.i2l, 1) := by decide +kernel
theorem dX12_earliest_10 : decode cX12_earliest 10 = .ok (.lconst 1, 1) := by decide +kernel
theorem dX12_earliest_11 : decode cX12_earliest 11 = .ok (.ldc2_w 292, 3) := by decide +kernel
theorem dX12_earliest_14 : decode cX12_earliest 14 = .ok (.invokestatic 99, 3) := by decide +kernel
theorem dX12_earliest_17 : decode cX12_earliest 17 = .ok (.ifCond .eq 15, 3) := by decide +kernel
theorem dX12_earliest_20 : decode cX12_earliest 20 = .ok (.iload_n 3, 1) := by decide +kernel
theorem dX12_earliest_21 : decode cX12_earliest 21 = .ok (.i2l, 1) := by decide +kernel
theorem dX12_earliest_22 : decode cX12_earliest 22 = .ok (.lconst 0, 1) := by decide +kernel
theorem dX12_earliest_23 : decode cX12_earliest 23 = .ok (.ldc2_w 261, 3) := by decide +kernel
theorem dX12_earliest_26 : decode cX12_earliest 26 = .ok (.invokestatic 99, 3) := by decide +kernel
theorem dX12_earliest_29 : decode cX12_earliest 29 = .ok (.ifCond .ne 5, 3) := by decide +kernel
theorem dX12_earliest_32 : decode cX12_earliest 32 = .ok (.iconst (-1), 1) := by decide +kernel
theorem dX12_earliest_33 : decode cX12_earliest 33 = .ok (.ireturn, 1) := by decide +kernel
theorem dX12_earliest_34 : decode cX12_earliest 34 = .ok (.aload_n 0, 1) := by decide +kernel
theorem dX12_earliest_35 : decode cX12_earliest 35 = .ok (.iload_n 1, 1) := by decide +kernel
theorem dX12_earliest_36 : decode cX12_earliest 36 = .ok (.iload_n 2, 1) := by decide +kernel
theorem dX12_earliest_37 : decode cX12_earliest 37 = .ok (.invokevirtual 405, 3) := by decide +kernel
theorem dX12_earliest_40 : decode cX12_earliest 40 = .ok (.ifCond .ne 6, 3) := by decide +kernel
theorem dX12_earliest_43 : decode cX12_earliest 43 = .ok (.bipush (-2), 2) := by decide +kernel
theorem dX12_earliest_45 : decode cX12_earliest 45 = .ok (.ireturn, 1) := by decide +kernel
theorem dX12_earliest_46 : decode cX12_earliest 46 = .ok (.iload_n 3, 1) := by decide +kernel
theorem dX12_earliest_47 : decode cX12_earliest 47 = .ok (.ifCond .ne 10, 3) := by decide +kernel
theorem dX12_earliest_50 : decode cX12_earliest 50 = .ok (.aload_n 0, 1) := by decide +kernel
theorem dX12_earliest_51 : decode cX12_earliest 51 = .ok (.getfield 402, 3) := by decide +kernel
theorem dX12_earliest_54 : decode cX12_earliest 54 = .ok (.goto 25, 3) := by decide +kernel
theorem dX12_earliest_57 : decode cX12_earliest 57 = .ok (.iload_n 3, 1) := by decide +kernel
theorem dX12_earliest_58 : decode cX12_earliest 58 = .ok (.iconst 1, 1) := by decide +kernel
theorem dX12_earliest_59 : decode cX12_earliest 59 = .ok (.if_icmp .ne 10, 3) := by decide +kernel
theorem dX12_earliest_62 : decode cX12_earliest 62 = .ok (.aload_n 0, 1) := by decide +kernel
theorem dX12_earliest_63 : decode cX12_earliest 63 = .ok (.getfield 393, 3) := by decide +kernel
theorem dX12_earliest_66 : decode cX12_earliest 66 = .ok (.goto 13, 3) := by decide +kernel
theorem dX12_earliest_69 : decode cX12_earliest 69 = .ok (.aload_n 0, 1) := by decide +kernel
theorem dX12_earliest_70 : decode cX12_earliest 70 = .ok (.iload_n 1, 1) := by decide +kernel
theorem dX12_earliest_71 : decode cX12_earliest 71 = .ok (.aload_n 0, 1) := by decide +kernel
theorem dX12_earliest_72 : decode cX12_earliest 72 = .ok (.getfield 402, 3) := by decide +kernel
theorem dX12_earliest_75 : decode cX12_earliest 75 = .ok (.iload_n 2, 1) := by decide +kernel
theorem dX12_earliest_76 : decode cX12_earliest 76 = .ok (.invokevirtual 322, 3) := by decide +kernel
theorem dX12_earliest_79 : decode cX12_earliest 79 = .ok (.ireturn, 1) := by decide +kernel
theorem dX12_puts_0 : decode cX12_puts 0 = .ok (.bipush 42, 2) := by decide +kernel
theorem dX12_puts_2 : decode cX12_puts 2 = .ok (.iload_n 1, 1) := by decide +kernel
theorem dX12_puts_3 : decode cX12_puts 3 = .ok (.imul, 1) := by decide +kernel
theorem dX12_puts_4 : decode cX12_puts 4 = .ok (.istore_n 2, 1) := by decide +kernel
theorem dX12_puts_5 : decode cX12_puts 5 = .ok (.iconst 0, 1) := by decide +kernel
theorem dX12_puts_6 : decode cX12_puts 6 = .ok (.istore_n 3, 1) := by decide +kernel
theorem dX12_puts_7 : decode cX12_puts 7 = .ok (.iload_n 3, 1) := by decide +kernel
theorem dX12_puts_8 : decode cX12_puts 8 = .ok (.bipush 14, 2) := by decide +kernel
theorem dX12_puts_10 : decode cX12_puts 10 = .ok (.if_icmp .ge 61, 3) := by decide +kernel
theorem dX12_puts_13 : decode cX12_puts 13 = .ok (.aload_n 0, 1) := by decide +kernel
theorem dX12_puts_14 : decode cX12_puts 14 = .ok (.getfield 57, 3) := by decide +kernel
theorem dX12_puts_17 : decode cX12_puts 17 = .ok (.iload_n 2, 1) := by decide +kernel
theorem dX12_puts_18 : decode cX12_puts 18 = .ok (.iconst 3, 1) := by decide +kernel
theorem dX12_puts_19 : decode cX12_puts 19 = .ok (.iload_n 3, 1) := by decide +kernel
theorem dX12_puts_20 : decode cX12_puts 20 = .ok (.imul, 1) := by decide +kernel
theorem dX12_puts_21 : decode cX12_puts 21 = .ok (.iadd, 1) := by decide +kernel
theorem dX12_puts_22 : decode cX12_puts 22 = .ok (.aload_n 0, 1) := by decide +kernel
theorem dX12_puts_23 : decode cX12_puts 23 = .ok (.getfield 36, 3) := by decide +kernel
theorem dX12_puts_26 : decode cX12_puts 26 = .ok (.iload_n 3, 1) := by decide +kernel
theorem dX12_puts_27 : decode cX12_puts 27 = .ok (.iaload, 1) := by decide +kernel
theorem dX12_puts_28 : decode cX12_puts 28 = .ok (.iastore, 1) := by decide +kernel
theorem dX12_puts_29 : decode cX12_puts 29 = .ok (.aload_n 0, 1) := by decide +kernel
theorem dX12_puts_30 : decode cX12_puts 30 = .ok (.getfield 57, 3) := by decide +kernel
theorem dX12_puts_33 : decode cX12_puts 33 = .ok (.iload_n 2, 1) := by decide +kernel
theorem dX12_puts_34 : decode cX12_puts 34 = .ok (.iconst 3, 1) := by decide +kernel
theorem dX12_puts_35 : decode cX12_puts 35 = .ok (.iload_n 3, 1) := by decide +kernel
theorem dX12_puts_36 : decode cX12_puts 36 = .ok (.imul, 1) := by decide +kernel
theorem dX12_puts_37 : decode cX12_puts 37 = .ok (.iadd, 1) := by decide +kernel
theorem dX12_puts_38 : decode cX12_puts 38 = .ok (.iconst 1, 1) := by decide +kernel
theorem dX12_puts_39 : decode cX12_puts 39 = .ok (.iadd, 1) := by decide +kernel
theorem dX12_puts_40 : decode cX12_puts 40 = .ok (.aload_n 0, 1) := by decide +kernel
theorem dX12_puts_41 : decode cX12_puts 41 = .ok (.getfield 39, 3) := by decide +kernel
theorem dX12_puts_44 : decode cX12_puts 44 = .ok (.iload_n 3, 1) := by decide +kernel
theorem dX12_puts_45 : decode cX12_puts 45 = .ok (.iaload, 1) := by decide +kernel
theorem dX12_puts_46 : decode cX12_puts 46 = .ok (.iastore, 1) := by decide +kernel
theorem dX12_puts_47 : decode cX12_puts 47 = .ok (.aload_n 0, 1) := by decide +kernel
theorem dX12_puts_48 : decode cX12_puts 48 = .ok (.getfield 57, 3) := by decide +kernel
theorem dX12_puts_51 : decode cX12_puts 51 = .ok (.iload_n 2, 1) := by decide +kernel
theorem dX12_puts_52 : decode cX12_puts 52 = .ok (.iconst 3, 1) := by decide +kernel
theorem dX12_puts_53 : decode cX12_puts 53 = .ok (.iload_n 3, 1) := by decide +kernel
theorem dX12_puts_54 : decode cX12_puts 54 = .ok (.imul, 1) := by decide +kernel
theorem dX12_puts_55 : decode cX12_puts 55 = .ok (.iadd, 1) := by decide +kernel
theorem dX12_puts_56 : decode cX12_puts 56 = .ok (.iconst 2, 1) := by decide +kernel
theorem dX12_puts_57 : decode cX12_puts 57 = .ok (.iadd, 1) := by decide +kernel
theorem dX12_puts_58 : decode cX12_puts 58 = .ok (.aload_n 0, 1) := by decide +kernel
theorem dX12_puts_59 : decode cX12_puts 59 = .ok (.getfield 42, 3) := by decide +kernel
theorem dX12_puts_62 : decode cX12_puts 62 = .ok (.iload_n 3, 1) := by decide +kernel
theorem dX12_puts_63 : decode cX12_puts 63 = .ok (.iaload, 1) := by decide +kernel
theorem dX12_puts_64 : decode cX12_puts 64 = .ok (.iastore, 1) := by decide +kernel
theorem dX12_puts_65 : decode cX12_puts 65 = .ok (.iinc 3 1, 3) := by decide +kernel
theorem dX12_puts_68 : decode cX12_puts 68 = .ok (.goto (-61), 3) := by decide +kernel
theorem dX12_puts_71 : decode cX12_puts 71 = .ok (.return_, 1) := by decide +kernel
theorem dX12_takes_0 : decode cX12_takes 0 = .ok (.bipush 42, 2) := by decide +kernel
theorem dX12_takes_2 : decode cX12_takes 2 = .ok (.iload_n 1, 1) := by decide +kernel
theorem dX12_takes_3 : decode cX12_takes 3 = .ok (.imul, 1) := by decide +kernel
theorem dX12_takes_4 : decode cX12_takes 4 = .ok (.istore_n 2, 1) := by decide +kernel
theorem dX12_takes_5 : decode cX12_takes 5 = .ok (.iconst 0, 1) := by decide +kernel
theorem dX12_takes_6 : decode cX12_takes 6 = .ok (.istore_n 3, 1) := by decide +kernel
theorem dX12_takes_7 : decode cX12_takes 7 = .ok (.iload_n 3, 1) := by decide +kernel
theorem dX12_takes_8 : decode cX12_takes 8 = .ok (.aload_n 0, 1) := by decide +kernel
theorem dX12_takes_9 : decode cX12_takes 9 = .ok (.getfield 13, 3) := by decide +kernel
theorem dX12_takes_12 : decode cX12_takes 12 = .ok (.bipush 9, 2) := by decide +kernel
theorem dX12_takes_14 : decode cX12_takes 14 = .ok (.iaload, 1) := by decide +kernel
theorem dX12_takes_15 : decode cX12_takes 15 = .ok (.if_icmp .ge 48, 3) := by decide +kernel
theorem dX12_takes_18 : decode cX12_takes 18 = .ok (.aload_n 0, 1) := by decide +kernel
theorem dX12_takes_19 : decode cX12_takes 19 = .ok (.iload_n 3, 1) := by decide +kernel
theorem dX12_takes_20 : decode cX12_takes 20 = .ok (.aload_n 0, 1) := by decide +kernel
theorem dX12_takes_21 : decode cX12_takes 21 = .ok (.getfield 57, 3) := by decide +kernel
theorem dX12_takes_24 : decode cX12_takes 24 = .ok (.iload_n 2, 1) := by decide +kernel
theorem dX12_takes_25 : decode cX12_takes 25 = .ok (.iconst 3, 1) := by decide +kernel
theorem dX12_takes_26 : decode cX12_takes 26 = .ok (.iload_n 3, 1) := by decide +kernel
theorem dX12_takes_27 : decode cX12_takes 27 = .ok (.imul, 1) := by decide +kernel
theorem dX12_takes_28 : decode cX12_takes 28 = .ok (.iadd, 1) := by decide +kernel
theorem dX12_takes_29 : decode cX12_takes 29 = .ok (.iaload, 1) := by decide +kernel
theorem dX12_takes_30 : decode cX12_takes 30 = .ok (.aload_n 0, 1) := by decide +kernel
theorem dX12_takes_31 : decode cX12_takes 31 = .ok (.getfield 57, 3) := by decide +kernel
theorem dX12_takes_34 : decode cX12_takes 34 = .ok (.iload_n 2, 1) := by decide +kernel
theorem dX12_takes_35 : decode cX12_takes 35 = .ok (.iconst 3, 1) := by decide +kernel
theorem dX12_takes_36 : decode cX12_takes 36 = .ok (.iload_n 3, 1) := by decide +kernel
theorem dX12_takes_37 : decode cX12_takes 37 = .ok (.imul, 1) := by decide +kernel
theorem dX12_takes_38 : decode cX12_takes 38 = .ok (.iadd, 1) := by decide +kernel
theorem dX12_takes_39 : decode cX12_takes 39 = .ok (.iconst 1, 1) := by decide +kernel
theorem dX12_takes_40 : decode cX12_takes 40 = .ok (.iadd, 1) := by decide +kernel
theorem dX12_takes_41 : decode cX12_takes 41 = .ok (.iaload, 1) := by decide +kernel
theorem dX12_takes_42 : decode cX12_takes 42 = .ok (.aload_n 0, 1) := by decide +kernel
theorem dX12_takes_43 : decode cX12_takes 43 = .ok (.getfield 57, 3) := by decide +kernel
theorem dX12_takes_46 : decode cX12_takes 46 = .ok (.iload_n 2, 1) := by decide +kernel
theorem dX12_takes_47 : decode cX12_takes 47 = .ok (.iconst 3, 1) := by decide +kernel
theorem dX12_takes_48 : decode cX12_takes 48 = .ok (.iload_n 3, 1) := by decide +kernel
theorem dX12_takes_49 : decode cX12_takes 49 = .ok (.imul, 1) := by decide +kernel
theorem dX12_takes_50 : decode cX12_takes 50 = .ok (.iadd, 1) := by decide +kernel
theorem dX12_takes_51 : decode cX12_takes 51 = .ok (.iconst 2, 1) := by decide +kernel
theorem dX12_takes_52 : decode cX12_takes 52 = .ok (.iadd, 1) := by decide +kernel
theorem dX12_takes_53 : decode cX12_takes 53 = .ok (.iaload, 1) := by decide +kernel
theorem dX12_takes_54 : decode cX12_takes 54 = .ok (.invokevirtual 383, 3) := by decide +kernel
theorem dX12_takes_57 : decode cX12_takes 57 = .ok (.iinc 3 1, 3) := by decide +kernel
theorem dX12_takes_60 : decode cX12_takes 60 = .ok (.goto (-53), 3) := by decide +kernel
theorem dX12_takes_63 : decode cX12_takes 63 = .ok (.return_, 1) := by decide +kernel
theorem dX12_copies_0 : decode cX12_copies 0 = .ok (.iconst 0, 1) := by decide +kernel
theorem dX12_copies_1 : decode cX12_copies 1 = .ok (.istore_n 3, 1) := by decide +kernel
theorem dX12_copies_2 : decode cX12_copies 2 = .ok (.iload_n 3, 1) := by decide +kernel
theorem dX12_copies_3 : decode cX12_copies 3 = .ok (.bipush 42, 2) := by decide +kernel
theorem dX12_copies_5 : decode cX12_copies 5 = .ok (.if_icmp .ge 31, 3) := by decide +kernel
theorem dX12_copies_8 : decode cX12_copies 8 = .ok (.aload_n 0, 1) := by decide +kernel
theorem dX12_copies_9 : decode cX12_copies 9 = .ok (.getfield 57, 3) := by decide +kernel
theorem dX12_copies_12 : decode cX12_copies 12 = .ok (.bipush 42, 2) := by decide +kernel
theorem dX12_copies_14 : decode cX12_copies 14 = .ok (.iload_n 2, 1) := by decide +kernel
theorem dX12_copies_15 : decode cX12_copies 15 = .ok (.imul, 1) := by decide +kernel
theorem dX12_copies_16 : decode cX12_copies 16 = .ok (.iload_n 3, 1) := by decide +kernel
theorem dX12_copies_17 : decode cX12_copies 17 = .ok (.iadd, 1) := by decide +kernel
theorem dX12_copies_18 : decode cX12_copies 18 = .ok (.aload_n 0, 1) := by decide +kernel
theorem dX12_copies_19 : decode cX12_copies 19 = .ok (.getfield 57, 3) := by decide +kernel
theorem dX12_copies_22 : decode cX12_copies 22 = .ok (.bipush 42, 2) := by decide +kernel
theorem dX12_copies_24 : decode cX12_copies 24 = .ok (.iload_n 1, 1) := by decide +kernel
theorem dX12_copies_25 : decode cX12_copies 25 = .ok (.imul, 1) := by decide +kernel
theorem dX12_copies_26 : decode cX12_copies 26 = .ok (.iload_n 3, 1) := by decide +kernel
theorem dX12_copies_27 : decode cX12_copies 27 = .ok (.iadd, 1) := by decide +kernel
theorem dX12_copies_28 : decode cX12_copies 28 = .ok (.iaload, 1) := by decide +kernel
theorem dX12_copies_29 : decode cX12_copies 29 = .ok (.iastore, 1) := by decide +kernel
theorem dX12_copies_30 : decode cX12_copies 30 = .ok (.iinc 3 1, 3) := by decide +kernel
theorem dX12_copies_33 : decode cX12_copies 33 = .ok (.goto (-31), 3) := by decide +kernel
theorem dX12_copies_36 : decode cX12_copies 36 = .ok (.return_, 1) := by decide +kernel
theorem dX12_keeps_0 : decode cX12_keeps 0 = .ok (.aload_n 0, 1) := by decide +kernel
theorem dX12_keeps_1 : decode cX12_keeps 1 = .ok (.getfield 252, 3) := by decide +kernel
theorem dX12_keeps_4 : decode cX12_keeps 4 = .ok (.bipush 12, 2) := by decide +kernel
theorem dX12_keeps_6 : decode cX12_keeps 6 = .ok (.if_icmp .ne 31, 3) := by decide +kernel
theorem dX12_keeps_9 : decode cX12_keeps 9 = .ok (.iconst 1, 1) := by decide +kernel
theorem dX12_keeps_10 : decode cX12_keeps 10 = .ok (.istore_n 1, 1) := by decide +kernel
theorem dX12_keeps_11 : decode cX12_keeps 11 = .ok (.iload_n 1, 1) := by decide +kernel
theorem dX12_keeps_12 : decode cX12_keeps 12 = .ok (.bipush 12, 2) := by decide +kernel
theorem dX12_keeps_14 : decode cX12_keeps 14 = .ok (.if_icmp .ge 17, 3) := by decide +kernel
theorem dX12_keeps_17 : decode cX12_keeps 17 = .ok (.aload_n 0, 1) := by decide +kernel
theorem dX12_keeps_18 : decode cX12_keeps 18 = .ok (.iload_n 1, 1) := by decide +kernel
theorem dX12_keeps_19 : decode cX12_keeps 19 = .ok (.iload_n 1, 1) := by decide +kernel
theorem dX12_keeps_20 : decode cX12_keeps 20 = .ok (.iconst 1, 1) := by decide +kernel
theorem dX12_keeps_21 : decode cX12_keeps 21 = .ok (.isub, 1) := by decide +kernel
theorem dX12_keeps_22 : decode cX12_keeps 22 = .ok (.invokevirtual 411, 3) := by decide +kernel
theorem dX12_keeps_25 : decode cX12_keeps 25 = .ok (.iinc 1 1, 3) := by decide +kernel
theorem dX12_keeps_28 : decode cX12_keeps 28 = .ok (.goto (-17), 3) := by decide +kernel
theorem dX12_keeps_31 : decode cX12_keeps 31 = .ok (.aload_n 0, 1) := by decide +kernel
theorem dX12_keeps_32 : decode cX12_keeps 32 = .ok (.bipush 11, 2) := by decide +kernel
theorem dX12_keeps_34 : decode cX12_keeps 34 = .ok (.putfield 252, 3) := by decide +kernel
theorem dX12_keeps_37 : decode cX12_keeps 37 = .ok (.aload_n 0, 1) := by decide +kernel
theorem dX12_keeps_38 : decode cX12_keeps 38 = .ok (.bipush 16, 2) := by decide +kernel
theorem dX12_keeps_40 : decode cX12_keeps 40 = .ok (.aload_n 0, 1) := by decide +kernel
theorem dX12_keeps_41 : decode cX12_keeps 41 = .ok (.getfield 252, 3) := by decide +kernel
theorem dX12_keeps_44 : decode cX12_keeps 44 = .ok (.invokevirtual 411, 3) := by decide +kernel
theorem dX12_keeps_47 : decode cX12_keeps 47 = .ok (.aload_n 0, 1) := by decide +kernel
theorem dX12_keeps_48 : decode cX12_keeps 48 = .ok (.aload_n 0, 1) := by decide +kernel
theorem dX12_keeps_49 : decode cX12_keeps 49 = .ok (.getfield 252, 3) := by decide +kernel
theorem dX12_keeps_52 : decode cX12_keeps 52 = .ok (.iconst 1, 1) := by decide +kernel
theorem dX12_keeps_53 : decode cX12_keeps 53 = .ok (.iadd, 1) := by decide +kernel
theorem dX12_keeps_54 : decode cX12_keeps 54 = .ok (.putfield 252, 3) := by decide +kernel
theorem dX12_keeps_57 : decode cX12_keeps 57 = .ok (.return_, 1) := by decide +kernel
theorem dX12_put_0 : decode cX12_put 0 = .ok (.aload_n 0, 1) := by decide +kernel
theorem dX12_put_1 : decode cX12_put 1 = .ok (.iload_n 1, 1) := by decide +kernel
theorem dX12_put_2 : decode cX12_put 2 = .ok (.invokevirtual 297, 3) := by decide +kernel
theorem dX12_put_5 : decode cX12_put 5 = .ok (.ifCond .eq 11, 3) := by decide +kernel
theorem dX12_put_8 : decode cX12_put 8 = .ok (.aload_n 0, 1) := by decide +kernel
theorem dX12_put_9 : decode cX12_put 9 = .ok (.iload_n 1, 1) := by decide +kernel
theorem dX12_put_10 : decode cX12_put 10 = .ok (.invokevirtual 326, 3) := by decide +kernel
theorem dX12_put_13 : decode cX12_put 13 = .ok (.ifCond .eq 5, 3) := by decide +kernel
theorem dX12_put_16 : decode cX12_put 16 = .ok (.iconst (-1), 1) := by decide +kernel
theorem dX12_put_17 : decode cX12_put 17 = .ok (.ireturn, 1) := by decide +kernel
theorem dX12_put_18 : decode cX12_put 18 = .ok (.aload_n 0, 1) := by decide +kernel
theorem dX12_put_19 : decode cX12_put 19 = .ok (.iload_n 1, 1) := by decide +kernel
theorem dX12_put_20 : decode cX12_put 20 = .ok (.iload_n 2, 1) := by decide +kernel
theorem dX12_put_21 : decode cX12_put 21 = .ok (.i2l, 1) := by decide +kernel
theorem dX12_put_22 : decode cX12_put 22 = .ok (.iload_n 3, 1) := by decide +kernel
theorem dX12_put_23 : decode cX12_put 23 = .ok (.i2l, 1) := by decide +kernel
theorem dX12_put_24 : decode cX12_put 24 = .ok (.iload 4, 2) := by decide +kernel
theorem dX12_put_26 : decode cX12_put 26 = .ok (.invokevirtual 390, 3) := by decide +kernel
theorem dX12_put_29 : decode cX12_put 29 = .ok (.istore 5, 2) := by decide +kernel
theorem dX12_put_31 : decode cX12_put 31 = .ok (.iload 5, 2) := by decide +kernel
theorem dX12_put_33 : decode cX12_put 33 = .ok (.ifCond .le 8, 3) := by decide +kernel
theorem dX12_put_36 : decode cX12_put 36 = .ok (.iconst (-1), 1) := by decide +kernel
theorem dX12_put_37 : decode cX12_put 37 = .ok (.iload 5, 2) := by decide +kernel
theorem dX12_put_39 : decode cX12_put 39 = .ok (.isub, 1) := by decide +kernel
theorem dX12_put_40 : decode cX12_put 40 = .ok (.ireturn, 1) := by decide +kernel
theorem dX12_put_41 : decode cX12_put 41 = .ok (.aload_n 0, 1) := by decide +kernel
theorem dX12_put_42 : decode cX12_put 42 = .ok (.bipush 16, 2) := by decide +kernel
theorem dX12_put_44 : decode cX12_put 44 = .ok (.invokevirtual 414, 3) := by decide +kernel
theorem dX12_put_47 : decode cX12_put 47 = .ok (.aload_n 0, 1) := by decide +kernel
theorem dX12_put_48 : decode cX12_put 48 = .ok (.invokevirtual 417, 3) := by decide +kernel
theorem dX12_put_51 : decode cX12_put 51 = .ok (.aload_n 0, 1) := by decide +kernel
theorem dX12_put_52 : decode cX12_put 52 = .ok (.iload_n 1, 1) := by decide +kernel
theorem dX12_put_53 : decode cX12_put 53 = .ok (.iload_n 2, 1) := by decide +kernel
theorem dX12_put_54 : decode cX12_put 54 = .ok (.iload_n 3, 1) := by decide +kernel
theorem dX12_put_55 : decode cX12_put 55 = .ok (.iload 4, 2) := by decide +kernel
theorem dX12_put_57 : decode cX12_put 57 = .ok (.invokevirtual 383, 3) := by decide +kernel
theorem dX12_put_60 : decode cX12_put 60 = .ok (.aload_n 0, 1) := by decide +kernel
theorem dX12_put_61 : decode cX12_put 61 = .ok (.getfield 48, 3) := by decide +kernel
theorem dX12_put_64 : decode cX12_put 64 = .ok (.iload_n 1, 1) := by decide +kernel
theorem dX12_put_65 : decode cX12_put 65 = .ok (.iaload, 1) := by decide +kernel
theorem dX12_put_66 : decode cX12_put 66 = .ok (.ireturn, 1) := by decide +kernel
theorem dX12_itself_0 : decode cX12_itself 0 = .ok (.aload_n 0, 1) := by decide +kernel
theorem dX12_itself_1 : decode cX12_itself 1 = .ok (.iload_n 1, 1) := by decide +kernel
theorem dX12_itself_2 : decode cX12_itself 2 = .ok (.invokevirtual 297, 3) := by decide +kernel
theorem dX12_itself_5 : decode cX12_itself 5 = .ok (.ifCond .eq 11, 3) := by decide +kernel
theorem dX12_itself_8 : decode cX12_itself 8 = .ok (.aload_n 0, 1) := by decide +kernel
theorem dX12_itself_9 : decode cX12_itself 9 = .ok (.iload_n 1, 1) := by decide +kernel
theorem dX12_itself_10 : decode cX12_itself 10 = .ok (.invokevirtual 326, 3) := by decide +kernel
theorem dX12_itself_13 : decode cX12_itself 13 = .ok (.ifCond .eq 5, 3) := by decide +kernel
theorem dX12_itself_16 : decode cX12_itself 16 = .ok (.iconst (-1), 1) := by decide +kernel
theorem dX12_itself_17 : decode cX12_itself 17 = .ok (.ireturn, 1) := by decide +kernel
theorem dX12_itself_18 : decode cX12_itself 18 = .ok (.aload_n 0, 1) := by decide +kernel
theorem dX12_itself_19 : decode cX12_itself 19 = .ok (.bipush 16, 2) := by decide +kernel
theorem dX12_itself_21 : decode cX12_itself 21 = .ok (.invokevirtual 414, 3) := by decide +kernel
theorem dX12_itself_24 : decode cX12_itself 24 = .ok (.aload_n 0, 1) := by decide +kernel
theorem dX12_itself_25 : decode cX12_itself 25 = .ok (.iload_n 1, 1) := by decide +kernel
theorem dX12_itself_26 : decode cX12_itself 26 = .ok (.invokevirtual 420, 3) := by decide +kernel
theorem dX12_itself_29 : decode cX12_itself 29 = .ok (.ifCond .ne 6, 3) := by decide +kernel
theorem dX12_itself_32 : decode cX12_itself 32 = .ok (.bipush (-2), 2) := by decide +kernel
theorem dX12_itself_34 : decode cX12_itself 34 = .ok (.ireturn, 1) := by decide +kernel
theorem dX12_itself_35 : decode cX12_itself 35 = .ok (.aload_n 0, 1) := by decide +kernel
theorem dX12_itself_36 : decode cX12_itself 36 = .ok (.invokevirtual 417, 3) := by decide +kernel
theorem dX12_itself_39 : decode cX12_itself 39 = .ok (.aload_n 0, 1) := by decide +kernel
theorem dX12_itself_40 : decode cX12_itself 40 = .ok (.getfield 39, 3) := by decide +kernel
theorem dX12_itself_43 : decode cX12_itself 43 = .ok (.iload_n 1, 1) := by decide +kernel
theorem dX12_itself_44 : decode cX12_itself 44 = .ok (.iaload, 1) := by decide +kernel
theorem dX12_itself_45 : decode cX12_itself 45 = .ok (.ireturn, 1) := by decide +kernel
theorem dX12_away_0 : decode cX12_away 0 = .ok (.aload_n 0, 1) := by decide +kernel
theorem dX12_away_1 : decode cX12_away 1 = .ok (.iload_n 1, 1) := by decide +kernel
theorem dX12_away_2 : decode cX12_away 2 = .ok (.invokevirtual 297, 3) := by decide +kernel
theorem dX12_away_5 : decode cX12_away 5 = .ok (.ifCond .eq 11, 3) := by decide +kernel
theorem dX12_away_8 : decode cX12_away 8 = .ok (.aload_n 0, 1) := by decide +kernel
theorem dX12_away_9 : decode cX12_away 9 = .ok (.iload_n 1, 1) := by decide +kernel
theorem dX12_away_10 : decode cX12_away 10 = .ok (.invokevirtual 326, 3) := by decide +kernel
theorem dX12_away_13 : decode cX12_away 13 = .ok (.ifCond .ne 5, 3) := by decide +kernel
theorem dX12_away_16 : decode cX12_away 16 = .ok (.iconst 0, 1) := by decide +kernel
theorem dX12_away_17 : decode cX12_away 17 = .ok (.ireturn, 1) := by decide +kernel
theorem dX12_away_18 : decode cX12_away 18 = .ok (.aload_n 0, 1) := by decide +kernel
theorem dX12_away_19 : decode cX12_away 19 = .ok (.bipush 16, 2) := by decide +kernel
theorem dX12_away_21 : decode cX12_away 21 = .ok (.invokevirtual 414, 3) := by decide +kernel
theorem dX12_away_24 : decode cX12_away 24 = .ok (.aload_n 0, 1) := by decide +kernel
theorem dX12_away_25 : decode cX12_away 25 = .ok (.invokevirtual 417, 3) := by decide +kernel
theorem dX12_away_28 : decode cX12_away 28 = .ok (.aload_n 0, 1) := by decide +kernel
theorem dX12_away_29 : decode cX12_away 29 = .ok (.iload_n 1, 1) := by decide +kernel
theorem dX12_away_30 : decode cX12_away 30 = .ok (.iconst 0, 1) := by decide +kernel
theorem dX12_away_31 : decode cX12_away 31 = .ok (.iconst 0, 1) := by decide +kernel
theorem dX12_away_32 : decode cX12_away 32 = .ok (.iconst 0, 1) := by decide +kernel
theorem dX12_away_33 : decode cX12_away 33 = .ok (.invokevirtual 383, 3) := by decide +kernel
theorem dX12_away_36 : decode cX12_away 36 = .ok (.iconst 1, 1) := by decide +kernel
theorem dX12_away_37 : decode cX12_away 37 = .ok (.ireturn, 1) := by decide +kernel
theorem dX12_move_0 : decode cX12_move 0 = .ok (.aload_n 0, 1) := by decide +kernel
theorem dX12_move_1 : decode cX12_move 1 = .ok (.iload_n 1, 1) := by decide +kernel
theorem dX12_move_2 : decode cX12_move 2 = .ok (.invokevirtual 297, 3) := by decide +kernel
theorem dX12_move_5 : decode cX12_move 5 = .ok (.ifCond .eq 19, 3) := by decide +kernel
theorem dX12_move_8 : decode cX12_move 8 = .ok (.aload_n 0, 1) := by decide +kernel
theorem dX12_move_9 : decode cX12_move 9 = .ok (.iload_n 1, 1) := by decide +kernel
theorem dX12_move_10 : decode cX12_move 10 = .ok (.invokevirtual 326, 3) := by decide +kernel
theorem dX12_move_13 : decode cX12_move 13 = .ok (.ifCond .eq 11, 3) := by decide +kernel
theorem dX12_move_16 : decode cX12_move 16 = .ok (.iload_n 2, 1) := by decide +kernel
theorem dX12_move_17 : decode cX12_move 17 = .ok (.ifCond .ne 9, 3) := by decide +kernel
theorem dX12_move_20 : decode cX12_move 20 = .ok (.iload_n 3, 1) := by decide +kernel
theorem dX12_move_21 : decode cX12_move 21 = .ok (.ifCond .ne 5, 3) := by decide +kernel
theorem dX12_move_24 : decode cX12_move 24 = .ok (.iconst (-1), 1) := by decide +kernel
theorem dX12_move_25 : decode cX12_move 25 = .ok (.ireturn, 1) := by decide +kernel
theorem dX12_move_26 : decode cX12_move 26 = .ok (.aload_n 0, 1) := by decide +kernel
theorem dX12_move_27 : decode cX12_move 27 = .ok (.iload_n 1, 1) := by decide +kernel
theorem dX12_move_28 : decode cX12_move 28 = .ok (.aload_n 0, 1) := by decide +kernel
theorem dX12_move_29 : decode cX12_move 29 = .ok (.getfield 36, 3) := by decide +kernel
theorem dX12_move_32 : decode cX12_move 32 = .ok (.iload_n 1, 1) := by decide +kernel
theorem dX12_move_33 : decode cX12_move 33 = .ok (.iaload, 1) := by decide +kernel
theorem dX12_move_34 : decode cX12_move 34 = .ok (.i2l, 1) := by decide +kernel
theorem dX12_move_35 : decode cX12_move 35 = .ok (.iload_n 2, 1) := by decide +kernel
theorem dX12_move_36 : decode cX12_move 36 = .ok (.i2l, 1) := by decide +kernel
theorem dX12_move_37 : decode cX12_move 37 = .ok (.ladd, 1) := by decide +kernel
theorem dX12_move_38 : decode cX12_move 38 = .ok (.aload_n 0, 1) := by decide +kernel
theorem dX12_move_39 : decode cX12_move 39 = .ok (.getfield 39, 3) := by decide +kernel
theorem dX12_move_42 : decode cX12_move 42 = .ok (.iload_n 1, 1) := by decide +kernel
theorem dX12_move_43 : decode cX12_move 43 = .ok (.iaload, 1) := by decide +kernel
theorem dX12_move_44 : decode cX12_move 44 = .ok (.i2l, 1) := by decide +kernel
theorem dX12_move_45 : decode cX12_move 45 = .ok (.iload_n 3, 1) := by decide +kernel
theorem dX12_move_46 : decode cX12_move 46 = .ok (.i2l, 1) := by decide +kernel
theorem dX12_move_47 : decode cX12_move 47 = .ok (.ladd, 1) := by decide +kernel
theorem dX12_move_48 : decode cX12_move 48 = .ok (.aload_n 0, 1) := by decide +kernel
theorem dX12_move_49 : decode cX12_move 49 = .ok (.getfield 42, 3) := by decide +kernel
theorem dX12_move_52 : decode cX12_move 52 = .ok (.iload_n 1, 1) := by decide +kernel
theorem dX12_move_53 : decode cX12_move 53 = .ok (.iaload, 1) := by decide +kernel
theorem dX12_move_54 : decode cX12_move 54 = .ok (.invokevirtual 390, 3) := by decide +kernel
theorem dX12_move_57 : decode cX12_move 57 = .ok (.istore 4, 2) := by decide +kernel
theorem dX12_move_59 : decode cX12_move 59 = .ok (.iload 4, 2) := by decide +kernel
theorem dX12_move_61 : decode cX12_move 61 = .ok (.ifCond .le 8, 3) := by decide +kernel
theorem dX12_move_64 : decode cX12_move 64 = .ok (.iconst (-1), 1) := by decide +kernel
theorem dX12_move_65 : decode cX12_move 65 = .ok (.iload 4, 2) := by decide +kernel
theorem dX12_move_67 : decode cX12_move 67 = .ok (.isub, 1) := by decide +kernel
theorem dX12_move_68 : decode cX12_move 68 = .ok (.ireturn, 1) := by decide +kernel
theorem dX12_move_69 : decode cX12_move 69 = .ok (.aload_n 0, 1) := by decide +kernel
theorem dX12_move_70 : decode cX12_move 70 = .ok (.bipush 16, 2) := by decide +kernel
theorem dX12_move_72 : decode cX12_move 72 = .ok (.invokevirtual 414, 3) := by decide +kernel
theorem dX12_move_75 : decode cX12_move 75 = .ok (.aload_n 0, 1) := by decide +kernel
theorem dX12_move_76 : decode cX12_move 76 = .ok (.invokevirtual 417, 3) := by decide +kernel
theorem dX12_move_79 : decode cX12_move 79 = .ok (.aload_n 0, 1) := by decide +kernel
theorem dX12_move_80 : decode cX12_move 80 = .ok (.iload_n 1, 1) := by decide +kernel
theorem dX12_move_81 : decode cX12_move 81 = .ok (.aload_n 0, 1) := by decide +kernel
theorem dX12_move_82 : decode cX12_move 82 = .ok (.getfield 36, 3) := by decide +kernel
theorem dX12_move_85 : decode cX12_move 85 = .ok (.iload_n 1, 1) := by decide +kernel
theorem dX12_move_86 : decode cX12_move 86 = .ok (.iaload, 1) := by decide +kernel
theorem dX12_move_87 : decode cX12_move 87 = .ok (.iload_n 2, 1) := by decide +kernel
theorem dX12_move_88 : decode cX12_move 88 = .ok (.iadd, 1) := by decide +kernel
theorem dX12_move_89 : decode cX12_move 89 = .ok (.aload_n 0, 1) := by decide +kernel
theorem dX12_move_90 : decode cX12_move 90 = .ok (.getfield 39, 3) := by decide +kernel
theorem dX12_move_93 : decode cX12_move 93 = .ok (.iload_n 1, 1) := by decide +kernel
theorem dX12_move_94 : decode cX12_move 94 = .ok (.iaload, 1) := by decide +kernel
theorem dX12_move_95 : decode cX12_move 95 = .ok (.iload_n 3, 1) := by decide +kernel
theorem dX12_move_96 : decode cX12_move 96 = .ok (.iadd, 1) := by decide +kernel
theorem dX12_move_97 : decode cX12_move 97 = .ok (.aload_n 0, 1) := by decide +kernel
theorem dX12_move_98 : decode cX12_move 98 = .ok (.getfield 42, 3) := by decide +kernel
theorem dX12_move_101 : decode cX12_move 101 = .ok (.iload_n 1, 1) := by decide +kernel
theorem dX12_move_102 : decode cX12_move 102 = .ok (.iaload, 1) := by decide +kernel
theorem dX12_move_103 : decode cX12_move 103 = .ok (.invokevirtual 383, 3) := by decide +kernel
theorem dX12_move_106 : decode cX12_move 106 = .ok (.aload_n 0, 1) := by decide +kernel
theorem dX12_move_107 : decode cX12_move 107 = .ok (.getfield 48, 3) := by decide +kernel
theorem dX12_move_110 : decode cX12_move 110 = .ok (.iload_n 1, 1) := by decide +kernel
theorem dX12_move_111 : decode cX12_move 111 = .ok (.iaload, 1) := by decide +kernel
theorem dX12_move_112 : decode cX12_move 112 = .ok (.ireturn, 1) := by decide +kernel
theorem dX12_lawOfSwap_0 : decode cX12_lawOfSwap 0 = .ok (.aload_n 0, 1) := by decide +kernel
theorem dX12_lawOfSwap_1 : decode cX12_lawOfSwap 1 = .ok (.getfield 36, 3) := by decide +kernel
theorem dX12_lawOfSwap_4 : decode cX12_lawOfSwap 4 = .ok (.iload_n 1, 1) := by decide +kernel
theorem dX12_lawOfSwap_5 : decode cX12_lawOfSwap 5 = .ok (.iaload, 1) := by decide +kernel
theorem dX12_lawOfSwap_6 : decode cX12_lawOfSwap 6 = .ok (.istore_n 3, 1) := by decide +kernel
theorem dX12_lawOfSwap_7 : decode cX12_lawOfSwap 7 = .ok (.aload_n 0, 1) := by decide +kernel
theorem dX12_lawOfSwap_8 : decode cX12_lawOfSwap 8 = .ok (.getfield 39, 3) := by decide +kernel
theorem dX12_lawOfSwap_11 : decode cX12_lawOfSwap 11 = .ok (.iload_n 1, 1) := by decide +kernel
theorem dX12_lawOfSwap_12 : decode cX12_lawOfSwap 12 = .ok (.iaload, 1) := by decide +kernel
theorem dX12_lawOfSwap_13 : decode cX12_lawOfSwap 13 = .ok (.istore 4, 2) := by decide +kernel
theorem dX12_lawOfSwap_15 : decode cX12_lawOfSwap 15 = .ok (.aload_n 0, 1) := by decide +kernel
theorem dX12_lawOfSwap_16 : decode cX12_lawOfSwap 16 = .ok (.getfield 42, 3) := by decide +kernel
theorem dX12_lawOfSwap_19 : decode cX12_lawOfSwap 19 = .ok (.iload_n 1, 1) := by decide +kernel
theorem dX12_lawOfSwap_20 : decode cX12_lawOfSwap 20 = .ok (.iaload, 1) := by decide +kernel
theorem dX12_lawOfSwap_21 : decode cX12_lawOfSwap 21 = .ok (.istore 5, 2) := by decide +kernel
theorem dX12_lawOfSwap_23 : decode cX12_lawOfSwap 23 = .ok (.aload_n 0, 1) := by decide +kernel
theorem dX12_lawOfSwap_24 : decode cX12_lawOfSwap 24 = .ok (.getfield 36, 3) := by decide +kernel
theorem dX12_lawOfSwap_27 : decode cX12_lawOfSwap 27 = .ok (.iload_n 2, 1) := by decide +kernel
theorem dX12_lawOfSwap_28 : decode cX12_lawOfSwap 28 = .ok (.iaload, 1) := by decide +kernel
theorem dX12_lawOfSwap_29 : decode cX12_lawOfSwap 29 = .ok (.istore 6, 2) := by decide +kernel
theorem dX12_lawOfSwap_31 : decode cX12_lawOfSwap 31 = .ok (.aload_n 0, 1) := by decide +kernel
theorem dX12_lawOfSwap_32 : decode cX12_lawOfSwap 32 = .ok (.getfield 39, 3) := by decide +kernel
theorem dX12_lawOfSwap_35 : decode cX12_lawOfSwap 35 = .ok (.iload_n 2, 1) := by decide +kernel
theorem dX12_lawOfSwap_36 : decode cX12_lawOfSwap 36 = .ok (.iaload, 1) := by decide +kernel
theorem dX12_lawOfSwap_37 : decode cX12_lawOfSwap 37 = .ok (.istore 7, 2) := by decide +kernel
theorem dX12_lawOfSwap_39 : decode cX12_lawOfSwap 39 = .ok (.aload_n 0, 1) := by decide +kernel
theorem dX12_lawOfSwap_40 : decode cX12_lawOfSwap 40 = .ok (.getfield 42, 3) := by decide +kernel
theorem dX12_lawOfSwap_43 : decode cX12_lawOfSwap 43 = .ok (.iload_n 2, 1) := by decide +kernel
theorem dX12_lawOfSwap_44 : decode cX12_lawOfSwap 44 = .ok (.iaload, 1) := by decide +kernel
theorem dX12_lawOfSwap_45 : decode cX12_lawOfSwap 45 = .ok (.istore 8, 2) := by decide +kernel
theorem dX12_lawOfSwap_47 : decode cX12_lawOfSwap 47 = .ok (.aload_n 0, 1) := by decide +kernel
theorem dX12_lawOfSwap_48 : decode cX12_lawOfSwap 48 = .ok (.iload_n 1, 1) := by decide +kernel
theorem dX12_lawOfSwap_49 : decode cX12_lawOfSwap 49 = .ok (.iconst 0, 1) := by decide +kernel
theorem dX12_lawOfSwap_50 : decode cX12_lawOfSwap 50 = .ok (.iconst 0, 1) := by decide +kernel
theorem dX12_lawOfSwap_51 : decode cX12_lawOfSwap 51 = .ok (.iconst 0, 1) := by decide +kernel
theorem dX12_lawOfSwap_52 : decode cX12_lawOfSwap 52 = .ok (.invokevirtual 383, 3) := by decide +kernel
theorem dX12_lawOfSwap_55 : decode cX12_lawOfSwap 55 = .ok (.aload_n 0, 1) := by decide +kernel
theorem dX12_lawOfSwap_56 : decode cX12_lawOfSwap 56 = .ok (.iload_n 2, 1) := by decide +kernel
theorem dX12_lawOfSwap_57 : decode cX12_lawOfSwap 57 = .ok (.iconst 0, 1) := by decide +kernel
theorem dX12_lawOfSwap_58 : decode cX12_lawOfSwap 58 = .ok (.iconst 0, 1) := by decide +kernel
theorem dX12_lawOfSwap_59 : decode cX12_lawOfSwap 59 = .ok (.iconst 0, 1) := by decide +kernel
theorem dX12_lawOfSwap_60 : decode cX12_lawOfSwap 60 = .ok (.invokevirtual 383, 3) := by decide +kernel
theorem dX12_lawOfSwap_63 : decode cX12_lawOfSwap 63 = .ok (.aload_n 0, 1) := by decide +kernel
theorem dX12_lawOfSwap_64 : decode cX12_lawOfSwap 64 = .ok (.iload_n 1, 1) := by decide +kernel
theorem dX12_lawOfSwap_65 : decode cX12_lawOfSwap 65 = .ok (.iload 6, 2) := by decide +kernel
theorem dX12_lawOfSwap_67 : decode cX12_lawOfSwap 67 = .ok (.i2l, 1) := by decide +kernel
theorem dX12_lawOfSwap_68 : decode cX12_lawOfSwap 68 = .ok (.iload 7, 2) := by decide +kernel
theorem dX12_lawOfSwap_70 : decode cX12_lawOfSwap 70 = .ok (.i2l, 1) := by decide +kernel
theorem dX12_lawOfSwap_71 : decode cX12_lawOfSwap 71 = .ok (.iload 5, 2) := by decide +kernel
theorem dX12_lawOfSwap_73 : decode cX12_lawOfSwap 73 = .ok (.invokevirtual 390, 3) := by decide +kernel
theorem dX12_lawOfSwap_76 : decode cX12_lawOfSwap 76 = .ok (.istore 9, 2) := by decide +kernel
theorem dX12_lawOfSwap_78 : decode cX12_lawOfSwap 78 = .ok (.iload 9, 2) := by decide +kernel
theorem dX12_lawOfSwap_80 : decode cX12_lawOfSwap 80 = .ok (.ifCond .le 6, 3) := by decide +kernel
theorem dX12_lawOfSwap_83 : decode cX12_lawOfSwap 83 = .ok (.iload 9, 2) := by decide +kernel
theorem dX12_lawOfSwap_85 : decode cX12_lawOfSwap 85 = .ok (.ireturn, 1) := by decide +kernel
theorem dX12_lawOfSwap_86 : decode cX12_lawOfSwap 86 = .ok (.aload_n 0, 1) := by decide +kernel
theorem dX12_lawOfSwap_87 : decode cX12_lawOfSwap 87 = .ok (.iload_n 1, 1) := by decide +kernel
theorem dX12_lawOfSwap_88 : decode cX12_lawOfSwap 88 = .ok (.iload 6, 2) := by decide +kernel
theorem dX12_lawOfSwap_90 : decode cX12_lawOfSwap 90 = .ok (.iload 7, 2) := by decide +kernel
theorem dX12_lawOfSwap_92 : decode cX12_lawOfSwap 92 = .ok (.iload 5, 2) := by decide +kernel
theorem dX12_lawOfSwap_94 : decode cX12_lawOfSwap 94 = .ok (.invokevirtual 383, 3) := by decide +kernel
theorem dX12_lawOfSwap_97 : decode cX12_lawOfSwap 97 = .ok (.aload_n 0, 1) := by decide +kernel
theorem dX12_lawOfSwap_98 : decode cX12_lawOfSwap 98 = .ok (.iload_n 2, 1) := by decide +kernel
theorem dX12_lawOfSwap_99 : decode cX12_lawOfSwap 99 = .ok (.iload_n 3, 1) := by decide +kernel
theorem dX12_lawOfSwap_100 : decode cX12_lawOfSwap 100 = .ok (.i2l, 1) := by decide +kernel
theorem dX12_lawOfSwap_101 : decode cX12_lawOfSwap 101 = .ok (.iload 4, 2) := by decide +kernel
theorem dX12_lawOfSwap_103 : decode cX12_lawOfSwap 103 = .ok (.i2l, 1) := by decide +kernel
theorem dX12_lawOfSwap_104 : decode cX12_lawOfSwap 104 = .ok (.iload 8, 2) := by decide +kernel
theorem dX12_lawOfSwap_106 : decode cX12_lawOfSwap 106 = .ok (.invokevirtual 390, 3) := by decide +kernel
theorem dX12_lawOfSwap_109 : decode cX12_lawOfSwap 109 = .ok (.istore 9, 2) := by decide +kernel
theorem dX12_lawOfSwap_111 : decode cX12_lawOfSwap 111 = .ok (.iload 9, 2) := by decide +kernel
theorem dX12_lawOfSwap_113 : decode cX12_lawOfSwap 113 = .ok (.ifCond .le 6, 3) := by decide +kernel
theorem dX12_lawOfSwap_116 : decode cX12_lawOfSwap 116 = .ok (.iload 9, 2) := by decide +kernel
theorem dX12_lawOfSwap_118 : decode cX12_lawOfSwap 118 = .ok (.ireturn, 1) := by decide +kernel
theorem dX12_lawOfSwap_119 : decode cX12_lawOfSwap 119 = .ok (.aload_n 0, 1) := by decide +kernel
theorem dX12_lawOfSwap_120 : decode cX12_lawOfSwap 120 = .ok (.iload_n 2, 1) := by decide +kernel
theorem dX12_lawOfSwap_121 : decode cX12_lawOfSwap 121 = .ok (.iload_n 3, 1) := by decide +kernel
theorem dX12_lawOfSwap_122 : decode cX12_lawOfSwap 122 = .ok (.iload 4, 2) := by decide +kernel
theorem dX12_lawOfSwap_124 : decode cX12_lawOfSwap 124 = .ok (.iload 8, 2) := by decide +kernel
theorem dX12_lawOfSwap_126 : decode cX12_lawOfSwap 126 = .ok (.invokevirtual 383, 3) := by decide +kernel
theorem dX12_lawOfSwap_129 : decode cX12_lawOfSwap 129 = .ok (.iconst 0, 1) := by decide +kernel
theorem dX12_lawOfSwap_130 : decode cX12_lawOfSwap 130 = .ok (.ireturn, 1) := by decide +kernel
theorem dX12_swap_0 : decode cX12_swap 0 = .ok (.aload_n 0, 1) := by decide +kernel
theorem dX12_swap_1 : decode cX12_swap 1 = .ok (.iload_n 1, 1) := by decide +kernel
theorem dX12_swap_2 : decode cX12_swap 2 = .ok (.invokevirtual 297, 3) := by decide +kernel
theorem dX12_swap_5 : decode cX12_swap 5 = .ok (.ifCond .eq 16, 3) := by decide +kernel
theorem dX12_swap_8 : decode cX12_swap 8 = .ok (.aload_n 0, 1) := by decide +kernel
theorem dX12_swap_9 : decode cX12_swap 9 = .ok (.iload_n 2, 1) := by decide +kernel
theorem dX12_swap_10 : decode cX12_swap 10 = .ok (.invokevirtual 297, 3) := by decide +kernel
theorem dX12_swap_13 : decode cX12_swap 13 = .ok (.ifCond .eq 8, 3) := by decide +kernel
theorem dX12_swap_16 : decode cX12_swap 16 = .ok (.iload_n 1, 1) := by decide +kernel
theorem dX12_swap_17 : decode cX12_swap 17 = .ok (.iload_n 2, 1) := by decide +kernel
theorem dX12_swap_18 : decode cX12_swap 18 = .ok (.if_icmp .ne 5, 3) := by decide +kernel
theorem dX12_swap_21 : decode cX12_swap 21 = .ok (.iconst (-1), 1) := by decide +kernel
theorem dX12_swap_22 : decode cX12_swap 22 = .ok (.ireturn, 1) := by decide +kernel
theorem dX12_swap_23 : decode cX12_swap 23 = .ok (.aload_n 0, 1) := by decide +kernel
theorem dX12_swap_24 : decode cX12_swap 24 = .ok (.iload_n 1, 1) := by decide +kernel
theorem dX12_swap_25 : decode cX12_swap 25 = .ok (.invokevirtual 326, 3) := by decide +kernel
theorem dX12_swap_28 : decode cX12_swap 28 = .ok (.ifCond .eq 11, 3) := by decide +kernel
theorem dX12_swap_31 : decode cX12_swap 31 = .ok (.aload_n 0, 1) := by decide +kernel
theorem dX12_swap_32 : decode cX12_swap 32 = .ok (.iload_n 2, 1) := by decide +kernel
theorem dX12_swap_33 : decode cX12_swap 33 = .ok (.invokevirtual 326, 3) := by decide +kernel
theorem dX12_swap_36 : decode cX12_swap 36 = .ok (.ifCond .ne 5, 3) := by decide +kernel
theorem dX12_swap_39 : decode cX12_swap 39 = .ok (.iconst (-1), 1) := by decide +kernel
theorem dX12_swap_40 : decode cX12_swap 40 = .ok (.ireturn, 1) := by decide +kernel
theorem dX12_swap_41 : decode cX12_swap 41 = .ok (.aload_n 0, 1) := by decide +kernel
theorem dX12_swap_42 : decode cX12_swap 42 = .ok (.bipush 16, 2) := by decide +kernel
theorem dX12_swap_44 : decode cX12_swap 44 = .ok (.invokevirtual 414, 3) := by decide +kernel
theorem dX12_swap_47 : decode cX12_swap 47 = .ok (.aload_n 0, 1) := by decide +kernel
theorem dX12_swap_48 : decode cX12_swap 48 = .ok (.iload_n 1, 1) := by decide +kernel
theorem dX12_swap_49 : decode cX12_swap 49 = .ok (.iload_n 2, 1) := by decide +kernel
theorem dX12_swap_50 : decode cX12_swap 50 = .ok (.invokevirtual 423, 3) := by decide +kernel
theorem dX12_swap_53 : decode cX12_swap 53 = .ok (.istore_n 3, 1) := by decide +kernel
theorem dX12_swap_54 : decode cX12_swap 54 = .ok (.iload_n 3, 1) := by decide +kernel
theorem dX12_swap_55 : decode cX12_swap 55 = .ok (.ifCond .le 13, 3) := by decide +kernel
theorem dX12_swap_58 : decode cX12_swap 58 = .ok (.aload_n 0, 1) := by decide +kernel
theorem dX12_swap_59 : decode cX12_swap 59 = .ok (.bipush 16, 2) := by decide +kernel
theorem dX12_swap_61 : decode cX12_swap 61 = .ok (.invokevirtual 426, 3) := by decide +kernel
theorem dX12_swap_64 : decode cX12_swap 64 = .ok (.iconst (-1), 1) := by decide +kernel
theorem dX12_swap_65 : decode cX12_swap 65 = .ok (.iload_n 3, 1) := by decide +kernel
theorem dX12_swap_66 : decode cX12_swap 66 = .ok (.isub, 1) := by decide +kernel
theorem dX12_swap_67 : decode cX12_swap 67 = .ok (.ireturn, 1) := by decide +kernel
theorem dX12_swap_68 : decode cX12_swap 68 = .ok (.aload_n 0, 1) := by decide +kernel
theorem dX12_swap_69 : decode cX12_swap 69 = .ok (.invokevirtual 417, 3) := by decide +kernel
theorem dX12_swap_72 : decode cX12_swap 72 = .ok (.aload_n 0, 1) := by decide +kernel
theorem dX12_swap_73 : decode cX12_swap 73 = .ok (.getfield 48, 3) := by decide +kernel
theorem dX12_swap_76 : decode cX12_swap 76 = .ok (.iload_n 1, 1) := by decide +kernel
theorem dX12_swap_77 : decode cX12_swap 77 = .ok (.iaload, 1) := by decide +kernel
theorem dX12_swap_78 : decode cX12_swap 78 = .ok (.ireturn, 1) := by decide +kernel
theorem dX12_nextOld_0 : decode cX12_nextOld 0 = .ok (.iconst (-1), 1) := by decide +kernel
theorem dX12_nextOld_1 : decode cX12_nextOld 1 = .ok (.istore_n 3, 1) := by decide +kernel
theorem dX12_nextOld_2 : decode cX12_nextOld 2 = .ok (.iconst 0, 1) := by decide +kernel
theorem dX12_nextOld_3 : decode cX12_nextOld 3 = .ok (.istore 4, 2) := by decide +kernel
theorem dX12_nextOld_5 : decode cX12_nextOld 5 = .ok (.iload 4, 2) := by decide +kernel
theorem dX12_nextOld_7 : decode cX12_nextOld 7 = .ok (.aload_n 0, 1) := by decide +kernel
theorem dX12_nextOld_8 : decode cX12_nextOld 8 = .ok (.getfield 13, 3) := by decide +kernel
theorem dX12_nextOld_11 : decode cX12_nextOld 11 = .ok (.bipush 9, 2) := by decide +kernel
theorem dX12_nextOld_13 : decode cX12_nextOld 13 = .ok (.iaload, 1) := by decide +kernel
theorem dX12_nextOld_14 : decode cX12_nextOld 14 = .ok (.if_icmp .ge 89, 3) := by decide +kernel
theorem dX12_nextOld_17 : decode cX12_nextOld 17 = .ok (.aload_n 0, 1) := by decide +kernel
theorem dX12_nextOld_18 : decode cX12_nextOld 18 = .ok (.getfield 64, 3) := by decide +kernel
theorem dX12_nextOld_21 : decode cX12_nextOld 21 = .ok (.iload 4, 2) := by decide +kernel
theorem dX12_nextOld_23 : decode cX12_nextOld 23 = .ok (.iaload, 1) := by decide +kernel
theorem dX12_nextOld_24 : decode cX12_nextOld 24 = .ok (.iload_n 1, 1) := by decide +kernel
theorem dX12_nextOld_25 : decode cX12_nextOld 25 = .ok (.if_icmp .gt 20, 3) := by decide +kernel
theorem dX12_nextOld_28 : decode cX12_nextOld 28 = .ok (.aload_n 0, 1) := by decide +kernel
theorem dX12_nextOld_29 : decode cX12_nextOld 29 = .ok (.getfield 64, 3) := by decide +kernel
theorem dX12_nextOld_32 : decode cX12_nextOld 32 = .ok (.iload 4, 2) := by decide +kernel
theorem dX12_nextOld_34 : decode cX12_nextOld 34 = .ok (.iaload, 1) := by decide +kernel
theorem dX12_nextOld_35 : decode cX12_nextOld 35 = .ok (.iload_n 1, 1) := by decide +kernel
theorem dX12_nextOld_36 : decode cX12_nextOld 36 = .ok (.if_icmp .ne 13, 3) := by decide +kernel
theorem dX12_nextOld_39 : decode cX12_nextOld 39 = .ok (.iload 4, 2) := by decide +kernel
theorem dX12_nextOld_41 : decode cX12_nextOld 41 = .ok (.iload_n 2, 1) := by decide +kernel
theorem dX12_nextOld_42 : decode cX12_nextOld 42 = .ok (.if_icmp .le 7, 3) := by decide +kernel
theorem dX12_nextOld_45 : decode cX12_nextOld 45 = .ok (.iconst 1, 1) := by decide +kernel
theorem dX12_nextOld_46 : decode cX12_nextOld 46 = .ok (.goto 4, 3) := by decide +kernel
theorem dX12_nextOld_49 : decode cX12_nextOld 49 = .ok (.iconst 0, 1) := by decide +kernel
theorem dX12_nextOld_50 : decode cX12_nextOld 50 = .ok (.istore 5, 2) := by decide +kernel
theorem dX12_nextOld_52 : decode cX12_nextOld 52 = .ok (.aload_n 0, 1) := by decide +kernel
theorem dX12_nextOld_53 : decode cX12_nextOld 53 = .ok (.iload 4, 2) := by decide +kernel
theorem dX12_nextOld_55 : decode cX12_nextOld 55 = .ok (.invokevirtual 326, 3) := by decide +kernel
theorem dX12_nextOld_58 : decode cX12_nextOld 58 = .ok (.ifCond .eq 39, 3) := by decide +kernel
theorem dX12_nextOld_61 : decode cX12_nextOld 61 = .ok (.iload 5, 2) := by decide +kernel
theorem dX12_nextOld_63 : decode cX12_nextOld 63 = .ok (.ifCond .ne 6, 3) := by decide +kernel
theorem dX12_nextOld_66 : decode cX12_nextOld 66 = .ok (.goto 31, 3) := by decide +kernel
theorem dX12_nextOld_69 : decode cX12_nextOld 69 = .ok (.iload_n 3, 1) := by decide +kernel
theorem dX12_nextOld_70 : decode cX12_nextOld 70 = .ok (.iconst (-1), 1) := by decide +kernel
theorem dX12_nextOld_71 : decode cX12_nextOld 71 = .ok (.if_icmp .eq 19, 3) := by decide +kernel
theorem dX12_nextOld_74 : decode cX12_nextOld 74 = .ok (.aload_n 0, 1) := by decide +kernel
theorem dX12_nextOld_75 : decode cX12_nextOld 75 = .ok (.getfield 64, 3) := by decide +kernel
theorem dX12_nextOld_78 : decode cX12_nextOld 78 = .ok (.iload 4, 2) := by decide +kernel
theorem dX12_nextOld_80 : decode cX12_nextOld 80 = .ok (.iaload, 1) := by decide +kernel
theorem dX12_nextOld_81 : decode cX12_nextOld 81 = .ok (.aload_n 0, 1) := by decide +kernel
theorem dX12_nextOld_82 : decode cX12_nextOld 82 = .ok (.getfield 64, 3) := by decide +kernel
theorem dX12_nextOld_85 : decode cX12_nextOld 85 = .ok (.iload_n 3, 1) := by decide +kernel
theorem dX12_nextOld_86 : decode cX12_nextOld 86 = .ok (.iaload, 1) := by decide +kernel
theorem dX12_nextOld_87 : decode cX12_nextOld 87 = .ok (.if_icmp .ge 8, 3) := by decide +kernel
theorem dX12_nextOld_90 : decode cX12_nextOld 90 = .ok (.iload 4, 2) := by decide +kernel
theorem dX12_nextOld_92 : decode cX12_nextOld 92 = .ok (.goto 4, 3) := by decide +kernel
theorem dX12_nextOld_95 : decode cX12_nextOld 95 = .ok (.iload_n 3, 1) := by decide +kernel
theorem dX12_nextOld_96 : decode cX12_nextOld 96 = .ok (.istore_n 3, 1) := by decide +kernel
theorem dX12_nextOld_97 : decode cX12_nextOld 97 = .ok (.iinc 4 1, 3) := by decide +kernel
theorem dX12_nextOld_100 : decode cX12_nextOld 100 = .ok (.goto (-95), 3) := by decide +kernel
theorem dX12_nextOld_103 : decode cX12_nextOld 103 = .ok (.iload_n 3, 1) := by decide +kernel
theorem dX12_nextOld_104 : decode cX12_nextOld 104 = .ok (.ireturn, 1) := by decide +kernel
theorem dX12_comesSooner_0 : decode cX12_comesSooner 0 = .ok (.aload_n 0, 1) := by decide +kernel
theorem dX12_comesSooner_1 : decode cX12_comesSooner 1 = .ok (.iload_n 1, 1) := by decide +kernel
theorem dX12_comesSooner_2 : decode cX12_comesSooner 2 = .ok (.iconst 4, 1) := by decide +kernel
theorem dX12_comesSooner_3 : decode cX12_comesSooner 3 = .ok (.invokevirtual 316, 3) := by decide +kernel
theorem dX12_comesSooner_6 : decode cX12_comesSooner 6 = .ok (.istore_n 2, 1) := by decide +kernel
theorem dX12_comesSooner_7 : decode cX12_comesSooner 7 = .ok (.iload_n 2, 1) := by decide +kernel
theorem dX12_comesSooner_8 : decode cX12_comesSooner 8 = .ok (.aload_n 0, 1) := by decide +kernel
theorem dX12_comesSooner_9 : decode cX12_comesSooner 9 = .ok (.getfield 39, 3) := by decide +kernel
theorem dX12_comesSooner_12 : decode cX12_comesSooner 12 = .ok (.iload_n 1, 1) := by decide +kernel
theorem dX12_comesSooner_13 : decode cX12_comesSooner 13 = .ok (.iaload, 1) := by decide +kernel
theorem dX12_comesSooner_14 : decode cX12_comesSooner 14 = .ok (.if_icmp .ge 55, 3) := by decide +kernel
theorem dX12_comesSooner_17 : decode cX12_comesSooner 17 = .ok (.aload_n 0, 1) := by decide +kernel
theorem dX12_comesSooner_18 : decode cX12_comesSooner 18 = .ok (.iload_n 1, 1) := by decide +kernel
theorem dX12_comesSooner_19 : decode cX12_comesSooner 19 = .ok (.aload_n 0, 1) := by decide +kernel
theorem dX12_comesSooner_20 : decode cX12_comesSooner 20 = .ok (.getfield 36, 3) := by decide +kernel
theorem dX12_comesSooner_23 : decode cX12_comesSooner 23 = .ok (.iload_n 1, 1) := by decide +kernel
theorem dX12_comesSooner_24 : decode cX12_comesSooner 24 = .ok (.iaload, 1) := by decide +kernel
theorem dX12_comesSooner_25 : decode cX12_comesSooner 25 = .ok (.i2l, 1) := by decide +kernel
theorem dX12_comesSooner_26 : decode cX12_comesSooner 26 = .ok (.iload_n 2, 1) := by decide +kernel
theorem dX12_comesSooner_27 : decode cX12_comesSooner 27 = .ok (.i2l, 1) := by decide +kernel
theorem dX12_comesSooner_28 : decode cX12_comesSooner 28 = .ok (.aload_n 0, 1) := by decide +kernel
theorem dX12_comesSooner_29 : decode cX12_comesSooner 29 = .ok (.getfield 42, 3) := by decide +kernel
theorem dX12_comesSooner_32 : decode cX12_comesSooner 32 = .ok (.iload_n 1, 1) := by decide +kernel
theorem dX12_comesSooner_33 : decode cX12_comesSooner 33 = .ok (.iaload, 1) := by decide +kernel
theorem dX12_comesSooner_34 : decode cX12_comesSooner 34 = .ok (.invokevirtual 390, 3) := by decide +kernel
theorem dX12_comesSooner_37 : decode cX12_comesSooner 37 = .ok (.ifCond .eq 6, 3) := by decide +kernel
theorem dX12_comesSooner_40 : decode cX12_comesSooner 40 = .ok (.goto 23, 3) := by decide +kernel
theorem dX12_comesSooner_43 : decode cX12_comesSooner 43 = .ok (.aload_n 0, 1) := by decide +kernel
theorem dX12_comesSooner_44 : decode cX12_comesSooner 44 = .ok (.iload_n 1, 1) := by decide +kernel
theorem dX12_comesSooner_45 : decode cX12_comesSooner 45 = .ok (.aload_n 0, 1) := by decide +kernel
theorem dX12_comesSooner_46 : decode cX12_comesSooner 46 = .ok (.getfield 36, 3) := by decide +kernel
theorem dX12_comesSooner_49 : decode cX12_comesSooner 49 = .ok (.iload_n 1, 1) := by decide +kernel
theorem dX12_comesSooner_50 : decode cX12_comesSooner 50 = .ok (.iaload, 1) := by decide +kernel
theorem dX12_comesSooner_51 : decode cX12_comesSooner 51 = .ok (.iload_n 2, 1) := by decide +kernel
theorem dX12_comesSooner_52 : decode cX12_comesSooner 52 = .ok (.aload_n 0, 1) := by decide +kernel
theorem dX12_comesSooner_53 : decode cX12_comesSooner 53 = .ok (.getfield 42, 3) := by decide +kernel
theorem dX12_comesSooner_56 : decode cX12_comesSooner 56 = .ok (.iload_n 1, 1) := by decide +kernel
theorem dX12_comesSooner_57 : decode cX12_comesSooner 57 = .ok (.iaload, 1) := by decide +kernel
theorem dX12_comesSooner_58 : decode cX12_comesSooner 58 = .ok (.invokevirtual 383, 3) := by decide +kernel
theorem dX12_comesSooner_61 : decode cX12_comesSooner 61 = .ok (.iconst 1, 1) := by decide +kernel
theorem dX12_comesSooner_62 : decode cX12_comesSooner 62 = .ok (.ireturn, 1) := by decide +kernel
theorem dX12_comesSooner_63 : decode cX12_comesSooner 63 = .ok (.iinc 2 1, 3) := by decide +kernel
theorem dX12_comesSooner_66 : decode cX12_comesSooner 66 = .ok (.goto (-59), 3) := by decide +kernel
theorem dX12_comesSooner_69 : decode cX12_comesSooner 69 = .ok (.iconst 0, 1) := by decide +kernel
theorem dX12_comesSooner_70 : decode cX12_comesSooner 70 = .ok (.ireturn, 1) := by decide +kernel
theorem dX12_squeeze_0 : decode cX12_squeeze 0 = .ok (.aload_n 0, 1) := by decide +kernel
theorem dX12_squeeze_1 : decode cX12_squeeze 1 = .ok (.bipush 16, 2) := by decide +kernel
theorem dX12_squeeze_3 : decode cX12_squeeze 3 = .ok (.invokevirtual 414, 3) := by decide +kernel
theorem dX12_squeeze_6 : decode cX12_squeeze 6 = .ok (.iconst 0, 1) := by decide +kernel
theorem dX12_squeeze_7 : decode cX12_squeeze 7 = .ok (.istore_n 1, 1) := by decide +kernel
theorem dX12_squeeze_8 : decode cX12_squeeze 8 = .ok (.iload_n 1, 1) := by decide +kernel
theorem dX12_squeeze_9 : decode cX12_squeeze 9 = .ok (.bipush 14, 2) := by decide +kernel
theorem dX12_squeeze_11 : decode cX12_squeeze 11 = .ok (.if_icmp .ge 21, 3) := by decide +kernel
theorem dX12_squeeze_14 : decode cX12_squeeze 14 = .ok (.aload_n 0, 1) := by decide +kernel
theorem dX12_squeeze_15 : decode cX12_squeeze 15 = .ok (.getfield 64, 3) := by decide +kernel
theorem dX12_squeeze_18 : decode cX12_squeeze 18 = .ok (.iload_n 1, 1) := by decide +kernel
theorem dX12_squeeze_19 : decode cX12_squeeze 19 = .ok (.aload_n 0, 1) := by decide +kernel
theorem dX12_squeeze_20 : decode cX12_squeeze 20 = .ok (.getfield 39, 3) := by decide +kernel
theorem dX12_squeeze_23 : decode cX12_squeeze 23 = .ok (.iload_n 1, 1) := by decide +kernel
theorem dX12_squeeze_24 : decode cX12_squeeze 24 = .ok (.iaload, 1) := by decide +kernel
theorem dX12_squeeze_25 : decode cX12_squeeze 25 = .ok (.iastore, 1) := by decide +kernel
theorem dX12_squeeze_26 : decode cX12_squeeze 26 = .ok (.iinc 1 1, 3) := by decide +kernel
theorem dX12_squeeze_29 : decode cX12_squeeze 29 = .ok (.goto (-21), 3) := by decide +kernel
theorem dX12_squeeze_32 : decode cX12_squeeze 32 = .ok (.iconst 0, 1) := by decide +kernel
theorem dX12_squeeze_33 : decode cX12_squeeze 33 = .ok (.istore_n 1, 1) := by decide +kernel
theorem dX12_squeeze_34 : decode cX12_squeeze 34 = .ok (.aload_n 0, 1) := by decide +kernel
theorem dX12_squeeze_35 : decode cX12_squeeze 35 = .ok (.iconst (-1), 1) := by decide +kernel
theorem dX12_squeeze_36 : decode cX12_squeeze 36 = .ok (.iconst (-1), 1) := by decide +kernel
theorem dX12_squeeze_37 : decode cX12_squeeze 37 = .ok (.invokevirtual 429, 3) := by decide +kernel
theorem dX12_squeeze_40 : decode cX12_squeeze 40 = .ok (.istore_n 2, 1) := by decide +kernel
theorem dX12_squeeze_41 : decode cX12_squeeze 41 = .ok (.iload_n 2, 1) := by decide +kernel
theorem dX12_squeeze_42 : decode cX12_squeeze 42 = .ok (.iconst (-1), 1) := by decide +kernel
theorem dX12_squeeze_43 : decode cX12_squeeze 43 = .ok (.if_icmp .eq 34, 3) := by decide +kernel
theorem dX12_squeeze_46 : decode cX12_squeeze 46 = .ok (.aload_n 0, 1) := by decide +kernel
theorem dX12_squeeze_47 : decode cX12_squeeze 47 = .ok (.iload_n 2, 1) := by decide +kernel
theorem dX12_squeeze_48 : decode cX12_squeeze 48 = .ok (.invokevirtual 432, 3) := by decide +kernel
theorem dX12_squeeze_51 : decode cX12_squeeze 51 = .ok (.ifCond .eq 9, 3) := by decide +kernel
theorem dX12_squeeze_54 : decode cX12_squeeze 54 = .ok (.iload_n 1, 1) := by decide +kernel
theorem dX12_squeeze_55 : decode cX12_squeeze 55 = .ok (.iconst 1, 1) := by decide +kernel
theorem dX12_squeeze_56 : decode cX12_squeeze 56 = .ok (.iadd, 1) := by decide +kernel
theorem dX12_squeeze_57 : decode cX12_squeeze 57 = .ok (.goto 4, 3) := by decide +kernel
theorem dX12_squeeze_60 : decode cX12_squeeze 60 = .ok (.iload_n 1, 1) := by decide +kernel
theorem dX12_squeeze_61 : decode cX12_squeeze 61 = .ok (.istore_n 1, 1) := by decide +kernel
theorem dX12_squeeze_62 : decode cX12_squeeze 62 = .ok (.aload_n 0, 1) := by decide +kernel
theorem dX12_squeeze_63 : decode cX12_squeeze 63 = .ok (.aload_n 0, 1) := by decide +kernel
theorem dX12_squeeze_64 : decode cX12_squeeze 64 = .ok (.getfield 64, 3) := by decide +kernel
theorem dX12_squeeze_67 : decode cX12_squeeze 67 = .ok (.iload_n 2, 1) := by decide +kernel
theorem dX12_squeeze_68 : decode cX12_squeeze 68 = .ok (.iaload, 1) := by decide +kernel
theorem dX12_squeeze_69 : decode cX12_squeeze 69 = .ok (.iload_n 2, 1) := by decide +kernel
theorem dX12_squeeze_70 : decode cX12_squeeze 70 = .ok (.invokevirtual 429, 3) := by decide +kernel
theorem dX12_squeeze_73 : decode cX12_squeeze 73 = .ok (.istore_n 2, 1) := by decide +kernel
theorem dX12_squeeze_74 : decode cX12_squeeze 74 = .ok (.goto (-33), 3) := by decide +kernel
theorem dX12_squeeze_77 : decode cX12_squeeze 77 = .ok (.iload_n 1, 1) := by decide +kernel
theorem dX12_squeeze_78 : decode cX12_squeeze 78 = .ok (.ifCond .ne 5, 3) := by decide +kernel
theorem dX12_squeeze_81 : decode cX12_squeeze 81 = .ok (.iconst (-1), 1) := by decide +kernel
theorem dX12_squeeze_82 : decode cX12_squeeze 82 = .ok (.ireturn, 1) := by decide +kernel
theorem dX12_squeeze_83 : decode cX12_squeeze 83 = .ok (.aload_n 0, 1) := by decide +kernel
theorem dX12_squeeze_84 : decode cX12_squeeze 84 = .ok (.invokevirtual 417, 3) := by decide +kernel
theorem dX12_squeeze_87 : decode cX12_squeeze 87 = .ok (.iload_n 1, 1) := by decide +kernel
theorem dX12_squeeze_88 : decode cX12_squeeze 88 = .ok (.ireturn, 1) := by decide +kernel
theorem dX12_places_0 : decode cX12_places 0 = .ok (.aload_n 0, 1) := by decide +kernel
theorem dX12_places_1 : decode cX12_places 1 = .ok (.iload_n 1, 1) := by decide +kernel
theorem dX12_places_2 : decode cX12_places 2 = .ok (.invokevirtual 297, 3) := by decide +kernel
theorem dX12_places_5 : decode cX12_places 5 = .ok (.ifCond .eq 9, 3) := by decide +kernel
theorem dX12_places_8 : decode cX12_places 8 = .ok (.iload 4, 2) := by decide +kernel
theorem dX12_places_10 : decode cX12_places 10 = .ok (.iconst (-1), 1) := by decide +kernel
theorem dX12_places_11 : decode cX12_places 11 = .ok (.if_icmp .ge 5, 3) := by decide +kernel
theorem dX12_places_14 : decode cX12_places 14 = .ok (.iconst (-1), 1) := by decide +kernel
theorem dX12_places_15 : decode cX12_places 15 = .ok (.ireturn, 1) := by decide +kernel
theorem dX12_places_16 : decode cX12_places 16 = .ok (.iconst 0, 1) := by decide +kernel
theorem dX12_places_17 : decode cX12_places 17 = .ok (.istore 5, 2) := by decide +kernel
theorem dX12_places_19 : decode cX12_places 19 = .ok (.iconst 0, 1) := by decide +kernel
theorem dX12_places_20 : decode cX12_places 20 = .ok (.istore 6, 2) := by decide +kernel
theorem dX12_places_22 : decode cX12_places 22 = .ok (.iload 6, 2) := by decide +kernel
theorem dX12_places_24 : decode cX12_places 24 = .ok (.aload_n 0, 1) := by decide +kernel
theorem dX12_places_25 : decode cX12_places 25 = .ok (.iload_n 1, 1) := by decide +kernel
theorem dX12_places_26 : decode cX12_places 26 = .ok (.iconst 0, 1) := by decide +kernel
theorem dX12_places_27 : decode cX12_places 27 = .ok (.invokevirtual 316, 3) := by decide +kernel
theorem dX12_places_30 : decode cX12_places 30 = .ok (.iadd, 1) := by decide +kernel
theorem dX12_places_31 : decode cX12_places 31 = .ok (.aload_n 0, 1) := by decide +kernel
theorem dX12_places_32 : decode cX12_places 32 = .ok (.getfield 13, 3) := by decide +kernel
theorem dX12_places_35 : decode cX12_places 35 = .ok (.iconst 0, 1) := by decide +kernel
theorem dX12_places_36 : decode cX12_places 36 = .ok (.iaload, 1) := by decide +kernel
theorem dX12_places_37 : decode cX12_places 37 = .ok (.if_icmp .gt 46, 3) := by decide +kernel
theorem dX12_places_40 : decode cX12_places 40 = .ok (.aload_n 0, 1) := by decide +kernel
theorem dX12_places_41 : decode cX12_places 41 = .ok (.iload_n 1, 1) := by decide +kernel
theorem dX12_places_42 : decode cX12_places 42 = .ok (.iload 6, 2) := by decide +kernel
theorem dX12_places_44 : decode cX12_places 44 = .ok (.i2l, 1) := by decide +kernel
theorem dX12_places_45 : decode cX12_places 45 = .ok (.iload_n 2, 1) := by decide +kernel
theorem dX12_places_46 : decode cX12_places 46 = .ok (.i2l, 1) := by decide +kernel
theorem dX12_places_47 : decode cX12_places 47 = .ok (.iload_n 3, 1) := by decide +kernel
theorem dX12_places_48 : decode cX12_places 48 = .ok (.invokevirtual 390, 3) := by decide +kernel
theorem dX12_places_51 : decode cX12_places 51 = .ok (.ifCond .eq 6, 3) := by decide +kernel
theorem dX12_places_54 : decode cX12_places 54 = .ok (.goto 19, 3) := by decide +kernel
theorem dX12_places_57 : decode cX12_places 57 = .ok (.iload 5, 2) := by decide +kernel
theorem dX12_places_59 : decode cX12_places 59 = .ok (.iload 4, 2) := by decide +kernel
theorem dX12_places_61 : decode cX12_places 61 = .ok (.if_icmp .ne 6, 3) := by decide +kernel
theorem dX12_places_64 : decode cX12_places 64 = .ok (.iload 6, 2) := by decide +kernel
theorem dX12_places_66 : decode cX12_places 66 = .ok (.ireturn, 1) := by decide +kernel
theorem dX12_places_67 : decode cX12_places 67 = .ok (.iload 5, 2) := by decide +kernel
theorem dX12_places_69 : decode cX12_places 69 = .ok (.iconst 1, 1) := by decide +kernel
theorem dX12_places_70 : decode cX12_places 70 = .ok (.iadd, 1) := by decide +kernel
theorem dX12_places_71 : decode cX12_places 71 = .ok (.istore 5, 2) := by decide +kernel
theorem dX12_places_73 : decode cX12_places 73 = .ok (.iload 6, 2) := by decide +kernel
theorem dX12_places_75 : decode cX12_places 75 = .ok (.bipush 10, 2) := by decide +kernel
theorem dX12_places_77 : decode cX12_places 77 = .ok (.iadd, 1) := by decide +kernel
theorem dX12_places_78 : decode cX12_places 78 = .ok (.istore 6, 2) := by decide +kernel
theorem dX12_places_80 : decode cX12_places 80 = .ok (.goto (-58), 3) := by decide +kernel
theorem dX12_places_83 : decode cX12_places 83 = .ok (.iload 4, 2) := by decide +kernel
theorem dX12_places_85 : decode cX12_places 85 = .ok (.iconst (-1), 1) := by decide +kernel
theorem dX12_places_86 : decode cX12_places 86 = .ok (.if_icmp .ne 8, 3) := by decide +kernel
theorem dX12_places_89 : decode cX12_places 89 = .ok (.iload 5, 2) := by decide +kernel
theorem dX12_places_91 : decode cX12_places 91 = .ok (.goto 5, 3) := by decide +kernel
theorem dX12_places_94 : decode cX12_places 94 = .ok (.bipush (-2), 2) := by decide +kernel
theorem dX12_places_96 : decode cX12_places 96 = .ok (.ireturn, 1) := by decide +kernel
theorem dX12_hopeless_0 : decode cX12_hopeless 0 = .ok (.aload_n 0, 1) := by decide +kernel
theorem dX12_hopeless_1 : decode cX12_hopeless 1 = .ok (.bipush 16, 2) := by decide +kernel
theorem dX12_hopeless_3 : decode cX12_hopeless 3 = .ok (.invokevirtual 414, 3) := by decide +kernel
theorem dX12_hopeless_6 : decode cX12_hopeless 6 = .ok (.iconst 0, 1) := by decide +kernel
theorem dX12_hopeless_7 : decode cX12_hopeless 7 = .ok (.istore_n 1, 1) := by decide +kernel
theorem dX12_hopeless_8 : decode cX12_hopeless 8 = .ok (.iload_n 1, 1) := by decide +kernel
theorem dX12_hopeless_9 : decode cX12_hopeless 9 = .ok (.bipush 14, 2) := by decide +kernel
theorem dX12_hopeless_11 : decode cX12_hopeless 11 = .ok (.if_icmp .ge 16, 3) := by decide +kernel
theorem dX12_hopeless_14 : decode cX12_hopeless 14 = .ok (.aload_n 0, 1) := by decide +kernel
theorem dX12_hopeless_15 : decode cX12_hopeless 15 = .ok (.getfield 42, 3) := by decide +kernel
theorem dX12_hopeless_18 : decode cX12_hopeless 18 = .ok (.iload_n 1, 1) := by decide +kernel
theorem dX12_hopeless_19 : decode cX12_hopeless 19 = .ok (.iconst 0, 1) := by decide +kernel
theorem dX12_hopeless_20 : decode cX12_hopeless 20 = .ok (.iastore, 1) := by decide +kernel
theorem dX12_hopeless_21 : decode cX12_hopeless 21 = .ok (.iinc 1 1, 3) := by decide +kernel
theorem dX12_hopeless_24 : decode cX12_hopeless 24 = .ok (.goto (-16), 3) := by decide +kernel
theorem dX12_hopeless_27 : decode cX12_hopeless 27 = .ok (.iconst 0, 1) := by decide +kernel
theorem dX12_hopeless_28 : decode cX12_hopeless 28 = .ok (.istore_n 1, 1) := by decide +kernel
theorem dX12_hopeless_29 : decode cX12_hopeless 29 = .ok (.iconst 0, 1) := by decide +kernel
theorem dX12_hopeless_30 : decode cX12_hopeless 30 = .ok (.istore_n 2, 1) := by decide +kernel
theorem dX12_hopeless_31 : decode cX12_hopeless 31 = .ok (.iload_n 2, 1) := by decide +kernel
theorem dX12_hopeless_32 : decode cX12_hopeless 32 = .ok (.aload_n 0, 1) := by decide +kernel
theorem dX12_hopeless_33 : decode cX12_hopeless 33 = .ok (.getfield 13, 3) := by decide +kernel
theorem dX12_hopeless_36 : decode cX12_hopeless 36 = .ok (.bipush 9, 2) := by decide +kernel
theorem dX12_hopeless_38 : decode cX12_hopeless 38 = .ok (.iaload, 1) := by decide +kernel
theorem dX12_hopeless_39 : decode cX12_hopeless 39 = .ok (.if_icmp .ge 28, 3) := by decide +kernel
theorem dX12_hopeless_42 : decode cX12_hopeless 42 = .ok (.aload_n 0, 1) := by decide +kernel
theorem dX12_hopeless_43 : decode cX12_hopeless 43 = .ok (.iload_n 2, 1) := by decide +kernel
theorem dX12_hopeless_44 : decode cX12_hopeless 44 = .ok (.invokevirtual 408, 3) := by decide +kernel
theorem dX12_hopeless_47 : decode cX12_hopeless 47 = .ok (.iconst (-1), 1) := by decide +kernel
theorem dX12_hopeless_48 : decode cX12_hopeless 48 = .ok (.if_icmp .ne 11, 3) := by decide +kernel
theorem dX12_hopeless_51 : decode cX12_hopeless 51 = .ok (.iload_n 1, 1) := by decide +kernel
theorem dX12_hopeless_52 : decode cX12_hopeless 52 = .ok (.iconst 1, 1) := by decide +kernel
theorem dX12_hopeless_53 : decode cX12_hopeless 53 = .ok (.iload_n 2, 1) := by decide +kernel
theorem dX12_hopeless_54 : decode cX12_hopeless 54 = .ok (.ishl, 1) := by decide +kernel
theorem dX12_hopeless_55 : decode cX12_hopeless 55 = .ok (.ior, 1) := by decide +kernel
theorem dX12_hopeless_56 : decode cX12_hopeless 56 = .ok (.goto 4, 3) := by decide +kernel
theorem dX12_hopeless_59 : decode cX12_hopeless 59 = .ok (.iload_n 1, 1) := by decide +kernel
theorem dX12_hopeless_60 : decode cX12_hopeless 60 = .ok (.istore_n 1, 1) := by decide +kernel
theorem dX12_hopeless_61 : decode cX12_hopeless 61 = .ok (.iinc 2 1, 3) := by decide +kernel
theorem dX12_hopeless_64 : decode cX12_hopeless 64 = .ok (.goto (-33), 3) := by decide +kernel
theorem dX12_hopeless_67 : decode cX12_hopeless 67 = .ok (.aload_n 0, 1) := by decide +kernel
theorem dX12_hopeless_68 : decode cX12_hopeless 68 = .ok (.bipush 16, 2) := by decide +kernel
theorem dX12_hopeless_70 : decode cX12_hopeless 70 = .ok (.invokevirtual 426, 3) := by decide +kernel
theorem dX12_hopeless_73 : decode cX12_hopeless 73 = .ok (.iload_n 1, 1) := by decide +kernel
theorem dX12_hopeless_74 : decode cX12_hopeless 74 = .ok (.ireturn, 1) := by decide +kernel
theorem dX12_slack_0 : decode cX12_slack 0 = .ok (.aload_n 0, 1) := by decide +kernel
theorem dX12_slack_1 : decode cX12_slack 1 = .ok (.iload_n 1, 1) := by decide +kernel
theorem dX12_slack_2 : decode cX12_slack 2 = .ok (.invokevirtual 297, 3) := by decide +kernel
theorem dX12_slack_5 : decode cX12_slack 5 = .ok (.ifCond .ne 5, 3) := by decide +kernel
theorem dX12_slack_8 : decode cX12_slack 8 = .ok (.iconst (-1), 1) := by decide +kernel
theorem dX12_slack_9 : decode cX12_slack 9 = .ok (.ireturn, 1) := by decide +kernel
theorem dX12_slack_10 : decode cX12_slack 10 = .ok (.aload_n 0, 1) := by decide +kernel
theorem dX12_slack_11 : decode cX12_slack 11 = .ok (.iload_n 1, 1) := by decide +kernel
theorem dX12_slack_12 : decode cX12_slack 12 = .ok (.invokevirtual 326, 3) := by decide +kernel
theorem dX12_slack_15 : decode cX12_slack 15 = .ok (.ifCond .ne 6, 3) := by decide +kernel
theorem dX12_slack_18 : decode cX12_slack 18 = .ok (.bipush (-2), 2) := by decide +kernel
theorem dX12_slack_20 : decode cX12_slack 20 = .ok (.ireturn, 1) := by decide +kernel
theorem dX12_slack_21 : decode cX12_slack 21 = .ok (.sipush 335, 3) := by decide +kernel
theorem dX12_slack_24 : decode cX12_slack 24 = .ok (.istore_n 2, 1) := by decide +kernel
theorem dX12_slack_25 : decode cX12_slack 25 = .ok (.iload_n 2, 1) := by decide +kernel
theorem dX12_slack_26 : decode cX12_slack 26 = .ok (.aload_n 0, 1) := by decide +kernel
theorem dX12_slack_27 : decode cX12_slack 27 = .ok (.getfield 39, 3) := by decide +kernel
theorem dX12_slack_30 : decode cX12_slack 30 = .ok (.iload_n 1, 1) := by decide +kernel
theorem dX12_slack_31 : decode cX12_slack 31 = .ok (.iaload, 1) := by decide +kernel
theorem dX12_slack_32 : decode cX12_slack 32 = .ok (.if_icmp .le 41, 3) := by decide +kernel
theorem dX12_slack_35 : decode cX12_slack 35 = .ok (.aload_n 0, 1) := by decide +kernel
theorem dX12_slack_36 : decode cX12_slack 36 = .ok (.iload_n 1, 1) := by decide +kernel
theorem dX12_slack_37 : decode cX12_slack 37 = .ok (.aload_n 0, 1) := by decide +kernel
theorem dX12_slack_38 : decode cX12_slack 38 = .ok (.getfield 36, 3) := by decide +kernel
theorem dX12_slack_41 : decode cX12_slack 41 = .ok (.iload_n 1, 1) := by decide +kernel
theorem dX12_slack_42 : decode cX12_slack 42 = .ok (.iaload, 1) := by decide +kernel
theorem dX12_slack_43 : decode cX12_slack 43 = .ok (.i2l, 1) := by decide +kernel
theorem dX12_slack_44 : decode cX12_slack 44 = .ok (.iload_n 2, 1) := by decide +kernel
theorem dX12_slack_45 : decode cX12_slack 45 = .ok (.i2l, 1) := by decide +kernel
theorem dX12_slack_46 : decode cX12_slack 46 = .ok (.aload_n 0, 1) := by decide +kernel
theorem dX12_slack_47 : decode cX12_slack 47 = .ok (.getfield 42, 3) := by decide +kernel
theorem dX12_slack_50 : decode cX12_slack 50 = .ok (.iload_n 1, 1) := by decide +kernel
theorem dX12_slack_51 : decode cX12_slack 51 = .ok (.iaload, 1) := by decide +kernel
theorem dX12_slack_52 : decode cX12_slack 52 = .ok (.invokevirtual 390, 3) := by decide +kernel
theorem dX12_slack_55 : decode cX12_slack 55 = .ok (.ifCond .ne 12, 3) := by decide +kernel
theorem dX12_slack_58 : decode cX12_slack 58 = .ok (.iload_n 2, 1) := by decide +kernel
theorem dX12_slack_59 : decode cX12_slack 59 = .ok (.aload_n 0, 1) := by decide +kernel
theorem dX12_slack_60 : decode cX12_slack 60 = .ok (.getfield 39, 3) := by decide +kernel
theorem dX12_slack_63 : decode cX12_slack 63 = .ok (.iload_n 1, 1) := by decide +kernel
theorem dX12_slack_64 : decode cX12_slack 64 = .ok (.iaload, 1) := by decide +kernel
theorem dX12_slack_65 : decode cX12_slack 65 = .ok (.isub, 1) := by decide +kernel
theorem dX12_slack_66 : decode cX12_slack 66 = .ok (.ireturn, 1) := by decide +kernel
theorem dX12_slack_67 : decode cX12_slack 67 = .ok (.iinc 2 (-1), 3) := by decide +kernel
theorem dX12_slack_70 : decode cX12_slack 70 = .ok (.goto (-45), 3) := by decide +kernel
theorem dX12_slack_73 : decode cX12_slack 73 = .ok (.iconst 0, 1) := by decide +kernel
theorem dX12_slack_74 : decode cX12_slack 74 = .ok (.ireturn, 1) := by decide +kernel
theorem dX12_along_0 : decode cX12_along 0 = .ok (.aload_n 0, 1) := by decide +kernel
theorem dX12_along_1 : decode cX12_along 1 = .ok (.iload_n 1, 1) := by decide +kernel
theorem dX12_along_2 : decode cX12_along 2 = .ok (.invokevirtual 297, 3) := by decide +kernel
theorem dX12_along_5 : decode cX12_along 5 = .ok (.ifCond .eq 13, 3) := by decide +kernel
theorem dX12_along_8 : decode cX12_along 8 = .ok (.iload_n 2, 1) := by decide +kernel
theorem dX12_along_9 : decode cX12_along 9 = .ok (.i2l, 1) := by decide +kernel
theorem dX12_along_10 : decode cX12_along 10 = .ok (.lconst 0, 1) := by decide +kernel
theorem dX12_along_11 : decode cX12_along 11 = .ok (.lconst 1, 1) := by decide +kernel
theorem dX12_along_12 : decode cX12_along 12 = .ok (.invokestatic 99, 3) := by decide +kernel
theorem dX12_along_15 : decode cX12_along 15 = .ok (.ifCond .ne 5, 3) := by decide +kernel
theorem dX12_along_18 : decode cX12_along 18 = .ok (.iconst (-1), 1) := by decide +kernel
theorem dX12_along_19 : decode cX12_along 19 = .ok (.ireturn, 1) := by decide +kernel
theorem dX12_along_20 : decode cX12_along 20 = .ok (.aload_n 0, 1) := by decide +kernel
theorem dX12_along_21 : decode cX12_along 21 = .ok (.iload_n 1, 1) := by decide +kernel
theorem dX12_along_22 : decode cX12_along 22 = .ok (.invokevirtual 326, 3) := by decide +kernel
theorem dX12_along_25 : decode cX12_along 25 = .ok (.ifCond .ne 6, 3) := by decide +kernel
theorem dX12_along_28 : decode cX12_along 28 = .ok (.bipush (-2), 2) := by decide +kernel
theorem dX12_along_30 : decode cX12_along 30 = .ok (.ireturn, 1) := by decide +kernel
theorem dX12_along_31 : decode cX12_along 31 = .ok (.iload_n 2, 1) := by decide +kernel
theorem dX12_along_32 : decode cX12_along 32 = .ok (.ifCond .ne 7, 3) := by decide +kernel
theorem dX12_along_35 : decode cX12_along 35 = .ok (.iconst (-1), 1) := by decide +kernel
theorem dX12_along_36 : decode cX12_along 36 = .ok (.goto 4, 3) := by decide +kernel
theorem dX12_along_39 : decode cX12_along 39 = .ok (.iconst 1, 1) := by decide +kernel
theorem dX12_along_40 : decode cX12_along 40 = .ok (.istore_n 3, 1) := by decide +kernel
theorem dX12_along_41 : decode cX12_along 41 = .ok (.aload_n 0, 1) := by decide +kernel
theorem dX12_along_42 : decode cX12_along 42 = .ok (.getfield 36, 3) := by decide +kernel
theorem dX12_along_45 : decode cX12_along 45 = .ok (.iload_n 1, 1) := by decide +kernel
theorem dX12_along_46 : decode cX12_along 46 = .ok (.iaload, 1) := by decide +kernel
theorem dX12_along_47 : decode cX12_along 47 = .ok (.istore 4, 2) := by decide +kernel
theorem dX12_along_49 : decode cX12_along 49 = .ok (.aload_n 0, 1) := by decide +kernel
theorem dX12_along_50 : decode cX12_along 50 = .ok (.iload_n 1, 1) := by decide +kernel
theorem dX12_along_51 : decode cX12_along 51 = .ok (.iload 4, 2) := by decide +kernel
theorem dX12_along_53 : decode cX12_along 53 = .ok (.iload_n 3, 1) := by decide +kernel
theorem dX12_along_54 : decode cX12_along 54 = .ok (.iadd, 1) := by decide +kernel
theorem dX12_along_55 : decode cX12_along 55 = .ok (.i2l, 1) := by decide +kernel
theorem dX12_along_56 : decode cX12_along 56 = .ok (.aload_n 0, 1) := by decide +kernel
theorem dX12_along_57 : decode cX12_along 57 = .ok (.getfield 39, 3) := by decide +kernel
theorem dX12_along_60 : decode cX12_along 60 = .ok (.iload_n 1, 1) := by decide +kernel
theorem dX12_along_61 : decode cX12_along 61 = .ok (.iaload, 1) := by decide +kernel
theorem dX12_along_62 : decode cX12_along 62 = .ok (.i2l, 1) := by decide +kernel
theorem dX12_along_63 : decode cX12_along 63 = .ok (.aload_n 0, 1) := by decide +kernel
theorem dX12_along_64 : decode cX12_along 64 = .ok (.getfield 42, 3) := by decide +kernel
theorem dX12_along_67 : decode cX12_along 67 = .ok (.iload_n 1, 1) := by decide +kernel
theorem dX12_along_68 : decode cX12_along 68 = .ok (.iaload, 1) := by decide +kernel
theorem dX12_along_69 : decode cX12_along 69 = .ok (.invokevirtual 390, 3) := by decide +kernel
theorem dX12_along_72 : decode cX12_along 72 = .ok (.ifCond .ne 12, 3) := by decide +kernel
theorem dX12_along_75 : decode cX12_along 75 = .ok (.iload 4, 2) := by decide +kernel
theorem dX12_along_77 : decode cX12_along 77 = .ok (.iload_n 3, 1) := by decide +kernel
theorem dX12_along_78 : decode cX12_along 78 = .ok (.iadd, 1) := by decide +kernel
theorem dX12_along_79 : decode cX12_along 79 = .ok (.istore 4, 2) := by decide +kernel
theorem dX12_along_81 : decode cX12_along 81 = .ok (.goto (-32), 3) := by decide +kernel
theorem dX12_along_84 : decode cX12_along 84 = .ok (.iload 4, 2) := by decide +kernel
theorem dX12_along_86 : decode cX12_along 86 = .ok (.ireturn, 1) := by decide +kernel
theorem dX12_first_0 : decode cX12_first 0 = .ok (.iload_n 0, 1) := by decide +kernel
theorem dX12_first_1 : decode cX12_first 1 = .ok (.ifCond .eq 7, 3) := by decide +kernel
theorem dX12_first_4 : decode cX12_first 4 = .ok (.iload_n 0, 1) := by decide +kernel
theorem dX12_first_5 : decode cX12_first 5 = .ok (.goto 12, 3) := by decide +kernel
theorem dX12_first_8 : decode cX12_first 8 = .ok (.iload_n 1, 1) := by decide +kernel
theorem dX12_first_9 : decode cX12_first 9 = .ok (.ifCond .eq 7, 3) := by decide +kernel
theorem dX12_first_12 : decode cX12_first 12 = .ok (.iload_n 1, 1) := by decide +kernel
theorem dX12_first_13 : decode cX12_first 13 = .ok (.goto 4, 3) := by decide +kernel
theorem dX12_first_16 : decode cX12_first 16 = .ok (.iload_n 2, 1) := by decide +kernel
theorem dX12_first_17 : decode cX12_first 17 = .ok (.ireturn, 1) := by decide +kernel
theorem dX12_compares_0 : decode cX12_compares 0 = .ok (.aload_n 0, 1) := by decide +kernel
theorem dX12_compares_1 : decode cX12_compares 1 = .ok (.iload_n 2, 1) := by decide +kernel
theorem dX12_compares_2 : decode cX12_compares 2 = .ok (.bipush 6, 2) := by decide +kernel
theorem dX12_compares_4 : decode cX12_compares 4 = .ok (.invokevirtual 316, 3) := by decide +kernel
theorem dX12_compares_7 : decode cX12_compares 7 = .ok (.aload_n 0, 1) := by decide +kernel
theorem dX12_compares_8 : decode cX12_compares 8 = .ok (.iload_n 3, 1) := by decide +kernel
theorem dX12_compares_9 : decode cX12_compares 9 = .ok (.bipush 6, 2) := by decide +kernel
theorem dX12_compares_11 : decode cX12_compares 11 = .ok (.invokevirtual 316, 3) := by decide +kernel
theorem dX12_compares_14 : decode cX12_compares 14 = .ok (.isub, 1) := by decide +kernel
theorem dX12_compares_15 : decode cX12_compares 15 = .ok (.istore 4, 2) := by decide +kernel
theorem dX12_compares_17 : decode cX12_compares 17 = .ok (.aload_n 0, 1) := by decide +kernel
theorem dX12_compares_18 : decode cX12_compares 18 = .ok (.iload_n 2, 1) := by decide +kernel
theorem dX12_compares_19 : decode cX12_compares 19 = .ok (.iconst 4, 1) := by decide +kernel
theorem dX12_compares_20 : decode cX12_compares 20 = .ok (.invokevirtual 316, 3) := by decide +kernel
theorem dX12_compares_23 : decode cX12_compares 23 = .ok (.aload_n 0, 1) := by decide +kernel
theorem dX12_compares_24 : decode cX12_compares 24 = .ok (.iload_n 3, 1) := by decide +kernel
theorem dX12_compares_25 : decode cX12_compares 25 = .ok (.iconst 4, 1) := by decide +kernel
theorem dX12_compares_26 : decode cX12_compares 26 = .ok (.invokevirtual 316, 3) := by decide +kernel
theorem dX12_compares_29 : decode cX12_compares 29 = .ok (.isub, 1) := by decide +kernel
theorem dX12_compares_30 : decode cX12_compares 30 = .ok (.istore 5, 2) := by decide +kernel
theorem dX12_compares_32 : decode cX12_compares 32 = .ok (.iload_n 1, 1) := by decide +kernel
theorem dX12_compares_33 : decode cX12_compares 33 = .ok (.tableswitch 70 0 2 #[27, 38, 49], 27) := by decide +kernel
theorem dX12_compares_60 : decode cX12_compares 60 = .ok (.iload 4, 2) := by decide +kernel
theorem dX12_compares_62 : decode cX12_compares 62 = .ok (.iload 5, 2) := by decide +kernel
theorem dX12_compares_64 : decode cX12_compares 64 = .ok (.iload_n 2, 1) := by decide +kernel
theorem dX12_compares_65 : decode cX12_compares 65 = .ok (.iload_n 3, 1) := by decide +kernel
theorem dX12_compares_66 : decode cX12_compares 66 = .ok (.isub, 1) := by decide +kernel
theorem dX12_compares_67 : decode cX12_compares 67 = .ok (.invokestatic 435, 3) := by decide +kernel
theorem dX12_compares_70 : decode cX12_compares 70 = .ok (.ireturn, 1) := by decide +kernel
theorem dX12_compares_71 : decode cX12_compares 71 = .ok (.iload 5, 2) := by decide +kernel
theorem dX12_compares_73 : decode cX12_compares 73 = .ok (.iload 4, 2) := by decide +kernel
theorem dX12_compares_75 : decode cX12_compares 75 = .ok (.iload_n 2, 1) := by decide +kernel
theorem dX12_compares_76 : decode cX12_compares 76 = .ok (.iload_n 3, 1) := by decide +kernel
theorem dX12_compares_77 : decode cX12_compares 77 = .ok (.isub, 1) := by decide +kernel
theorem dX12_compares_78 : decode cX12_compares 78 = .ok (.invokestatic 435, 3) := by decide +kernel
theorem dX12_compares_81 : decode cX12_compares 81 = .ok (.ireturn, 1) := by decide +kernel
theorem dX12_compares_82 : decode cX12_compares 82 = .ok (.aload_n 0, 1) := by decide +kernel
theorem dX12_compares_83 : decode cX12_compares 83 = .ok (.iload_n 2, 1) := by decide +kernel
theorem dX12_compares_84 : decode cX12_compares 84 = .ok (.iconst 5, 1) := by decide +kernel
theorem dX12_compares_85 : decode cX12_compares 85 = .ok (.invokevirtual 316, 3) := by decide +kernel
theorem dX12_compares_88 : decode cX12_compares 88 = .ok (.aload_n 0, 1) := by decide +kernel
theorem dX12_compares_89 : decode cX12_compares 89 = .ok (.iload_n 3, 1) := by decide +kernel
theorem dX12_compares_90 : decode cX12_compares 90 = .ok (.iconst 5, 1) := by decide +kernel
theorem dX12_compares_91 : decode cX12_compares 91 = .ok (.invokevirtual 316, 3) := by decide +kernel
theorem dX12_compares_94 : decode cX12_compares 94 = .ok (.isub, 1) := by decide +kernel
theorem dX12_compares_95 : decode cX12_compares 95 = .ok (.iload_n 2, 1) := by decide +kernel
theorem dX12_compares_96 : decode cX12_compares 96 = .ok (.iload_n 3, 1) := by decide +kernel
theorem dX12_compares_97 : decode cX12_compares 97 = .ok (.isub, 1) := by decide +kernel
theorem dX12_compares_98 : decode cX12_compares 98 = .ok (.iconst 0, 1) := by decide +kernel
theorem dX12_compares_99 : decode cX12_compares 99 = .ok (.invokestatic 435, 3) := by decide +kernel
theorem dX12_compares_102 : decode cX12_compares 102 = .ok (.ireturn, 1) := by decide +kernel
theorem dX12_compares_103 : decode cX12_compares 103 = .ok (.aload_n 0, 1) := by decide +kernel
theorem dX12_compares_104 : decode cX12_compares 104 = .ok (.iload_n 3, 1) := by decide +kernel
theorem dX12_compares_105 : decode cX12_compares 105 = .ok (.iconst 0, 1) := by decide +kernel
theorem dX12_compares_106 : decode cX12_compares 106 = .ok (.invokevirtual 316, 3) := by decide +kernel
theorem dX12_compares_109 : decode cX12_compares 109 = .ok (.aload_n 0, 1) := by decide +kernel
theorem dX12_compares_110 : decode cX12_compares 110 = .ok (.iload_n 2, 1) := by decide +kernel
theorem dX12_compares_111 : decode cX12_compares 111 = .ok (.iconst 0, 1) := by decide +kernel
theorem dX12_compares_112 : decode cX12_compares 112 = .ok (.invokevirtual 316, 3) := by decide +kernel
theorem dX12_compares_115 : decode cX12_compares 115 = .ok (.isub, 1) := by decide +kernel
theorem dX12_compares_116 : decode cX12_compares 116 = .ok (.iload_n 2, 1) := by decide +kernel
theorem dX12_compares_117 : decode cX12_compares 117 = .ok (.iload_n 3, 1) := by decide +kernel
theorem dX12_compares_118 : decode cX12_compares 118 = .ok (.isub, 1) := by decide +kernel
theorem dX12_compares_119 : decode cX12_compares 119 = .ok (.iconst 0, 1) := by decide +kernel
theorem dX12_compares_120 : decode cX12_compares 120 = .ok (.invokestatic 435, 3) := by decide +kernel
theorem dX12_compares_123 : decode cX12_compares 123 = .ok (.ireturn, 1) := by decide +kernel
theorem dX12_laysOrder_0 : decode cX12_laysOrder 0 = .ok (.iconst 0, 1) := by decide +kernel
theorem dX12_laysOrder_1 : decode cX12_laysOrder 1 = .ok (.istore_n 2, 1) := by decide +kernel
theorem dX12_laysOrder_2 : decode cX12_laysOrder 2 = .ok (.iload_n 2, 1) := by decide +kernel
theorem dX12_laysOrder_3 : decode cX12_laysOrder 3 = .ok (.aload_n 0, 1) := by decide +kernel
theorem dX12_laysOrder_4 : decode cX12_laysOrder 4 = .ok (.getfield 13, 3) := by decide +kernel
theorem dX12_laysOrder_7 : decode cX12_laysOrder 7 = .ok (.bipush 9, 2) := by decide +kernel
theorem dX12_laysOrder_9 : decode cX12_laysOrder 9 = .ok (.iaload, 1) := by decide +kernel
theorem dX12_laysOrder_10 : decode cX12_laysOrder 10 = .ok (.if_icmp .ge 60, 3) := by decide +kernel
theorem dX12_laysOrder_13 : decode cX12_laysOrder 13 = .ok (.iload_n 2, 1) := by decide +kernel
theorem dX12_laysOrder_14 : decode cX12_laysOrder 14 = .ok (.istore_n 3, 1) := by decide +kernel
theorem dX12_laysOrder_15 : decode cX12_laysOrder 15 = .ok (.iload_n 3, 1) := by decide +kernel
theorem dX12_laysOrder_16 : decode cX12_laysOrder 16 = .ok (.ifCond .le 41, 3) := by decide +kernel
theorem dX12_laysOrder_19 : decode cX12_laysOrder 19 = .ok (.aload_n 0, 1) := by decide +kernel
theorem dX12_laysOrder_20 : decode cX12_laysOrder 20 = .ok (.iload_n 1, 1) := by decide +kernel
theorem dX12_laysOrder_21 : decode cX12_laysOrder 21 = .ok (.iload_n 2, 1) := by decide +kernel
theorem dX12_laysOrder_22 : decode cX12_laysOrder 22 = .ok (.aload_n 0, 1) := by decide +kernel
theorem dX12_laysOrder_23 : decode cX12_laysOrder 23 = .ok (.getfield 67, 3) := by decide +kernel
theorem dX12_laysOrder_26 : decode cX12_laysOrder 26 = .ok (.iload_n 3, 1) := by decide +kernel
theorem dX12_laysOrder_27 : decode cX12_laysOrder 27 = .ok (.iconst 1, 1) := by decide +kernel
theorem dX12_laysOrder_28 : decode cX12_laysOrder 28 = .ok (.isub, 1) := by decide +kernel
theorem dX12_laysOrder_29 : decode cX12_laysOrder 29 = .ok (.iaload, 1) := by decide +kernel
theorem dX12_laysOrder_30 : decode cX12_laysOrder 30 = .ok (.invokevirtual 438, 3) := by decide +kernel
theorem dX12_laysOrder_33 : decode cX12_laysOrder 33 = .ok (.ifCond .ge 24, 3) := by decide +kernel
theorem dX12_laysOrder_36 : decode cX12_laysOrder 36 = .ok (.aload_n 0, 1) := by decide +kernel
theorem dX12_laysOrder_37 : decode cX12_laysOrder 37 = .ok (.getfield 67, 3) := by decide +kernel
theorem dX12_laysOrder_40 : decode cX12_laysOrder 40 = .ok (.iload_n 3, 1) := by decide +kernel
theorem dX12_laysOrder_41 : decode cX12_laysOrder 41 = .ok (.aload_n 0, 1) := by decide +kernel
theorem dX12_laysOrder_42 : decode cX12_laysOrder 42 = .ok (.getfield 67, 3) := by decide +kernel
theorem dX12_laysOrder_45 : decode cX12_laysOrder 45 = .ok (.iload_n 3, 1) := by decide +kernel
theorem dX12_laysOrder_46 : decode cX12_laysOrder 46 = .ok (.iconst 1, 1) := by decide +kernel
theorem dX12_laysOrder_47 : decode cX12_laysOrder 47 = .ok (.isub, 1) := by decide +kernel
theorem dX12_laysOrder_48 : decode cX12_laysOrder 48 = .ok (.iaload, 1) := by decide +kernel
theorem dX12_laysOrder_49 : decode cX12_laysOrder 49 = .ok (.iastore, 1) := by decide +kernel
theorem dX12_laysOrder_50 : decode cX12_laysOrder 50 = .ok (.iload_n 3, 1) := by decide +kernel
theorem dX12_laysOrder_51 : decode cX12_laysOrder 51 = .ok (.iconst 1, 1) := by decide +kernel
theorem dX12_laysOrder_52 : decode cX12_laysOrder 52 = .ok (.isub, 1) := by decide +kernel
theorem dX12_laysOrder_53 : decode cX12_laysOrder 53 = .ok (.istore_n 3, 1) := by decide +kernel
theorem dX12_laysOrder_54 : decode cX12_laysOrder 54 = .ok (.goto (-39), 3) := by decide +kernel
theorem dX12_laysOrder_57 : decode cX12_laysOrder 57 = .ok (.aload_n 0, 1) := by decide +kernel
theorem dX12_laysOrder_58 : decode cX12_laysOrder 58 = .ok (.getfield 67, 3) := by decide +kernel
theorem dX12_laysOrder_61 : decode cX12_laysOrder 61 = .ok (.iload_n 3, 1) := by decide +kernel
theorem dX12_laysOrder_62 : decode cX12_laysOrder 62 = .ok (.iload_n 2, 1) := by decide +kernel
theorem dX12_laysOrder_63 : decode cX12_laysOrder 63 = .ok (.iastore, 1) := by decide +kernel
theorem dX12_laysOrder_64 : decode cX12_laysOrder 64 = .ok (.iinc 2 1, 3) := by decide +kernel
theorem dX12_laysOrder_67 : decode cX12_laysOrder 67 = .ok (.goto (-65), 3) := by decide +kernel
theorem dX12_laysOrder_70 : decode cX12_laysOrder 70 = .ok (.return_, 1) := by decide +kernel
theorem dX12_order_0 : decode cX12_order 0 = .ok (.iload_n 1, 1) := by decide +kernel
theorem dX12_order_1 : decode cX12_order 1 = .ok (.i2l, 1) := by decide +kernel
theorem dX12_order_2 : decode cX12_order 2 = .ok (.lconst 0, 1) := by decide +kernel
theorem dX12_order_3 : decode cX12_order 3 = .ok (.ldc2_w 314, 3) := by decide +kernel
theorem dX12_order_6 : decode cX12_order 6 = .ok (.invokestatic 99, 3) := by decide +kernel
theorem dX12_order_9 : decode cX12_order 9 = .ok (.ifCond .eq 7, 3) := by decide +kernel
theorem dX12_order_12 : decode cX12_order 12 = .ok (.iload_n 2, 1) := by decide +kernel
theorem dX12_order_13 : decode cX12_order 13 = .ok (.ifCond .ge 5, 3) := by decide +kernel
theorem dX12_order_16 : decode cX12_order 16 = .ok (.iconst (-1), 1) := by decide +kernel
theorem dX12_order_17 : decode cX12_order 17 = .ok (.ireturn, 1) := by decide +kernel
theorem dX12_order_18 : decode cX12_order 18 = .ok (.iload_n 2, 1) := by decide +kernel
theorem dX12_order_19 : decode cX12_order 19 = .ok (.aload_n 0, 1) := by decide +kernel
theorem dX12_order_20 : decode cX12_order 20 = .ok (.getfield 13, 3) := by decide +kernel
theorem dX12_order_23 : decode cX12_order 23 = .ok (.bipush 9, 2) := by decide +kernel
theorem dX12_order_25 : decode cX12_order 25 = .ok (.iaload, 1) := by decide +kernel
theorem dX12_order_26 : decode cX12_order 26 = .ok (.if_icmp .lt 6, 3) := by decide +kernel
theorem dX12_order_29 : decode cX12_order 29 = .ok (.bipush (-2), 2) := by decide +kernel
theorem dX12_order_31 : decode cX12_order 31 = .ok (.ireturn, 1) := by decide +kernel
theorem dX12_order_32 : decode cX12_order 32 = .ok (.aload_n 0, 1) := by decide +kernel
theorem dX12_order_33 : decode cX12_order 33 = .ok (.iload_n 1, 1) := by decide +kernel
theorem dX12_order_34 : decode cX12_order 34 = .ok (.invokevirtual 441, 3) := by decide +kernel
theorem dX12_order_37 : decode cX12_order 37 = .ok (.aload_n 0, 1) := by decide +kernel
theorem dX12_order_38 : decode cX12_order 38 = .ok (.getfield 67, 3) := by decide +kernel
theorem dX12_order_41 : decode cX12_order 41 = .ok (.iload_n 2, 1) := by decide +kernel
theorem dX12_order_42 : decode cX12_order 42 = .ok (.iaload, 1) := by decide +kernel
theorem dX12_order_43 : decode cX12_order 43 = .ok (.ireturn, 1) := by decide +kernel
theorem dX12_all_0 : decode cX12_all 0 = .ok (.iload_n 1, 1) := by decide +kernel
theorem dX12_all_1 : decode cX12_all 1 = .ok (.i2l, 1) := by decide +kernel
theorem dX12_all_2 : decode cX12_all 2 = .ok (.lconst 0, 1) := by decide +kernel
theorem dX12_all_3 : decode cX12_all 3 = .ok (.ldc2_w 314, 3) := by decide +kernel
theorem dX12_all_6 : decode cX12_all 6 = .ok (.invokestatic 99, 3) := by decide +kernel
theorem dX12_all_9 : decode cX12_all 9 = .ok (.ifCond .ne 5, 3) := by decide +kernel
theorem dX12_all_12 : decode cX12_all 12 = .ok (.iconst (-1), 1) := by decide +kernel
theorem dX12_all_13 : decode cX12_all 13 = .ok (.ireturn, 1) := by decide +kernel
theorem dX12_all_14 : decode cX12_all 14 = .ok (.aload_n 0, 1) := by decide +kernel
theorem dX12_all_15 : decode cX12_all 15 = .ok (.invokevirtual 263, 3) := by decide +kernel
theorem dX12_all_18 : decode cX12_all 18 = .ok (.aload_n 0, 1) := by decide +kernel
theorem dX12_all_19 : decode cX12_all 19 = .ok (.getfield 13, 3) := by decide +kernel
theorem dX12_all_22 : decode cX12_all 22 = .ok (.bipush 9, 2) := by decide +kernel
theorem dX12_all_24 : decode cX12_all 24 = .ok (.iaload, 1) := by decide +kernel
theorem dX12_all_25 : decode cX12_all 25 = .ok (.if_icmp .ne 6, 3) := by decide +kernel
theorem dX12_all_28 : decode cX12_all 28 = .ok (.bipush (-2), 2) := by decide +kernel
theorem dX12_all_30 : decode cX12_all 30 = .ok (.ireturn, 1) := by decide +kernel
theorem dX12_all_31 : decode cX12_all 31 = .ok (.aload_n 0, 1) := by decide +kernel
theorem dX12_all_32 : decode cX12_all 32 = .ok (.bipush 16, 2) := by decide +kernel
theorem dX12_all_34 : decode cX12_all 34 = .ok (.invokevirtual 414, 3) := by decide +kernel
theorem dX12_all_37 : decode cX12_all 37 = .ok (.aload_n 0, 1) := by decide +kernel
theorem dX12_all_38 : decode cX12_all 38 = .ok (.invokevirtual 417, 3) := by decide +kernel
theorem dX12_all_41 : decode cX12_all 41 = .ok (.aload_n 0, 1) := by decide +kernel
theorem dX12_all_42 : decode cX12_all 42 = .ok (.iload_n 1, 1) := by decide +kernel
theorem dX12_all_43 : decode cX12_all 43 = .ok (.invokevirtual 441, 3) := by decide +kernel
theorem dX12_all_46 : decode cX12_all 46 = .ok (.iconst 0, 1) := by decide +kernel
theorem dX12_all_47 : decode cX12_all 47 = .ok (.istore_n 2, 1) := by decide +kernel
theorem dX12_all_48 : decode cX12_all 48 = .ok (.iconst 0, 1) := by decide +kernel
theorem dX12_all_49 : decode cX12_all 49 = .ok (.istore_n 3, 1) := by decide +kernel
theorem dX12_all_50 : decode cX12_all 50 = .ok (.iload_n 3, 1) := by decide +kernel
theorem dX12_all_51 : decode cX12_all 51 = .ok (.aload_n 0, 1) := by decide +kernel
theorem dX12_all_52 : decode cX12_all 52 = .ok (.getfield 13, 3) := by decide +kernel
theorem dX12_all_55 : decode cX12_all 55 = .ok (.bipush 9, 2) := by decide +kernel
theorem dX12_all_57 : decode cX12_all 57 = .ok (.iaload, 1) := by decide +kernel
theorem dX12_all_58 : decode cX12_all 58 = .ok (.if_icmp .ge 46, 3) := by decide +kernel
theorem dX12_all_61 : decode cX12_all 61 = .ok (.aload_n 0, 1) := by decide +kernel
theorem dX12_all_62 : decode cX12_all 62 = .ok (.aload_n 0, 1) := by decide +kernel
theorem dX12_all_63 : decode cX12_all 63 = .ok (.getfield 67, 3) := by decide +kernel
theorem dX12_all_66 : decode cX12_all 66 = .ok (.iload_n 3, 1) := by decide +kernel
theorem dX12_all_67 : decode cX12_all 67 = .ok (.iaload, 1) := by decide +kernel
theorem dX12_all_68 : decode cX12_all 68 = .ok (.invokevirtual 326, 3) := by decide +kernel
theorem dX12_all_71 : decode cX12_all 71 = .ok (.ifCond .eq 6, 3) := by decide +kernel
theorem dX12_all_74 : decode cX12_all 74 = .ok (.goto 24, 3) := by decide +kernel
theorem dX12_all_77 : decode cX12_all 77 = .ok (.aload_n 0, 1) := by decide +kernel
theorem dX12_all_78 : decode cX12_all 78 = .ok (.aload_n 0, 1) := by decide +kernel
theorem dX12_all_79 : decode cX12_all 79 = .ok (.getfield 67, 3) := by decide +kernel
theorem dX12_all_82 : decode cX12_all 82 = .ok (.iload_n 3, 1) := by decide +kernel
theorem dX12_all_83 : decode cX12_all 83 = .ok (.iaload, 1) := by decide +kernel
theorem dX12_all_84 : decode cX12_all 84 = .ok (.invokevirtual 420, 3) := by decide +kernel
theorem dX12_all_87 : decode cX12_all 87 = .ok (.ifCond .eq 9, 3) := by decide +kernel
theorem dX12_all_90 : decode cX12_all 90 = .ok (.iload_n 2, 1) := by decide +kernel
theorem dX12_all_91 : decode cX12_all 91 = .ok (.iconst 1, 1) := by decide +kernel
theorem dX12_all_92 : decode cX12_all 92 = .ok (.iadd, 1) := by decide +kernel
theorem dX12_all_93 : decode cX12_all 93 = .ok (.goto 4, 3) := by decide +kernel
theorem dX12_all_96 : decode cX12_all 96 = .ok (.iload_n 2, 1) := by decide +kernel
theorem dX12_all_97 : decode cX12_all 97 = .ok (.istore_n 2, 1) := by decide +kernel
theorem dX12_all_98 : decode cX12_all 98 = .ok (.iinc 3 1, 3) := by decide +kernel
theorem dX12_all_101 : decode cX12_all 101 = .ok (.goto (-51), 3) := by decide +kernel
theorem dX12_all_104 : decode cX12_all 104 = .ok (.iload_n 2, 1) := by decide +kernel
theorem dX12_all_105 : decode cX12_all 105 = .ok (.ireturn, 1) := by decide +kernel
theorem dX12_findsFour_0 : decode cX12_findsFour 0 = .ok (.aload_n 0, 1) := by decide +kernel
theorem dX12_findsFour_1 : decode cX12_findsFour 1 = .ok (.iconst 0, 1) := by decide +kernel
theorem dX12_findsFour_2 : decode cX12_findsFour 2 = .ok (.putfield 444, 3) := by decide +kernel
theorem dX12_findsFour_5 : decode cX12_findsFour 5 = .ok (.iconst 0, 1) := by decide +kernel
theorem dX12_findsFour_6 : decode cX12_findsFour 6 = .ok (.istore_n 1, 1) := by decide +kernel
theorem dX12_findsFour_7 : decode cX12_findsFour 7 = .ok (.iload_n 1, 1) := by decide +kernel
theorem dX12_findsFour_8 : decode cX12_findsFour 8 = .ok (.aload_n 0, 1) := by decide +kernel
theorem dX12_findsFour_9 : decode cX12_findsFour 9 = .ok (.getfield 13, 3) := by decide +kernel
theorem dX12_findsFour_12 : decode cX12_findsFour 12 = .ok (.bipush 9, 2) := by decide +kernel
theorem dX12_findsFour_14 : decode cX12_findsFour 14 = .ok (.iaload, 1) := by decide +kernel
theorem dX12_findsFour_15 : decode cX12_findsFour 15 = .ok (.if_icmp .ge 48, 3) := by decide +kernel
theorem dX12_findsFour_18 : decode cX12_findsFour 18 = .ok (.aload_n 0, 1) := by decide +kernel
theorem dX12_findsFour_19 : decode cX12_findsFour 19 = .ok (.getfield 444, 3) := by decide +kernel
theorem dX12_findsFour_22 : decode cX12_findsFour 22 = .ok (.iconst 4, 1) := by decide +kernel
theorem dX12_findsFour_23 : decode cX12_findsFour 23 = .ok (.if_icmp .ge 40, 3) := by decide +kernel
theorem dX12_findsFour_26 : decode cX12_findsFour 26 = .ok (.aload_n 0, 1) := by decide +kernel
theorem dX12_findsFour_27 : decode cX12_findsFour 27 = .ok (.iload_n 1, 1) := by decide +kernel
theorem dX12_findsFour_28 : decode cX12_findsFour 28 = .ok (.invokevirtual 326, 3) := by decide +kernel
theorem dX12_findsFour_31 : decode cX12_findsFour 31 = .ok (.ifCond .eq 6, 3) := by decide +kernel
theorem dX12_findsFour_34 : decode cX12_findsFour 34 = .ok (.goto 23, 3) := by decide +kernel
theorem dX12_findsFour_37 : decode cX12_findsFour 37 = .ok (.aload_n 0, 1) := by decide +kernel
theorem dX12_findsFour_38 : decode cX12_findsFour 38 = .ok (.getfield 70, 3) := by decide +kernel
theorem dX12_findsFour_41 : decode cX12_findsFour 41 = .ok (.aload_n 0, 1) := by decide +kernel
theorem dX12_findsFour_42 : decode cX12_findsFour 42 = .ok (.getfield 444, 3) := by decide +kernel
theorem dX12_findsFour_45 : decode cX12_findsFour 45 = .ok (.iload_n 1, 1) := by decide +kernel
theorem dX12_findsFour_46 : decode cX12_findsFour 46 = .ok (.iastore, 1) := by decide +kernel
theorem dX12_findsFour_47 : decode cX12_findsFour 47 = .ok (.aload_n 0, 1) := by decide +kernel
theorem dX12_findsFour_48 : decode cX12_findsFour 48 = .ok (.aload_n 0, 1) := by decide +kernel
theorem dX12_findsFour_49 : decode cX12_findsFour 49 = .ok (.getfield 444, 3) := by decide +kernel
theorem dX12_findsFour_52 : decode cX12_findsFour 52 = .ok (.iconst 1, 1) := by decide +kernel
theorem dX12_findsFour_53 : decode cX12_findsFour 53 = .ok (.iadd, 1) := by decide +kernel
theorem dX12_findsFour_54 : decode cX12_findsFour 54 = .ok (.putfield 444, 3) := by decide +kernel
theorem dX12_findsFour_57 : decode cX12_findsFour 57 = .ok (.iinc 1 1, 3) := by decide +kernel
theorem dX12_findsFour_60 : decode cX12_findsFour 60 = .ok (.goto (-53), 3) := by decide +kernel
theorem dX12_findsFour_63 : decode cX12_findsFour 63 = .ok (.return_, 1) := by decide +kernel
theorem dX12_swaps_0 : decode cX12_swaps 0 = .ok (.aload_n 0, 1) := by decide +kernel
theorem dX12_swaps_1 : decode cX12_swaps 1 = .ok (.getfield 73, 3) := by decide +kernel
theorem dX12_swaps_4 : decode cX12_swaps 4 = .ok (.iload_n 1, 1) := by decide +kernel
theorem dX12_swaps_5 : decode cX12_swaps 5 = .ok (.iaload, 1) := by decide +kernel
theorem dX12_swaps_6 : decode cX12_swaps 6 = .ok (.istore_n 3, 1) := by decide +kernel
theorem dX12_swaps_7 : decode cX12_swaps 7 = .ok (.aload_n 0, 1) := by decide +kernel
theorem dX12_swaps_8 : decode cX12_swaps 8 = .ok (.getfield 73, 3) := by decide +kernel
theorem dX12_swaps_11 : decode cX12_swaps 11 = .ok (.iload_n 1, 1) := by decide +kernel
theorem dX12_swaps_12 : decode cX12_swaps 12 = .ok (.aload_n 0, 1) := by decide +kernel
theorem dX12_swaps_13 : decode cX12_swaps 13 = .ok (.getfield 73, 3) := by decide +kernel
theorem dX12_swaps_16 : decode cX12_swaps 16 = .ok (.iload_n 2, 1) := by decide +kernel
theorem dX12_swaps_17 : decode cX12_swaps 17 = .ok (.iaload, 1) := by decide +kernel
theorem dX12_swaps_18 : decode cX12_swaps 18 = .ok (.iastore, 1) := by decide +kernel
theorem dX12_swaps_19 : decode cX12_swaps 19 = .ok (.aload_n 0, 1) := by decide +kernel
theorem dX12_swaps_20 : decode cX12_swaps 20 = .ok (.getfield 73, 3) := by decide +kernel
theorem dX12_swaps_23 : decode cX12_swaps 23 = .ok (.iload_n 2, 1) := by decide +kernel
theorem dX12_swaps_24 : decode cX12_swaps 24 = .ok (.iload_n 3, 1) := by decide +kernel
theorem dX12_swaps_25 : decode cX12_swaps 25 = .ok (.iastore, 1) := by decide +kernel
theorem dX12_swaps_26 : decode cX12_swaps 26 = .ok (.return_, 1) := by decide +kernel
theorem dX12_goesOn_0 : decode cX12_goesOn 0 = .ok (.aload_n 0, 1) := by decide +kernel
theorem dX12_goesOn_1 : decode cX12_goesOn 1 = .ok (.getfield 444, 3) := by decide +kernel
theorem dX12_goesOn_4 : decode cX12_goesOn 4 = .ok (.iconst 2, 1) := by decide +kernel
theorem dX12_goesOn_5 : decode cX12_goesOn 5 = .ok (.isub, 1) := by decide +kernel
theorem dX12_goesOn_6 : decode cX12_goesOn 6 = .ok (.istore_n 1, 1) := by decide +kernel
theorem dX12_goesOn_7 : decode cX12_goesOn 7 = .ok (.iload_n 1, 1) := by decide +kernel
theorem dX12_goesOn_8 : decode cX12_goesOn 8 = .ok (.ifCond .lt 27, 3) := by decide +kernel
theorem dX12_goesOn_11 : decode cX12_goesOn 11 = .ok (.aload_n 0, 1) := by decide +kernel
theorem dX12_goesOn_12 : decode cX12_goesOn 12 = .ok (.getfield 73, 3) := by decide +kernel
theorem dX12_goesOn_15 : decode cX12_goesOn 15 = .ok (.iload_n 1, 1) := by decide +kernel
theorem dX12_goesOn_16 : decode cX12_goesOn 16 = .ok (.iaload, 1) := by decide +kernel
theorem dX12_goesOn_17 : decode cX12_goesOn 17 = .ok (.aload_n 0, 1) := by decide +kernel
theorem dX12_goesOn_18 : decode cX12_goesOn 18 = .ok (.getfield 73, 3) := by decide +kernel
theorem dX12_goesOn_21 : decode cX12_goesOn 21 = .ok (.iload_n 1, 1) := by decide +kernel
theorem dX12_goesOn_22 : decode cX12_goesOn 22 = .ok (.iconst 1, 1) := by decide +kernel
theorem dX12_goesOn_23 : decode cX12_goesOn 23 = .ok (.iadd, 1) := by decide +kernel
theorem dX12_goesOn_24 : decode cX12_goesOn 24 = .ok (.iaload, 1) := by decide +kernel
theorem dX12_goesOn_25 : decode cX12_goesOn 25 = .ok (.if_icmp .le 10, 3) := by decide +kernel
theorem dX12_goesOn_28 : decode cX12_goesOn 28 = .ok (.iload_n 1, 1) := by decide +kernel
theorem dX12_goesOn_29 : decode cX12_goesOn 29 = .ok (.iconst 1, 1) := by decide +kernel
theorem dX12_goesOn_30 : decode cX12_goesOn 30 = .ok (.isub, 1) := by decide +kernel
theorem dX12_goesOn_31 : decode cX12_goesOn 31 = .ok (.istore_n 1, 1) := by decide +kernel
theorem dX12_goesOn_32 : decode cX12_goesOn 32 = .ok (.goto (-25), 3) := by decide +kernel
theorem dX12_goesOn_35 : decode cX12_goesOn 35 = .ok (.iload_n 1, 1) := by decide +kernel
theorem dX12_goesOn_36 : decode cX12_goesOn 36 = .ok (.ifCond .ge 5, 3) := by decide +kernel
theorem dX12_goesOn_39 : decode cX12_goesOn 39 = .ok (.iconst 0, 1) := by decide +kernel
theorem dX12_goesOn_40 : decode cX12_goesOn 40 = .ok (.ireturn, 1) := by decide +kernel
theorem dX12_goesOn_41 : decode cX12_goesOn 41 = .ok (.aload_n 0, 1) := by decide +kernel
theorem dX12_goesOn_42 : decode cX12_goesOn 42 = .ok (.getfield 444, 3) := by decide +kernel
theorem dX12_goesOn_45 : decode cX12_goesOn 45 = .ok (.iconst 1, 1) := by decide +kernel
theorem dX12_goesOn_46 : decode cX12_goesOn 46 = .ok (.isub, 1) := by decide +kernel
theorem dX12_goesOn_47 : decode cX12_goesOn 47 = .ok (.istore_n 2, 1) := by decide +kernel
theorem dX12_goesOn_48 : decode cX12_goesOn 48 = .ok (.aload_n 0, 1) := by decide +kernel
theorem dX12_goesOn_49 : decode cX12_goesOn 49 = .ok (.getfield 73, 3) := by decide +kernel
theorem dX12_goesOn_52 : decode cX12_goesOn 52 = .ok (.iload_n 2, 1) := by decide +kernel
theorem dX12_goesOn_53 : decode cX12_goesOn 53 = .ok (.iaload, 1) := by decide +kernel
theorem dX12_goesOn_54 : decode cX12_goesOn 54 = .ok (.aload_n 0, 1) := by decide +kernel
theorem dX12_goesOn_55 : decode cX12_goesOn 55 = .ok (.getfield 73, 3) := by decide +kernel
theorem dX12_goesOn_58 : decode cX12_goesOn 58 = .ok (.iload_n 1, 1) := by decide +kernel
theorem dX12_goesOn_59 : decode cX12_goesOn 59 = .ok (.iaload, 1) := by decide +kernel
theorem dX12_goesOn_60 : decode cX12_goesOn 60 = .ok (.if_icmp .ge 10, 3) := by decide +kernel
theorem dX12_goesOn_63 : decode cX12_goesOn 63 = .ok (.iload_n 2, 1) := by decide +kernel
theorem dX12_goesOn_64 : decode cX12_goesOn 64 = .ok (.iconst 1, 1) := by decide +kernel
theorem dX12_goesOn_65 : decode cX12_goesOn 65 = .ok (.isub, 1) := by decide +kernel
theorem dX12_goesOn_66 : decode cX12_goesOn 66 = .ok (.istore_n 2, 1) := by decide +kernel
theorem dX12_goesOn_67 : decode cX12_goesOn 67 = .ok (.goto (-19), 3) := by decide +kernel
theorem dX12_goesOn_70 : decode cX12_goesOn 70 = .ok (.aload_n 0, 1) := by decide +kernel
theorem dX12_goesOn_71 : decode cX12_goesOn 71 = .ok (.iload_n 1, 1) := by decide +kernel
theorem dX12_goesOn_72 : decode cX12_goesOn 72 = .ok (.iload_n 2, 1) := by decide +kernel
theorem dX12_goesOn_73 : decode cX12_goesOn 73 = .ok (.invokevirtual 447, 3) := by decide +kernel
theorem dX12_goesOn_76 : decode cX12_goesOn 76 = .ok (.iload_n 1, 1) := by decide +kernel
theorem dX12_goesOn_77 : decode cX12_goesOn 77 = .ok (.iconst 1, 1) := by decide +kernel
theorem dX12_goesOn_78 : decode cX12_goesOn 78 = .ok (.iadd, 1) := by decide +kernel
theorem dX12_goesOn_79 : decode cX12_goesOn 79 = .ok (.istore_n 3, 1) := by decide +kernel
theorem dX12_goesOn_80 : decode cX12_goesOn 80 = .ok (.aload_n 0, 1) := by decide +kernel
theorem dX12_goesOn_81 : decode cX12_goesOn 81 = .ok (.getfield 444, 3) := by decide +kernel
theorem dX12_goesOn_84 : decode cX12_goesOn 84 = .ok (.iconst 1, 1) := by decide +kernel
theorem dX12_goesOn_85 : decode cX12_goesOn 85 = .ok (.isub, 1) := by decide +kernel
theorem dX12_goesOn_86 : decode cX12_goesOn 86 = .ok (.istore 4, 2) := by decide +kernel
theorem dX12_goesOn_88 : decode cX12_goesOn 88 = .ok (.iload_n 3, 1) := by decide +kernel
theorem dX12_goesOn_89 : decode cX12_goesOn 89 = .ok (.iload 4, 2) := by decide +kernel
theorem dX12_goesOn_91 : decode cX12_goesOn 91 = .ok (.if_icmp .ge 23, 3) := by decide +kernel
theorem dX12_goesOn_94 : decode cX12_goesOn 94 = .ok (.aload_n 0, 1) := by decide +kernel
theorem dX12_goesOn_95 : decode cX12_goesOn 95 = .ok (.iload_n 3, 1) := by decide +kernel
theorem dX12_goesOn_96 : decode cX12_goesOn 96 = .ok (.iload 4, 2) := by decide +kernel
theorem dX12_goesOn_98 : decode cX12_goesOn 98 = .ok (.invokevirtual 447, 3) := by decide +kernel
theorem dX12_goesOn_101 : decode cX12_goesOn 101 = .ok (.iload_n 3, 1) := by decide +kernel
theorem dX12_goesOn_102 : decode cX12_goesOn 102 = .ok (.iconst 1, 1) := by decide +kernel
theorem dX12_goesOn_103 : decode cX12_goesOn 103 = .ok (.iadd, 1) := by decide +kernel
theorem dX12_goesOn_104 : decode cX12_goesOn 104 = .ok (.istore_n 3, 1) := by decide +kernel
theorem dX12_goesOn_105 : decode cX12_goesOn 105 = .ok (.iload 4, 2) := by decide +kernel
theorem dX12_goesOn_107 : decode cX12_goesOn 107 = .ok (.iconst 1, 1) := by decide +kernel
theorem dX12_goesOn_108 : decode cX12_goesOn 108 = .ok (.isub, 1) := by decide +kernel
theorem dX12_goesOn_109 : decode cX12_goesOn 109 = .ok (.istore 4, 2) := by decide +kernel
theorem dX12_goesOn_111 : decode cX12_goesOn 111 = .ok (.goto (-23), 3) := by decide +kernel
theorem dX12_goesOn_114 : decode cX12_goesOn 114 = .ok (.iconst 1, 1) := by decide +kernel
theorem dX12_goesOn_115 : decode cX12_goesOn 115 = .ok (.ireturn, 1) := by decide +kernel
theorem dX12_tries_0 : decode cX12_tries 0 = .ok (.iconst 0, 1) := by decide +kernel
theorem dX12_tries_1 : decode cX12_tries 1 = .ok (.istore_n 1, 1) := by decide +kernel
theorem dX12_tries_2 : decode cX12_tries 2 = .ok (.iconst 0, 1) := by decide +kernel
theorem dX12_tries_3 : decode cX12_tries 3 = .ok (.istore_n 2, 1) := by decide +kernel
theorem dX12_tries_4 : decode cX12_tries 4 = .ok (.iconst 0, 1) := by decide +kernel
theorem dX12_tries_5 : decode cX12_tries 5 = .ok (.istore_n 3, 1) := by decide +kernel
theorem dX12_tries_6 : decode cX12_tries 6 = .ok (.iload_n 3, 1) := by decide +kernel
theorem dX12_tries_7 : decode cX12_tries 7 = .ok (.aload_n 0, 1) := by decide +kernel
theorem dX12_tries_8 : decode cX12_tries 8 = .ok (.getfield 444, 3) := by decide +kernel
theorem dX12_tries_11 : decode cX12_tries 11 = .ok (.if_icmp .ge 47, 3) := by decide +kernel
theorem dX12_tries_14 : decode cX12_tries 14 = .ok (.aload_n 0, 1) := by decide +kernel
theorem dX12_tries_15 : decode cX12_tries 15 = .ok (.getfield 70, 3) := by decide +kernel
theorem dX12_tries_18 : decode cX12_tries 18 = .ok (.aload_n 0, 1) := by decide +kernel
theorem dX12_tries_19 : decode cX12_tries 19 = .ok (.getfield 73, 3) := by decide +kernel
theorem dX12_tries_22 : decode cX12_tries 22 = .ok (.iload_n 3, 1) := by decide +kernel
theorem dX12_tries_23 : decode cX12_tries 23 = .ok (.iaload, 1) := by decide +kernel
theorem dX12_tries_24 : decode cX12_tries 24 = .ok (.iaload, 1) := by decide +kernel
theorem dX12_tries_25 : decode cX12_tries 25 = .ok (.istore 4, 2) := by decide +kernel
theorem dX12_tries_27 : decode cX12_tries 27 = .ok (.aload_n 0, 1) := by decide +kernel
theorem dX12_tries_28 : decode cX12_tries 28 = .ok (.iload 4, 2) := by decide +kernel
theorem dX12_tries_30 : decode cX12_tries 30 = .ok (.invokevirtual 420, 3) := by decide +kernel
theorem dX12_tries_33 : decode cX12_tries 33 = .ok (.ifCond .eq 15, 3) := by decide +kernel
theorem dX12_tries_36 : decode cX12_tries 36 = .ok (.iload_n 2, 1) := by decide +kernel
theorem dX12_tries_37 : decode cX12_tries 37 = .ok (.aload_n 0, 1) := by decide +kernel
theorem dX12_tries_38 : decode cX12_tries 38 = .ok (.iload 4, 2) := by decide +kernel
theorem dX12_tries_40 : decode cX12_tries 40 = .ok (.invokevirtual 332, 3) := by decide +kernel
theorem dX12_tries_43 : decode cX12_tries 43 = .ok (.iadd, 1) := by decide +kernel
theorem dX12_tries_44 : decode cX12_tries 44 = .ok (.istore_n 2, 1) := by decide +kernel
theorem dX12_tries_45 : decode cX12_tries 45 = .ok (.goto 7, 3) := by decide +kernel
theorem dX12_tries_48 : decode cX12_tries 48 = .ok (.iload_n 1, 1) := by decide +kernel
theorem dX12_tries_49 : decode cX12_tries 49 = .ok (.iconst 1, 1) := by decide +kernel
theorem dX12_tries_50 : decode cX12_tries 50 = .ok (.iadd, 1) := by decide +kernel
theorem dX12_tries_51 : decode cX12_tries 51 = .ok (.istore_n 1, 1) := by decide +kernel
theorem dX12_tries_52 : decode cX12_tries 52 = .ok (.iinc 3 1, 3) := by decide +kernel
theorem dX12_tries_55 : decode cX12_tries 55 = .ok (.goto (-49), 3) := by decide +kernel
theorem dX12_tries_58 : decode cX12_tries 58 = .ok (.aload_n 0, 1) := by decide +kernel
theorem dX12_tries_59 : decode cX12_tries 59 = .ok (.bipush 17, 2) := by decide +kernel
theorem dX12_tries_61 : decode cX12_tries 61 = .ok (.invokevirtual 426, 3) := by decide +kernel
theorem dX12_tries_64 : decode cX12_tries 64 = .ok (.aload_n 0, 1) := by decide +kernel
theorem dX12_tries_65 : decode cX12_tries 65 = .ok (.getfield 450, 3) := by decide +kernel
theorem dX12_tries_68 : decode cX12_tries 68 = .ok (.iconst (-1), 1) := by decide +kernel
theorem dX12_tries_69 : decode cX12_tries 69 = .ok (.if_icmp .eq 28, 3) := by decide +kernel
theorem dX12_tries_72 : decode cX12_tries 72 = .ok (.iload_n 1, 1) := by decide +kernel
theorem dX12_tries_73 : decode cX12_tries 73 = .ok (.aload_n 0, 1) := by decide +kernel
theorem dX12_tries_74 : decode cX12_tries 74 = .ok (.getfield 450, 3) := by decide +kernel
theorem dX12_tries_77 : decode cX12_tries 77 = .ok (.if_icmp .gt 19, 3) := by decide +kernel
theorem dX12_tries_80 : decode cX12_tries 80 = .ok (.iload_n 1, 1) := by decide +kernel
theorem dX12_tries_81 : decode cX12_tries 81 = .ok (.aload_n 0, 1) := by decide +kernel
theorem dX12_tries_82 : decode cX12_tries 82 = .ok (.getfield 450, 3) := by decide +kernel
theorem dX12_tries_85 : decode cX12_tries 85 = .ok (.if_icmp .ne 12, 3) := by decide +kernel
theorem dX12_tries_88 : decode cX12_tries 88 = .ok (.iload_n 2, 1) := by decide +kernel
theorem dX12_tries_89 : decode cX12_tries 89 = .ok (.aload_n 0, 1) := by decide +kernel
theorem dX12_tries_90 : decode cX12_tries 90 = .ok (.getfield 453, 3) := by decide +kernel
theorem dX12_tries_93 : decode cX12_tries 93 = .ok (.if_icmp .lt 4, 3) := by decide +kernel
theorem dX12_tries_96 : decode cX12_tries 96 = .ok (.return_, 1) := by decide +kernel
theorem dX12_tries_97 : decode cX12_tries 97 = .ok (.aload_n 0, 1) := by decide +kernel
theorem dX12_tries_98 : decode cX12_tries 98 = .ok (.iload_n 1, 1) := by decide +kernel
theorem dX12_tries_99 : decode cX12_tries 99 = .ok (.putfield 450, 3) := by decide +kernel
theorem dX12_tries_102 : decode cX12_tries 102 = .ok (.aload_n 0, 1) := by decide +kernel
theorem dX12_tries_103 : decode cX12_tries 103 = .ok (.iload_n 2, 1) := by decide +kernel
theorem dX12_tries_104 : decode cX12_tries 104 = .ok (.putfield 453, 3) := by decide +kernel
theorem dX12_tries_107 : decode cX12_tries 107 = .ok (.iconst 0, 1) := by decide +kernel
theorem dX12_tries_108 : decode cX12_tries 108 = .ok (.istore_n 3, 1) := by decide +kernel
theorem dX12_tries_109 : decode cX12_tries 109 = .ok (.iload_n 3, 1) := by decide +kernel
theorem dX12_tries_110 : decode cX12_tries 110 = .ok (.aload_n 0, 1) := by decide +kernel
theorem dX12_tries_111 : decode cX12_tries 111 = .ok (.getfield 444, 3) := by decide +kernel
theorem dX12_tries_114 : decode cX12_tries 114 = .ok (.if_icmp .ge 26, 3) := by decide +kernel
theorem dX12_tries_117 : decode cX12_tries 117 = .ok (.aload_n 0, 1) := by decide +kernel
theorem dX12_tries_118 : decode cX12_tries 118 = .ok (.getfield 76, 3) := by decide +kernel
theorem dX12_tries_121 : decode cX12_tries 121 = .ok (.iload_n 3, 1) := by decide +kernel
theorem dX12_tries_122 : decode cX12_tries 122 = .ok (.aload_n 0, 1) := by decide +kernel
theorem dX12_tries_123 : decode cX12_tries 123 = .ok (.getfield 70, 3) := by decide +kernel
theorem dX12_tries_126 : decode cX12_tries 126 = .ok (.aload_n 0, 1) := by decide +kernel
theorem dX12_tries_127 : decode cX12_tries 127 = .ok (.getfield 73, 3) := by decide +kernel
theorem dX12_tries_130 : decode cX12_tries 130 = .ok (.iload_n 3, 1) := by decide +kernel
theorem dX12_tries_131 : decode cX12_tries 131 = .ok (.iaload, 1) := by decide +kernel
theorem dX12_tries_132 : decode cX12_tries 132 = .ok (.iaload, 1) := by decide +kernel
theorem dX12_tries_133 : decode cX12_tries 133 = .ok (.iastore, 1) := by decide +kernel
theorem dX12_tries_134 : decode cX12_tries 134 = .ok (.iinc 3 1, 3) := by decide +kernel
theorem dX12_tries_137 : decode cX12_tries 137 = .ok (.goto (-28), 3) := by decide +kernel
theorem dX12_tries_140 : decode cX12_tries 140 = .ok (.return_, 1) := by decide +kernel
theorem dX12_laysFour_0 : decode cX12_laysFour 0 = .ok (.aload_n 0, 1) := by decide +kernel
theorem dX12_laysFour_1 : decode cX12_laysFour 1 = .ok (.invokevirtual 456, 3) := by decide +kernel
theorem dX12_laysFour_4 : decode cX12_laysFour 4 = .ok (.aload_n 0, 1) := by decide +kernel
theorem dX12_laysFour_5 : decode cX12_laysFour 5 = .ok (.iconst (-1), 1) := by decide +kernel
theorem dX12_laysFour_6 : decode cX12_laysFour 6 = .ok (.putfield 450, 3) := by decide +kernel
theorem dX12_laysFour_9 : decode cX12_laysFour 9 = .ok (.aload_n 0, 1) := by decide +kernel
theorem dX12_laysFour_10 : decode cX12_laysFour 10 = .ok (.iconst 0, 1) := by decide +kernel
theorem dX12_laysFour_11 : decode cX12_laysFour 11 = .ok (.putfield 453, 3) := by decide +kernel
theorem dX12_laysFour_14 : decode cX12_laysFour 14 = .ok (.iconst 0, 1) := by decide +kernel
theorem dX12_laysFour_15 : decode cX12_laysFour 15 = .ok (.istore_n 1, 1) := by decide +kernel
theorem dX12_laysFour_16 : decode cX12_laysFour 16 = .ok (.iload_n 1, 1) := by decide +kernel
theorem dX12_laysFour_17 : decode cX12_laysFour 17 = .ok (.iconst 4, 1) := by decide +kernel
theorem dX12_laysFour_18 : decode cX12_laysFour 18 = .ok (.if_icmp .ge 16, 3) := by decide +kernel
theorem dX12_laysFour_21 : decode cX12_laysFour 21 = .ok (.aload_n 0, 1) := by decide +kernel
theorem dX12_laysFour_22 : decode cX12_laysFour 22 = .ok (.getfield 73, 3) := by decide +kernel
theorem dX12_laysFour_25 : decode cX12_laysFour 25 = .ok (.iload_n 1, 1) := by decide +kernel
theorem dX12_laysFour_26 : decode cX12_laysFour 26 = .ok (.iload_n 1, 1) := by decide +kernel
theorem dX12_laysFour_27 : decode cX12_laysFour 27 = .ok (.iastore, 1) := by decide +kernel
theorem dX12_laysFour_28 : decode cX12_laysFour 28 = .ok (.iinc 1 1, 3) := by decide +kernel
theorem dX12_laysFour_31 : decode cX12_laysFour 31 = .ok (.goto (-15), 3) := by decide +kernel
theorem dX12_laysFour_34 : decode cX12_laysFour 34 = .ok (.aload_n 0, 1) := by decide +kernel
theorem dX12_laysFour_35 : decode cX12_laysFour 35 = .ok (.bipush 17, 2) := by decide +kernel
theorem dX12_laysFour_37 : decode cX12_laysFour 37 = .ok (.invokevirtual 414, 3) := by decide +kernel
theorem dX12_laysFour_40 : decode cX12_laysFour 40 = .ok (.aload_n 0, 1) := by decide +kernel
theorem dX12_laysFour_41 : decode cX12_laysFour 41 = .ok (.getfield 444, 3) := by decide +kernel
theorem dX12_laysFour_44 : decode cX12_laysFour 44 = .ok (.ifCond .le 7, 3) := by decide +kernel
theorem dX12_laysFour_47 : decode cX12_laysFour 47 = .ok (.iconst 1, 1) := by decide +kernel
theorem dX12_laysFour_48 : decode cX12_laysFour 48 = .ok (.goto 4, 3) := by decide +kernel
theorem dX12_laysFour_51 : decode cX12_laysFour 51 = .ok (.iconst 0, 1) := by decide +kernel
theorem dX12_laysFour_52 : decode cX12_laysFour 52 = .ok (.istore_n 1, 1) := by decide +kernel
theorem dX12_laysFour_53 : decode cX12_laysFour 53 = .ok (.iload_n 1, 1) := by decide +kernel
theorem dX12_laysFour_54 : decode cX12_laysFour 54 = .ok (.ifCond .eq 15, 3) := by decide +kernel
theorem dX12_laysFour_57 : decode cX12_laysFour 57 = .ok (.aload_n 0, 1) := by decide +kernel
theorem dX12_laysFour_58 : decode cX12_laysFour 58 = .ok (.invokevirtual 459, 3) := by decide +kernel
theorem dX12_laysFour_61 : decode cX12_laysFour 61 = .ok (.aload_n 0, 1) := by decide +kernel
theorem dX12_laysFour_62 : decode cX12_laysFour 62 = .ok (.invokevirtual 462, 3) := by decide +kernel
theorem dX12_laysFour_65 : decode cX12_laysFour 65 = .ok (.istore_n 1, 1) := by decide +kernel
theorem dX12_laysFour_66 : decode cX12_laysFour 66 = .ok (.goto (-13), 3) := by decide +kernel
theorem dX12_laysFour_69 : decode cX12_laysFour 69 = .ok (.return_, 1) := by decide +kernel
theorem dX12_best_0 : decode cX12_best 0 = .ok (.iload_n 1, 1) := by decide +kernel
theorem dX12_best_1 : decode cX12_best 1 = .ok (.i2l, 1) := by decide +kernel
theorem dX12_best_2 : decode cX12_best 2 = .ok (.lconst 0, 1) := by decide +kernel
theorem dX12_best_3 : decode cX12_best 3 = .ok (.ldc2_w 466, 3) := by decide +kernel
theorem dX12_best_6 : decode cX12_best 6 = .ok (.invokestatic 99, 3) := by decide +kernel
theorem dX12_best_9 : decode cX12_best 9 = .ok (.ifCond .ne 5, 3) := by decide +kernel
theorem dX12_best_12 : decode cX12_best 12 = .ok (.iconst (-1), 1) := by decide +kernel
theorem dX12_best_13 : decode cX12_best 13 = .ok (.ireturn, 1) := by decide +kernel
theorem dX12_best_14 : decode cX12_best 14 = .ok (.aload_n 0, 1) := by decide +kernel
theorem dX12_best_15 : decode cX12_best 15 = .ok (.invokevirtual 468, 3) := by decide +kernel
theorem dX12_best_18 : decode cX12_best 18 = .ok (.aload_n 0, 1) := by decide +kernel
theorem dX12_best_19 : decode cX12_best 19 = .ok (.getfield 444, 3) := by decide +kernel
theorem dX12_best_22 : decode cX12_best 22 = .ok (.ifCond .ne 5, 3) := by decide +kernel
theorem dX12_best_25 : decode cX12_best 25 = .ok (.iconst (-1), 1) := by decide +kernel
theorem dX12_best_26 : decode cX12_best 26 = .ok (.ireturn, 1) := by decide +kernel
theorem dX12_best_27 : decode cX12_best 27 = .ok (.iload_n 1, 1) := by decide +kernel
theorem dX12_best_28 : decode cX12_best 28 = .ok (.iconst 2, 1) := by decide +kernel
theorem dX12_best_29 : decode cX12_best 29 = .ok (.if_icmp .ge 19, 3) := by decide +kernel
theorem dX12_best_32 : decode cX12_best 32 = .ok (.iload_n 1, 1) := by decide +kernel
theorem dX12_best_33 : decode cX12_best 33 = .ok (.ifCond .ne 10, 3) := by decide +kernel
theorem dX12_best_36 : decode cX12_best 36 = .ok (.aload_n 0, 1) := by decide +kernel
theorem dX12_best_37 : decode cX12_best 37 = .ok (.getfield 450, 3) := by decide +kernel
theorem dX12_best_40 : decode cX12_best 40 = .ok (.goto 7, 3) := by decide +kernel
theorem dX12_best_43 : decode cX12_best 43 = .ok (.aload_n 0, 1) := by decide +kernel
theorem dX12_best_44 : decode cX12_best 44 = .ok (.getfield 453, 3) := by decide +kernel
theorem dX12_best_47 : decode cX12_best 47 = .ok (.ireturn, 1) := by decide +kernel
theorem dX12_best_48 : decode cX12_best 48 = .ok (.iload_n 1, 1) := by decide +kernel
theorem dX12_best_49 : decode cX12_best 49 = .ok (.iconst 2, 1) := by decide +kernel
theorem dX12_best_50 : decode cX12_best 50 = .ok (.isub, 1) := by decide +kernel
theorem dX12_best_51 : decode cX12_best 51 = .ok (.aload_n 0, 1) := by decide +kernel
theorem dX12_best_52 : decode cX12_best 52 = .ok (.getfield 444, 3) := by decide +kernel
theorem dX12_best_55 : decode cX12_best 55 = .ok (.if_icmp .ge 14, 3) := by decide +kernel
theorem dX12_best_58 : decode cX12_best 58 = .ok (.aload_n 0, 1) := by decide +kernel
theorem dX12_best_59 : decode cX12_best 59 = .ok (.getfield 76, 3) := by decide +kernel
theorem dX12_best_62 : decode cX12_best 62 = .ok (.iload_n 1, 1) := by decide +kernel
theorem dX12_best_63 : decode cX12_best 63 = .ok (.iconst 2, 1) := by decide +kernel
theorem dX12_best_64 : decode cX12_best 64 = .ok (.isub, 1) := by decide +kernel
theorem dX12_best_65 : decode cX12_best 65 = .ok (.iaload, 1) := by decide +kernel
theorem dX12_best_66 : decode cX12_best 66 = .ok (.goto 5, 3) := by decide +kernel
theorem dX12_best_69 : decode cX12_best 69 = .ok (.bipush (-2), 2) := by decide +kernel
theorem dX12_best_71 : decode cX12_best 71 = .ok (.ireturn, 1) := by decide +kernel
theorem dX12_four__0 : decode cX12_four_ 0 = .ok (.aload_n 0, 1) := by decide +kernel
theorem dX12_four__1 : decode cX12_four_ 1 = .ok (.invokevirtual 468, 3) := by decide +kernel
theorem dX12_four__4 : decode cX12_four_ 4 = .ok (.aload_n 0, 1) := by decide +kernel
theorem dX12_four__5 : decode cX12_four_ 5 = .ok (.getfield 444, 3) := by decide +kernel
theorem dX12_four__8 : decode cX12_four_ 8 = .ok (.ifCond .eq 14, 3) := by decide +kernel
theorem dX12_four__11 : decode cX12_four_ 11 = .ok (.aload_n 0, 1) := by decide +kernel
theorem dX12_four__12 : decode cX12_four_ 12 = .ok (.getfield 450, 3) := by decide +kernel
theorem dX12_four__15 : decode cX12_four_ 15 = .ok (.aload_n 0, 1) := by decide +kernel
theorem dX12_four__16 : decode cX12_four_ 16 = .ok (.getfield 444, 3) := by decide +kernel
theorem dX12_four__19 : decode cX12_four_ 19 = .ok (.if_icmp .ne 5, 3) := by decide +kernel
theorem dX12_four__22 : decode cX12_four_ 22 = .ok (.iconst (-1), 1) := by decide +kernel
theorem dX12_four__23 : decode cX12_four_ 23 = .ok (.ireturn, 1) := by decide +kernel
theorem dX12_four__24 : decode cX12_four_ 24 = .ok (.aload_n 0, 1) := by decide +kernel
theorem dX12_four__25 : decode cX12_four_ 25 = .ok (.bipush 16, 2) := by decide +kernel
theorem dX12_four__27 : decode cX12_four_ 27 = .ok (.invokevirtual 414, 3) := by decide +kernel
theorem dX12_four__30 : decode cX12_four_ 30 = .ok (.aload_n 0, 1) := by decide +kernel
theorem dX12_four__31 : decode cX12_four_ 31 = .ok (.invokevirtual 417, 3) := by decide +kernel
theorem dX12_four__34 : decode cX12_four_ 34 = .ok (.iconst 0, 1) := by decide +kernel
theorem dX12_four__35 : decode cX12_four_ 35 = .ok (.istore_n 1, 1) := by decide +kernel
theorem dX12_four__36 : decode cX12_four_ 36 = .ok (.iconst 0, 1) := by decide +kernel
theorem dX12_four__37 : decode cX12_four_ 37 = .ok (.istore_n 2, 1) := by decide +kernel
theorem dX12_four__38 : decode cX12_four_ 38 = .ok (.iload_n 2, 1) := by decide +kernel
theorem dX12_four__39 : decode cX12_four_ 39 = .ok (.aload_n 0, 1) := by decide +kernel
theorem dX12_four__40 : decode cX12_four_ 40 = .ok (.getfield 444, 3) := by decide +kernel
theorem dX12_four__43 : decode cX12_four_ 43 = .ok (.if_icmp .ge 30, 3) := by decide +kernel
theorem dX12_four__46 : decode cX12_four_ 46 = .ok (.aload_n 0, 1) := by decide +kernel
theorem dX12_four__47 : decode cX12_four_ 47 = .ok (.aload_n 0, 1) := by decide +kernel
theorem dX12_four__48 : decode cX12_four_ 48 = .ok (.getfield 76, 3) := by decide +kernel
theorem dX12_four__51 : decode cX12_four_ 51 = .ok (.iload_n 2, 1) := by decide +kernel
theorem dX12_four__52 : decode cX12_four_ 52 = .ok (.iaload, 1) := by decide +kernel
theorem dX12_four__53 : decode cX12_four_ 53 = .ok (.invokevirtual 420, 3) := by decide +kernel
theorem dX12_four__56 : decode cX12_four_ 56 = .ok (.ifCond .eq 9, 3) := by decide +kernel
theorem dX12_four__59 : decode cX12_four_ 59 = .ok (.iload_n 1, 1) := by decide +kernel
theorem dX12_four__60 : decode cX12_four_ 60 = .ok (.iconst 1, 1) := by decide +kernel
theorem dX12_four__61 : decode cX12_four_ 61 = .ok (.iadd, 1) := by decide +kernel
theorem dX12_four__62 : decode cX12_four_ 62 = .ok (.goto 4, 3) := by decide +kernel
theorem dX12_four__65 : decode cX12_four_ 65 = .ok (.iload_n 1, 1) := by decide +kernel
theorem dX12_four__66 : decode cX12_four_ 66 = .ok (.istore_n 1, 1) := by decide +kernel
theorem dX12_four__67 : decode cX12_four_ 67 = .ok (.iinc 2 1, 3) := by decide +kernel
theorem dX12_four__70 : decode cX12_four_ 70 = .ok (.goto (-32), 3) := by decide +kernel
theorem dX12_four__73 : decode cX12_four_ 73 = .ok (.iload_n 1, 1) := by decide +kernel
theorem dX12_four__74 : decode cX12_four_ 74 = .ok (.ireturn, 1) := by decide +kernel
theorem dX12_liesAt_0 : decode cX12_liesAt 0 = .ok (.iconst 0, 1) := by decide +kernel
theorem dX12_liesAt_1 : decode cX12_liesAt 1 = .ok (.istore_n 3, 1) := by decide +kernel
theorem dX12_liesAt_2 : decode cX12_liesAt 2 = .ok (.iload_n 3, 1) := by decide +kernel
theorem dX12_liesAt_3 : decode cX12_liesAt 3 = .ok (.aload_n 0, 1) := by decide +kernel
theorem dX12_liesAt_4 : decode cX12_liesAt 4 = .ok (.getfield 13, 3) := by decide +kernel
theorem dX12_liesAt_7 : decode cX12_liesAt 7 = .ok (.bipush 9, 2) := by decide +kernel
theorem dX12_liesAt_9 : decode cX12_liesAt 9 = .ok (.iaload, 1) := by decide +kernel
theorem dX12_liesAt_10 : decode cX12_liesAt 10 = .ok (.if_icmp .ge 39, 3) := by decide +kernel
theorem dX12_liesAt_13 : decode cX12_liesAt 13 = .ok (.aload_n 0, 1) := by decide +kernel
theorem dX12_liesAt_14 : decode cX12_liesAt 14 = .ok (.iload_n 3, 1) := by decide +kernel
theorem dX12_liesAt_15 : decode cX12_liesAt 15 = .ok (.iload_n 1, 1) := by decide +kernel
theorem dX12_liesAt_16 : decode cX12_liesAt 16 = .ok (.invokevirtual 471, 3) := by decide +kernel
theorem dX12_liesAt_19 : decode cX12_liesAt 19 = .ok (.ifCond .eq 24, 3) := by decide +kernel
theorem dX12_liesAt_22 : decode cX12_liesAt 22 = .ok (.iload_n 2, 1) := by decide +kernel
theorem dX12_liesAt_23 : decode cX12_liesAt 23 = .ok (.aload_n 0, 1) := by decide +kernel
theorem dX12_liesAt_24 : decode cX12_liesAt 24 = .ok (.getfield 36, 3) := by decide +kernel
theorem dX12_liesAt_27 : decode cX12_liesAt 27 = .ok (.iload_n 3, 1) := by decide +kernel
theorem dX12_liesAt_28 : decode cX12_liesAt 28 = .ok (.iaload, 1) := by decide +kernel
theorem dX12_liesAt_29 : decode cX12_liesAt 29 = .ok (.if_icmp .lt 14, 3) := by decide +kernel
theorem dX12_liesAt_32 : decode cX12_liesAt 32 = .ok (.iload_n 2, 1) := by decide +kernel
theorem dX12_liesAt_33 : decode cX12_liesAt 33 = .ok (.aload_n 0, 1) := by decide +kernel
theorem dX12_liesAt_34 : decode cX12_liesAt 34 = .ok (.iload_n 3, 1) := by decide +kernel
theorem dX12_liesAt_35 : decode cX12_liesAt 35 = .ok (.invokevirtual 349, 3) := by decide +kernel
theorem dX12_liesAt_38 : decode cX12_liesAt 38 = .ok (.if_icmp .gt 5, 3) := by decide +kernel
theorem dX12_liesAt_41 : decode cX12_liesAt 41 = .ok (.iload_n 3, 1) := by decide +kernel
theorem dX12_liesAt_42 : decode cX12_liesAt 42 = .ok (.ireturn, 1) := by decide +kernel
theorem dX12_liesAt_43 : decode cX12_liesAt 43 = .ok (.iinc 3 1, 3) := by decide +kernel
theorem dX12_liesAt_46 : decode cX12_liesAt 46 = .ok (.goto (-44), 3) := by decide +kernel
theorem dX12_liesAt_49 : decode cX12_liesAt 49 = .ok (.bipush (-2), 2) := by decide +kernel
theorem dX12_liesAt_51 : decode cX12_liesAt 51 = .ok (.ireturn, 1) := by decide +kernel
theorem dX12_at_0 : decode cX12_at 0 = .ok (.iload_n 1, 1) := by decide +kernel
theorem dX12_at_1 : decode cX12_at 1 = .ok (.invokestatic 283, 3) := by decide +kernel
theorem dX12_at_4 : decode cX12_at 4 = .ok (.ifCond .eq 20, 3) := by decide +kernel
theorem dX12_at_7 : decode cX12_at 7 = .ok (.aload_n 0, 1) := by decide +kernel
theorem dX12_at_8 : decode cX12_at 8 = .ok (.iload_n 2, 1) := by decide +kernel
theorem dX12_at_9 : decode cX12_at 9 = .ok (.invokevirtual 277, 3) := by decide +kernel
theorem dX12_at_12 : decode cX12_at 12 = .ok (.ifCond .eq 12, 3) := by decide +kernel
theorem dX12_at_15 : decode cX12_at 15 = .ok (.aload_n 0, 1) := by decide +kernel
theorem dX12_at_16 : decode cX12_at 16 = .ok (.iload_n 1, 1) := by decide +kernel
theorem dX12_at_17 : decode cX12_at 17 = .ok (.iload_n 2, 1) := by decide +kernel
theorem dX12_at_18 : decode cX12_at 18 = .ok (.invokevirtual 474, 3) := by decide +kernel
theorem dX12_at_21 : decode cX12_at 21 = .ok (.goto 4, 3) := by decide +kernel
theorem dX12_at_24 : decode cX12_at 24 = .ok (.iconst (-1), 1) := by decide +kernel
theorem dX12_at_25 : decode cX12_at 25 = .ok (.ireturn, 1) := by decide +kernel
theorem dX12_nextLying_0 : decode cX12_nextLying 0 = .ok (.iconst (-1), 1) := by decide +kernel
theorem dX12_nextLying_1 : decode cX12_nextLying 1 = .ok (.istore_n 3, 1) := by decide +kernel
theorem dX12_nextLying_2 : decode cX12_nextLying 2 = .ok (.iconst 0, 1) := by decide +kernel
theorem dX12_nextLying_3 : decode cX12_nextLying 3 = .ok (.istore 4, 2) := by decide +kernel
theorem dX12_nextLying_5 : decode cX12_nextLying 5 = .ok (.iload 4, 2) := by decide +kernel
theorem dX12_nextLying_7 : decode cX12_nextLying 7 = .ok (.aload_n 0, 1) := by decide +kernel
theorem dX12_nextLying_8 : decode cX12_nextLying 8 = .ok (.getfield 13, 3) := by decide +kernel
theorem dX12_nextLying_11 : decode cX12_nextLying 11 = .ok (.bipush 9, 2) := by decide +kernel
theorem dX12_nextLying_13 : decode cX12_nextLying 13 = .ok (.iaload, 1) := by decide +kernel
theorem dX12_nextLying_14 : decode cX12_nextLying 14 = .ok (.if_icmp .ge 61, 3) := by decide +kernel
theorem dX12_nextLying_17 : decode cX12_nextLying 17 = .ok (.aload_n 0, 1) := by decide +kernel
theorem dX12_nextLying_18 : decode cX12_nextLying 18 = .ok (.iload 4, 2) := by decide +kernel
theorem dX12_nextLying_20 : decode cX12_nextLying 20 = .ok (.iload_n 1, 1) := by decide +kernel
theorem dX12_nextLying_21 : decode cX12_nextLying 21 = .ok (.invokevirtual 471, 3) := by decide +kernel
theorem dX12_nextLying_24 : decode cX12_nextLying 24 = .ok (.ifCond .eq 45, 3) := by decide +kernel
theorem dX12_nextLying_27 : decode cX12_nextLying 27 = .ok (.aload_n 0, 1) := by decide +kernel
theorem dX12_nextLying_28 : decode cX12_nextLying 28 = .ok (.getfield 36, 3) := by decide +kernel
theorem dX12_nextLying_31 : decode cX12_nextLying 31 = .ok (.iload 4, 2) := by decide +kernel
theorem dX12_nextLying_33 : decode cX12_nextLying 33 = .ok (.iaload, 1) := by decide +kernel
theorem dX12_nextLying_34 : decode cX12_nextLying 34 = .ok (.iload_n 2, 1) := by decide +kernel
theorem dX12_nextLying_35 : decode cX12_nextLying 35 = .ok (.if_icmp .gt 6, 3) := by decide +kernel
theorem dX12_nextLying_38 : decode cX12_nextLying 38 = .ok (.goto 31, 3) := by decide +kernel
theorem dX12_nextLying_41 : decode cX12_nextLying 41 = .ok (.iload_n 3, 1) := by decide +kernel
theorem dX12_nextLying_42 : decode cX12_nextLying 42 = .ok (.iconst (-1), 1) := by decide +kernel
theorem dX12_nextLying_43 : decode cX12_nextLying 43 = .ok (.if_icmp .eq 19, 3) := by decide +kernel
theorem dX12_nextLying_46 : decode cX12_nextLying 46 = .ok (.aload_n 0, 1) := by decide +kernel
theorem dX12_nextLying_47 : decode cX12_nextLying 47 = .ok (.getfield 36, 3) := by decide +kernel
theorem dX12_nextLying_50 : decode cX12_nextLying 50 = .ok (.iload 4, 2) := by decide +kernel
theorem dX12_nextLying_52 : decode cX12_nextLying 52 = .ok (.iaload, 1) := by decide +kernel
theorem dX12_nextLying_53 : decode cX12_nextLying 53 = .ok (.aload_n 0, 1) := by decide +kernel
theorem dX12_nextLying_54 : decode cX12_nextLying 54 = .ok (.getfield 36, 3) := by decide +kernel
theorem dX12_nextLying_57 : decode cX12_nextLying 57 = .ok (.iload_n 3, 1) := by decide +kernel
theorem dX12_nextLying_58 : decode cX12_nextLying 58 = .ok (.iaload, 1) := by decide +kernel
theorem dX12_nextLying_59 : decode cX12_nextLying 59 = .ok (.if_icmp .ge 8, 3) := by decide +kernel
theorem dX12_nextLying_62 : decode cX12_nextLying 62 = .ok (.iload 4, 2) := by decide +kernel
theorem dX12_nextLying_64 : decode cX12_nextLying 64 = .ok (.goto 4, 3) := by decide +kernel
theorem dX12_nextLying_67 : decode cX12_nextLying 67 = .ok (.iload_n 3, 1) := by decide +kernel
theorem dX12_nextLying_68 : decode cX12_nextLying 68 = .ok (.istore_n 3, 1) := by decide +kernel
theorem dX12_nextLying_69 : decode cX12_nextLying 69 = .ok (.iinc 4 1, 3) := by decide +kernel
theorem dX12_nextLying_72 : decode cX12_nextLying 72 = .ok (.goto (-67), 3) := by decide +kernel
theorem dX12_nextLying_75 : decode cX12_nextLying 75 = .ok (.iload_n 3, 1) := by decide +kernel
theorem dX12_nextLying_76 : decode cX12_nextLying 76 = .ok (.ireturn, 1) := by decide +kernel
theorem dX12_lies_0 : decode cX12_lies 0 = .ok (.iload_n 1, 1) := by decide +kernel
theorem dX12_lies_1 : decode cX12_lies 1 = .ok (.invokestatic 283, 3) := by decide +kernel
theorem dX12_lies_4 : decode cX12_lies 4 = .ok (.ifCond .eq 8, 3) := by decide +kernel
theorem dX12_lies_7 : decode cX12_lies 7 = .ok (.iload_n 2, 1) := by decide +kernel
theorem dX12_lies_8 : decode cX12_lies 8 = .ok (.iconst (-1), 1) := by decide +kernel
theorem dX12_lies_9 : decode cX12_lies 9 = .ok (.if_icmp .ge 5, 3) := by decide +kernel
theorem dX12_lies_12 : decode cX12_lies 12 = .ok (.iconst (-1), 1) := by decide +kernel
theorem dX12_lies_13 : decode cX12_lies 13 = .ok (.ireturn, 1) := by decide +kernel
theorem dX12_lies_14 : decode cX12_lies 14 = .ok (.iconst 0, 1) := by decide +kernel
theorem dX12_lies_15 : decode cX12_lies 15 = .ok (.istore_n 3, 1) := by decide +kernel
theorem dX12_lies_16 : decode cX12_lies 16 = .ok (.aload_n 0, 1) := by decide +kernel
theorem dX12_lies_17 : decode cX12_lies 17 = .ok (.iload_n 1, 1) := by decide +kernel
theorem dX12_lies_18 : decode cX12_lies 18 = .ok (.iconst (-1), 1) := by decide +kernel
theorem dX12_lies_19 : decode cX12_lies 19 = .ok (.invokevirtual 477, 3) := by decide +kernel
theorem dX12_lies_22 : decode cX12_lies 22 = .ok (.istore 4, 2) := by decide +kernel
theorem dX12_lies_24 : decode cX12_lies 24 = .ok (.iload 4, 2) := by decide +kernel
theorem dX12_lies_26 : decode cX12_lies 26 = .ok (.iconst (-1), 1) := by decide +kernel
theorem dX12_lies_27 : decode cX12_lies 27 = .ok (.if_icmp .eq 32, 3) := by decide +kernel
theorem dX12_lies_30 : decode cX12_lies 30 = .ok (.iload_n 3, 1) := by decide +kernel
theorem dX12_lies_31 : decode cX12_lies 31 = .ok (.iload_n 2, 1) := by decide +kernel
theorem dX12_lies_32 : decode cX12_lies 32 = .ok (.if_icmp .ne 6, 3) := by decide +kernel
theorem dX12_lies_35 : decode cX12_lies 35 = .ok (.iload 4, 2) := by decide +kernel
theorem dX12_lies_37 : decode cX12_lies 37 = .ok (.ireturn, 1) := by decide +kernel
theorem dX12_lies_38 : decode cX12_lies 38 = .ok (.iload_n 3, 1) := by decide +kernel
theorem dX12_lies_39 : decode cX12_lies 39 = .ok (.iconst 1, 1) := by decide +kernel
theorem dX12_lies_40 : decode cX12_lies 40 = .ok (.iadd, 1) := by decide +kernel
theorem dX12_lies_41 : decode cX12_lies 41 = .ok (.istore_n 3, 1) := by decide +kernel
theorem dX12_lies_42 : decode cX12_lies 42 = .ok (.aload_n 0, 1) := by decide +kernel
theorem dX12_lies_43 : decode cX12_lies 43 = .ok (.iload_n 1, 1) := by decide +kernel
theorem dX12_lies_44 : decode cX12_lies 44 = .ok (.aload_n 0, 1) := by decide +kernel
theorem dX12_lies_45 : decode cX12_lies 45 = .ok (.getfield 36, 3) := by decide +kernel
theorem dX12_lies_48 : decode cX12_lies 48 = .ok (.iload 4, 2) := by decide +kernel
theorem dX12_lies_50 : decode cX12_lies 50 = .ok (.iaload, 1) := by decide +kernel
theorem dX12_lies_51 : decode cX12_lies 51 = .ok (.invokevirtual 477, 3) := by decide +kernel
theorem dX12_lies_54 : decode cX12_lies 54 = .ok (.istore 4, 2) := by decide +kernel
theorem dX12_lies_56 : decode cX12_lies 56 = .ok (.goto (-32), 3) := by decide +kernel
theorem dX12_lies_59 : decode cX12_lies 59 = .ok (.iload_n 2, 1) := by decide +kernel
theorem dX12_lies_60 : decode cX12_lies 60 = .ok (.iconst (-1), 1) := by decide +kernel
theorem dX12_lies_61 : decode cX12_lies 61 = .ok (.if_icmp .ne 7, 3) := by decide +kernel
theorem dX12_lies_64 : decode cX12_lies 64 = .ok (.iload_n 3, 1) := by decide +kernel
theorem dX12_lies_65 : decode cX12_lies 65 = .ok (.goto 5, 3) := by decide +kernel
theorem dX12_lies_68 : decode cX12_lies 68 = .ok (.bipush (-2), 2) := by decide +kernel
theorem dX12_lies_70 : decode cX12_lies 70 = .ok (.ireturn, 1) := by decide +kernel
theorem dX12_free_0 : decode cX12_free 0 = .ok (.iload_n 1, 1) := by decide +kernel
theorem dX12_free_1 : decode cX12_free 1 = .ok (.invokestatic 283, 3) := by decide +kernel
theorem dX12_free_4 : decode cX12_free 4 = .ok (.ifCond .eq 13, 3) := by decide +kernel
theorem dX12_free_7 : decode cX12_free 7 = .ok (.iload_n 2, 1) := by decide +kernel
theorem dX12_free_8 : decode cX12_free 8 = .ok (.i2l, 1) := by decide +kernel
theorem dX12_free_9 : decode cX12_free 9 = .ok (.lconst 0, 1) := by decide +kernel
theorem dX12_free_10 : decode cX12_free 10 = .ok (.lconst 1, 1) := by decide +kernel
theorem dX12_free_11 : decode cX12_free 11 = .ok (.invokestatic 99, 3) := by decide +kernel
theorem dX12_free_14 : decode cX12_free 14 = .ok (.ifCond .ne 5, 3) := by decide +kernel
theorem dX12_free_17 : decode cX12_free 17 = .ok (.iconst (-1), 1) := by decide +kernel
theorem dX12_free_18 : decode cX12_free 18 = .ok (.ireturn, 1) := by decide +kernel
theorem dX12_free_19 : decode cX12_free 19 = .ok (.iconst 0, 1) := by decide +kernel
theorem dX12_free_20 : decode cX12_free 20 = .ok (.istore_n 3, 1) := by decide +kernel
theorem dX12_free_21 : decode cX12_free 21 = .ok (.bipush (-2), 2) := by decide +kernel
theorem dX12_free_23 : decode cX12_free 23 = .ok (.istore 4, 2) := by decide +kernel
theorem dX12_free_25 : decode cX12_free 25 = .ok (.iconst 0, 1) := by decide +kernel
theorem dX12_free_26 : decode cX12_free 26 = .ok (.istore 5, 2) := by decide +kernel
theorem dX12_free_28 : decode cX12_free 28 = .ok (.iconst 0, 1) := by decide +kernel
theorem dX12_free_29 : decode cX12_free 29 = .ok (.istore 6, 2) := by decide +kernel
theorem dX12_free_31 : decode cX12_free 31 = .ok (.iload 6, 2) := by decide +kernel
theorem dX12_free_33 : decode cX12_free 33 = .ok (.aload_n 0, 1) := by decide +kernel
theorem dX12_free_34 : decode cX12_free 34 = .ok (.getfield 13, 3) := by decide +kernel
theorem dX12_free_37 : decode cX12_free 37 = .ok (.iconst 0, 1) := by decide +kernel
theorem dX12_free_38 : decode cX12_free 38 = .ok (.iaload, 1) := by decide +kernel
theorem dX12_free_39 : decode cX12_free 39 = .ok (.if_icmp .ge 52, 3) := by decide +kernel
theorem dX12_free_42 : decode cX12_free 42 = .ok (.aload_n 0, 1) := by decide +kernel
theorem dX12_free_43 : decode cX12_free 43 = .ok (.iload_n 1, 1) := by decide +kernel
theorem dX12_free_44 : decode cX12_free 44 = .ok (.iload 6, 2) := by decide +kernel
theorem dX12_free_46 : decode cX12_free 46 = .ok (.invokevirtual 474, 3) := by decide +kernel
theorem dX12_free_49 : decode cX12_free 49 = .ok (.bipush (-2), 2) := by decide +kernel
theorem dX12_free_51 : decode cX12_free 51 = .ok (.if_icmp .ne 10, 3) := by decide +kernel
theorem dX12_free_54 : decode cX12_free 54 = .ok (.iload 5, 2) := by decide +kernel
theorem dX12_free_56 : decode cX12_free 56 = .ok (.iconst 1, 1) := by decide +kernel
theorem dX12_free_57 : decode cX12_free 57 = .ok (.iadd, 1) := by decide +kernel
theorem dX12_free_58 : decode cX12_free 58 = .ok (.goto 4, 3) := by decide +kernel
theorem dX12_free_61 : decode cX12_free 61 = .ok (.iconst 0, 1) := by decide +kernel
theorem dX12_free_62 : decode cX12_free 62 = .ok (.istore 5, 2) := by decide +kernel
theorem dX12_free_64 : decode cX12_free 64 = .ok (.iload 5, 2) := by decide +kernel
theorem dX12_free_66 : decode cX12_free 66 = .ok (.iload_n 3, 1) := by decide +kernel
theorem dX12_free_67 : decode cX12_free 67 = .ok (.if_icmp .gt 6, 3) := by decide +kernel
theorem dX12_free_70 : decode cX12_free 70 = .ok (.goto 15, 3) := by decide +kernel
theorem dX12_free_73 : decode cX12_free 73 = .ok (.iload 5, 2) := by decide +kernel
theorem dX12_free_75 : decode cX12_free 75 = .ok (.istore_n 3, 1) := by decide +kernel
theorem dX12_free_76 : decode cX12_free 76 = .ok (.iload 6, 2) := by decide +kernel
theorem dX12_free_78 : decode cX12_free 78 = .ok (.iload 5, 2) := by decide +kernel
theorem dX12_free_80 : decode cX12_free 80 = .ok (.isub, 1) := by decide +kernel
theorem dX12_free_81 : decode cX12_free 81 = .ok (.iconst 1, 1) := by decide +kernel
theorem dX12_free_82 : decode cX12_free 82 = .ok (.iadd, 1) := by decide +kernel
theorem dX12_free_83 : decode cX12_free 83 = .ok (.istore 4, 2) := by decide +kernel
theorem dX12_free_85 : decode cX12_free 85 = .ok (.iinc 6 1, 3) := by decide +kernel
theorem dX12_free_88 : decode cX12_free 88 = .ok (.goto (-57), 3) := by decide +kernel
theorem dX12_free_91 : decode cX12_free 91 = .ok (.iload_n 2, 1) := by decide +kernel
theorem dX12_free_92 : decode cX12_free 92 = .ok (.ifCond .ne 7, 3) := by decide +kernel
theorem dX12_free_95 : decode cX12_free 95 = .ok (.iload_n 3, 1) := by decide +kernel
theorem dX12_free_96 : decode cX12_free 96 = .ok (.goto 5, 3) := by decide +kernel
theorem dX12_free_99 : decode cX12_free 99 = .ok (.iload 4, 2) := by decide +kernel
theorem dX12_free_101 : decode cX12_free 101 = .ok (.ireturn, 1) := by decide +kernel
theorem dX12_isCrane_0 : decode cX12_isCrane 0 = .ok (.iload_n 1, 1) := by decide +kernel
theorem dX12_isCrane_1 : decode cX12_isCrane 1 = .ok (.i2l, 1) := by decide +kernel
theorem dX12_isCrane_2 : decode cX12_isCrane 2 = .ok (.lconst 0, 1) := by decide +kernel
theorem dX12_isCrane_3 : decode cX12_isCrane 3 = .ok (.aload_n 0, 1) := by decide +kernel
theorem dX12_isCrane_4 : decode cX12_isCrane 4 = .ok (.getfield 13, 3) := by decide +kernel
theorem dX12_isCrane_7 : decode cX12_isCrane 7 = .ok (.bipush 7, 2) := by decide +kernel
theorem dX12_isCrane_9 : decode cX12_isCrane 9 = .ok (.iaload, 1) := by decide +kernel
theorem dX12_isCrane_10 : decode cX12_isCrane 10 = .ok (.iconst 1, 1) := by decide +kernel
theorem dX12_isCrane_11 : decode cX12_isCrane 11 = .ok (.isub, 1) := by decide +kernel
theorem dX12_isCrane_12 : decode cX12_isCrane 12 = .ok (.i2l, 1) := by decide +kernel
theorem dX12_isCrane_13 : decode cX12_isCrane 13 = .ok (.invokestatic 99, 3) := by decide +kernel
theorem dX12_isCrane_16 : decode cX12_isCrane 16 = .ok (.ireturn, 1) := by decide +kernel
theorem dX12_workedOn_0 : decode cX12_workedOn 0 = .ok (.aload_n 0, 1) := by decide +kernel
theorem dX12_workedOn_1 : decode cX12_workedOn 1 = .ok (.iload_n 2, 1) := by decide +kernel
theorem dX12_workedOn_2 : decode cX12_workedOn 2 = .ok (.iconst (-1), 1) := by decide +kernel
theorem dX12_workedOn_3 : decode cX12_workedOn 3 = .ok (.invokevirtual 361, 3) := by decide +kernel
theorem dX12_workedOn_6 : decode cX12_workedOn 6 = .ok (.ifCond .ne 6, 3) := by decide +kernel
theorem dX12_workedOn_9 : decode cX12_workedOn 9 = .ok (.bipush (-2), 2) := by decide +kernel
theorem dX12_workedOn_11 : decode cX12_workedOn 11 = .ok (.ireturn, 1) := by decide +kernel
theorem dX12_workedOn_12 : decode cX12_workedOn 12 = .ok (.aload_n 0, 1) := by decide +kernel
theorem dX12_workedOn_13 : decode cX12_workedOn 13 = .ok (.getfield 51, 3) := by decide +kernel
theorem dX12_workedOn_16 : decode cX12_workedOn 16 = .ok (.iload_n 1, 1) := by decide +kernel
theorem dX12_workedOn_17 : decode cX12_workedOn 17 = .ok (.iaload, 1) := by decide +kernel
theorem dX12_workedOn_18 : decode cX12_workedOn 18 = .ok (.iconst (-1), 1) := by decide +kernel
theorem dX12_workedOn_19 : decode cX12_workedOn 19 = .ok (.if_icmp .ne 8, 3) := by decide +kernel
theorem dX12_workedOn_22 : decode cX12_workedOn 22 = .ok (.bipush (-2), 2) := by decide +kernel
theorem dX12_workedOn_24 : decode cX12_workedOn 24 = .ok (.goto 9, 3) := by decide +kernel
theorem dX12_workedOn_27 : decode cX12_workedOn 27 = .ok (.aload_n 0, 1) := by decide +kernel
theorem dX12_workedOn_28 : decode cX12_workedOn 28 = .ok (.getfield 51, 3) := by decide +kernel
theorem dX12_workedOn_31 : decode cX12_workedOn 31 = .ok (.iload_n 1, 1) := by decide +kernel
theorem dX12_workedOn_32 : decode cX12_workedOn 32 = .ok (.iaload, 1) := by decide +kernel
theorem dX12_workedOn_33 : decode cX12_workedOn 33 = .ok (.ireturn, 1) := by decide +kernel
theorem dX12_works_0 : decode cX12_works 0 = .ok (.aload_n 0, 1) := by decide +kernel
theorem dX12_works_1 : decode cX12_works 1 = .ok (.iload_n 1, 1) := by decide +kernel
theorem dX12_works_2 : decode cX12_works 2 = .ok (.invokevirtual 480, 3) := by decide +kernel
theorem dX12_works_5 : decode cX12_works 5 = .ok (.ifCond .eq 19, 3) := by decide +kernel
theorem dX12_works_8 : decode cX12_works 8 = .ok (.iload_n 2, 1) := by decide +kernel
theorem dX12_works_9 : decode cX12_works 9 = .ok (.invokestatic 283, 3) := by decide +kernel
theorem dX12_works_12 : decode cX12_works 12 = .ok (.ifCond .eq 12, 3) := by decide +kernel
theorem dX12_works_15 : decode cX12_works 15 = .ok (.aload_n 0, 1) := by decide +kernel
theorem dX12_works_16 : decode cX12_works 16 = .ok (.iload_n 1, 1) := by decide +kernel
theorem dX12_works_17 : decode cX12_works 17 = .ok (.iload_n 2, 1) := by decide +kernel
theorem dX12_works_18 : decode cX12_works 18 = .ok (.invokevirtual 483, 3) := by decide +kernel
theorem dX12_works_21 : decode cX12_works 21 = .ok (.goto 4, 3) := by decide +kernel
theorem dX12_works_24 : decode cX12_works 24 = .ok (.iconst (-1), 1) := by decide +kernel
theorem dX12_works_25 : decode cX12_works 25 = .ok (.ireturn, 1) := by decide +kernel
theorem dX12_hours_0 : decode cX12_hours 0 = .ok (.aload_n 0, 1) := by decide +kernel
theorem dX12_hours_1 : decode cX12_hours 1 = .ok (.iload_n 1, 1) := by decide +kernel
theorem dX12_hours_2 : decode cX12_hours 2 = .ok (.invokevirtual 480, 3) := by decide +kernel
theorem dX12_hours_5 : decode cX12_hours 5 = .ok (.ifCond .ne 5, 3) := by decide +kernel
theorem dX12_hours_8 : decode cX12_hours 8 = .ok (.iconst (-1), 1) := by decide +kernel
theorem dX12_hours_9 : decode cX12_hours 9 = .ok (.ireturn, 1) := by decide +kernel
theorem dX12_hours_10 : decode cX12_hours 10 = .ok (.iconst 0, 1) := by decide +kernel
theorem dX12_hours_11 : decode cX12_hours 11 = .ok (.istore_n 2, 1) := by decide +kernel
theorem dX12_hours_12 : decode cX12_hours 12 = .ok (.iconst 0, 1) := by decide +kernel
theorem dX12_hours_13 : decode cX12_hours 13 = .ok (.istore_n 3, 1) := by decide +kernel
theorem dX12_hours_14 : decode cX12_hours 14 = .ok (.iload_n 3, 1) := by decide +kernel
theorem dX12_hours_15 : decode cX12_hours 15 = .ok (.sipush 336, 3) := by decide +kernel
theorem dX12_hours_18 : decode cX12_hours 18 = .ok (.if_icmp .ge 28, 3) := by decide +kernel
theorem dX12_hours_21 : decode cX12_hours 21 = .ok (.aload_n 0, 1) := by decide +kernel
theorem dX12_hours_22 : decode cX12_hours 22 = .ok (.iload_n 1, 1) := by decide +kernel
theorem dX12_hours_23 : decode cX12_hours 23 = .ok (.iload_n 3, 1) := by decide +kernel
theorem dX12_hours_24 : decode cX12_hours 24 = .ok (.invokevirtual 483, 3) := by decide +kernel
theorem dX12_hours_27 : decode cX12_hours 27 = .ok (.bipush (-2), 2) := by decide +kernel
theorem dX12_hours_29 : decode cX12_hours 29 = .ok (.if_icmp .ne 7, 3) := by decide +kernel
theorem dX12_hours_32 : decode cX12_hours 32 = .ok (.iload_n 2, 1) := by decide +kernel
theorem dX12_hours_33 : decode cX12_hours 33 = .ok (.goto 6, 3) := by decide +kernel
theorem dX12_hours_36 : decode cX12_hours 36 = .ok (.iload_n 2, 1) := by decide +kernel
theorem dX12_hours_37 : decode cX12_hours 37 = .ok (.iconst 1, 1) := by decide +kernel
theorem dX12_hours_38 : decode cX12_hours 38 = .ok (.iadd, 1) := by decide +kernel
theorem dX12_hours_39 : decode cX12_hours 39 = .ok (.istore_n 2, 1) := by decide +kernel
theorem dX12_hours_40 : decode cX12_hours 40 = .ok (.iinc 3 1, 3) := by decide +kernel
theorem dX12_hours_43 : decode cX12_hours 43 = .ok (.goto (-29), 3) := by decide +kernel
theorem dX12_hours_46 : decode cX12_hours 46 = .ok (.iload_n 2, 1) := by decide +kernel
theorem dX12_hours_47 : decode cX12_hours 47 = .ok (.ireturn, 1) := by decide +kernel
theorem dX12_without_0 : decode cX12_without 0 = .ok (.aload_n 0, 1) := by decide +kernel
theorem dX12_without_1 : decode cX12_without 1 = .ok (.iload_n 1, 1) := by decide +kernel
theorem dX12_without_2 : decode cX12_without 2 = .ok (.invokevirtual 480, 3) := by decide +kernel
theorem dX12_without_5 : decode cX12_without 5 = .ok (.ifCond .ne 5, 3) := by decide +kernel
theorem dX12_without_8 : decode cX12_without 8 = .ok (.iconst (-1), 1) := by decide +kernel
theorem dX12_without_9 : decode cX12_without 9 = .ok (.ireturn, 1) := by decide +kernel
theorem dX12_without_10 : decode cX12_without 10 = .ok (.iconst 0, 1) := by decide +kernel
theorem dX12_without_11 : decode cX12_without 11 = .ok (.istore_n 2, 1) := by decide +kernel
theorem dX12_without_12 : decode cX12_without 12 = .ok (.iconst 0, 1) := by decide +kernel
theorem dX12_without_13 : decode cX12_without 13 = .ok (.istore_n 3, 1) := by decide +kernel
theorem dX12_without_14 : decode cX12_without 14 = .ok (.iload_n 3, 1) := by decide +kernel
theorem dX12_without_15 : decode cX12_without 15 = .ok (.sipush 336, 3) := by decide +kernel
theorem dX12_without_18 : decode cX12_without 18 = .ok (.if_icmp .ge 26, 3) := by decide +kernel
theorem dX12_without_21 : decode cX12_without 21 = .ok (.aload_n 0, 1) := by decide +kernel
theorem dX12_without_22 : decode cX12_without 22 = .ok (.iload_n 3, 1) := by decide +kernel
theorem dX12_without_23 : decode cX12_without 23 = .ok (.iload_n 1, 1) := by decide +kernel
theorem dX12_without_24 : decode cX12_without 24 = .ok (.invokevirtual 361, 3) := by decide +kernel
theorem dX12_without_27 : decode cX12_without 27 = .ok (.ifCond .eq 7, 3) := by decide +kernel
theorem dX12_without_30 : decode cX12_without 30 = .ok (.iload_n 2, 1) := by decide +kernel
theorem dX12_without_31 : decode cX12_without 31 = .ok (.goto 6, 3) := by decide +kernel
theorem dX12_without_34 : decode cX12_without 34 = .ok (.iload_n 2, 1) := by decide +kernel
theorem dX12_without_35 : decode cX12_without 35 = .ok (.iconst 1, 1) := by decide +kernel
theorem dX12_without_36 : decode cX12_without 36 = .ok (.iadd, 1) := by decide +kernel
theorem dX12_without_37 : decode cX12_without 37 = .ok (.istore_n 2, 1) := by decide +kernel
theorem dX12_without_38 : decode cX12_without 38 = .ok (.iinc 3 1, 3) := by decide +kernel
theorem dX12_without_41 : decode cX12_without 41 = .ok (.goto (-27), 3) := by decide +kernel
theorem dX12_without_44 : decode cX12_without 44 = .ok (.iload_n 2, 1) := by decide +kernel
theorem dX12_without_45 : decode cX12_without 45 = .ok (.ireturn, 1) := by decide +kernel
theorem dX12_leftAhead_0 : decode cX12_leftAhead 0 = .ok (.aload_n 0, 1) := by decide +kernel
theorem dX12_leftAhead_1 : decode cX12_leftAhead 1 = .ok (.iload_n 1, 1) := by decide +kernel
theorem dX12_leftAhead_2 : decode cX12_leftAhead 2 = .ok (.iconst 3, 1) := by decide +kernel
theorem dX12_leftAhead_3 : decode cX12_leftAhead 3 = .ok (.invokevirtual 316, 3) := by decide +kernel
theorem dX12_leftAhead_6 : decode cX12_leftAhead 6 = .ok (.istore_n 3, 1) := by decide +kernel
theorem dX12_leftAhead_7 : decode cX12_leftAhead 7 = .ok (.aload_n 0, 1) := by decide +kernel
theorem dX12_leftAhead_8 : decode cX12_leftAhead 8 = .ok (.iload_n 1, 1) := by decide +kernel
theorem dX12_leftAhead_9 : decode cX12_leftAhead 9 = .ok (.invokevirtual 326, 3) := by decide +kernel
theorem dX12_leftAhead_12 : decode cX12_leftAhead 12 = .ok (.ifCond .eq 13, 3) := by decide +kernel
theorem dX12_leftAhead_15 : decode cX12_leftAhead 15 = .ok (.iload_n 2, 1) := by decide +kernel
theorem dX12_leftAhead_16 : decode cX12_leftAhead 16 = .ok (.aload_n 0, 1) := by decide +kernel
theorem dX12_leftAhead_17 : decode cX12_leftAhead 17 = .ok (.getfield 39, 3) := by decide +kernel
theorem dX12_leftAhead_20 : decode cX12_leftAhead 20 = .ok (.iload_n 1, 1) := by decide +kernel
theorem dX12_leftAhead_21 : decode cX12_leftAhead 21 = .ok (.iaload, 1) := by decide +kernel
theorem dX12_leftAhead_22 : decode cX12_leftAhead 22 = .ok (.if_icmp .gt 5, 3) := by decide +kernel
theorem dX12_leftAhead_25 : decode cX12_leftAhead 25 = .ok (.iload_n 3, 1) := by decide +kernel
theorem dX12_leftAhead_26 : decode cX12_leftAhead 26 = .ok (.ireturn, 1) := by decide +kernel
theorem dX12_leftAhead_27 : decode cX12_leftAhead 27 = .ok (.iload_n 2, 1) := by decide +kernel
theorem dX12_leftAhead_28 : decode cX12_leftAhead 28 = .ok (.aload_n 0, 1) := by decide +kernel
theorem dX12_leftAhead_29 : decode cX12_leftAhead 29 = .ok (.getfield 39, 3) := by decide +kernel
theorem dX12_leftAhead_32 : decode cX12_leftAhead 32 = .ok (.iload_n 1, 1) := by decide +kernel
theorem dX12_leftAhead_33 : decode cX12_leftAhead 33 = .ok (.iaload, 1) := by decide +kernel
theorem dX12_leftAhead_34 : decode cX12_leftAhead 34 = .ok (.isub, 1) := by decide +kernel
theorem dX12_leftAhead_35 : decode cX12_leftAhead 35 = .ok (.istore 4, 2) := by decide +kernel
theorem dX12_leftAhead_37 : decode cX12_leftAhead 37 = .ok (.iload 4, 2) := by decide +kernel
theorem dX12_leftAhead_39 : decode cX12_leftAhead 39 = .ok (.aload_n 0, 1) := by decide +kernel
theorem dX12_leftAhead_40 : decode cX12_leftAhead 40 = .ok (.getfield 45, 3) := by decide +kernel
theorem dX12_leftAhead_43 : decode cX12_leftAhead 43 = .ok (.iload_n 1, 1) := by decide +kernel
theorem dX12_leftAhead_44 : decode cX12_leftAhead 44 = .ok (.iaload, 1) := by decide +kernel
theorem dX12_leftAhead_45 : decode cX12_leftAhead 45 = .ok (.if_icmp .lt 5, 3) := by decide +kernel
theorem dX12_leftAhead_48 : decode cX12_leftAhead 48 = .ok (.iconst 0, 1) := by decide +kernel
theorem dX12_leftAhead_49 : decode cX12_leftAhead 49 = .ok (.ireturn, 1) := by decide +kernel
theorem dX12_leftAhead_50 : decode cX12_leftAhead 50 = .ok (.iload_n 3, 1) := by decide +kernel
theorem dX12_leftAhead_51 : decode cX12_leftAhead 51 = .ok (.iload 4, 2) := by decide +kernel
theorem dX12_leftAhead_53 : decode cX12_leftAhead 53 = .ok (.aload_n 0, 1) := by decide +kernel
theorem dX12_leftAhead_54 : decode cX12_leftAhead 54 = .ok (.aload_n 0, 1) := by decide +kernel
theorem dX12_leftAhead_55 : decode cX12_leftAhead 55 = .ok (.getfield 42, 3) := by decide +kernel
theorem dX12_leftAhead_58 : decode cX12_leftAhead 58 = .ok (.iload_n 1, 1) := by decide +kernel
theorem dX12_leftAhead_59 : decode cX12_leftAhead 59 = .ok (.iaload, 1) := by decide +kernel
theorem dX12_leftAhead_60 : decode cX12_leftAhead 60 = .ok (.invokevirtual 294, 3) := by decide +kernel
theorem dX12_leftAhead_63 : decode cX12_leftAhead 63 = .ok (.imul, 1) := by decide +kernel
theorem dX12_leftAhead_64 : decode cX12_leftAhead 64 = .ok (.isub, 1) := by decide +kernel
theorem dX12_leftAhead_65 : decode cX12_leftAhead 65 = .ok (.ireturn, 1) := by decide +kernel
theorem dX12_left_0 : decode cX12_left 0 = .ok (.aload_n 0, 1) := by decide +kernel
theorem dX12_left_1 : decode cX12_left 1 = .ok (.iload_n 1, 1) := by decide +kernel
theorem dX12_left_2 : decode cX12_left 2 = .ok (.invokevirtual 297, 3) := by decide +kernel
theorem dX12_left_5 : decode cX12_left 5 = .ok (.ifCond .eq 19, 3) := by decide +kernel
theorem dX12_left_8 : decode cX12_left 8 = .ok (.iload_n 2, 1) := by decide +kernel
theorem dX12_left_9 : decode cX12_left 9 = .ok (.invokestatic 283, 3) := by decide +kernel
theorem dX12_left_12 : decode cX12_left 12 = .ok (.ifCond .eq 12, 3) := by decide +kernel
theorem dX12_left_15 : decode cX12_left 15 = .ok (.aload_n 0, 1) := by decide +kernel
theorem dX12_left_16 : decode cX12_left 16 = .ok (.iload_n 1, 1) := by decide +kernel
theorem dX12_left_17 : decode cX12_left 17 = .ok (.iload_n 2, 1) := by decide +kernel
theorem dX12_left_18 : decode cX12_left 18 = .ok (.invokevirtual 486, 3) := by decide +kernel
theorem dX12_left_21 : decode cX12_left 21 = .ok (.goto 4, 3) := by decide +kernel
theorem dX12_left_24 : decode cX12_left 24 = .ok (.iconst (-1), 1) := by decide +kernel
theorem dX12_left_25 : decode cX12_left 25 = .ok (.ireturn, 1) := by decide +kernel
theorem dX12_boxesIn_0 : decode cX12_boxesIn 0 = .ok (.iconst 0, 1) := by decide +kernel
theorem dX12_boxesIn_1 : decode cX12_boxesIn 1 = .ok (.istore_n 2, 1) := by decide +kernel
theorem dX12_boxesIn_2 : decode cX12_boxesIn 2 = .ok (.iconst 0, 1) := by decide +kernel
theorem dX12_boxesIn_3 : decode cX12_boxesIn 3 = .ok (.istore_n 3, 1) := by decide +kernel
theorem dX12_boxesIn_4 : decode cX12_boxesIn 4 = .ok (.iload_n 3, 1) := by decide +kernel
theorem dX12_boxesIn_5 : decode cX12_boxesIn 5 = .ok (.aload_n 0, 1) := by decide +kernel
theorem dX12_boxesIn_6 : decode cX12_boxesIn 6 = .ok (.getfield 13, 3) := by decide +kernel
theorem dX12_boxesIn_9 : decode cX12_boxesIn 9 = .ok (.bipush 9, 2) := by decide +kernel
theorem dX12_boxesIn_11 : decode cX12_boxesIn 11 = .ok (.iaload, 1) := by decide +kernel
theorem dX12_boxesIn_12 : decode cX12_boxesIn 12 = .ok (.if_icmp .ge 34, 3) := by decide +kernel
theorem dX12_boxesIn_15 : decode cX12_boxesIn 15 = .ok (.iload_n 2, 1) := by decide +kernel
theorem dX12_boxesIn_16 : decode cX12_boxesIn 16 = .ok (.aload_n 0, 1) := by decide +kernel
theorem dX12_boxesIn_17 : decode cX12_boxesIn 17 = .ok (.iload_n 3, 1) := by decide +kernel
theorem dX12_boxesIn_18 : decode cX12_boxesIn 18 = .ok (.bipush 16, 2) := by decide +kernel
theorem dX12_boxesIn_20 : decode cX12_boxesIn 20 = .ok (.iload_n 1, 1) := by decide +kernel
theorem dX12_boxesIn_21 : decode cX12_boxesIn 21 = .ok (.imul, 1) := by decide +kernel
theorem dX12_boxesIn_22 : decode cX12_boxesIn 22 = .ok (.invokevirtual 486, 3) := by decide +kernel
theorem dX12_boxesIn_25 : decode cX12_boxesIn 25 = .ok (.iadd, 1) := by decide +kernel
theorem dX12_boxesIn_26 : decode cX12_boxesIn 26 = .ok (.aload_n 0, 1) := by decide +kernel
theorem dX12_boxesIn_27 : decode cX12_boxesIn 27 = .ok (.iload_n 3, 1) := by decide +kernel
theorem dX12_boxesIn_28 : decode cX12_boxesIn 28 = .ok (.bipush 16, 2) := by decide +kernel
theorem dX12_boxesIn_30 : decode cX12_boxesIn 30 = .ok (.iload_n 1, 1) := by decide +kernel
theorem dX12_boxesIn_31 : decode cX12_boxesIn 31 = .ok (.imul, 1) := by decide +kernel
theorem dX12_boxesIn_32 : decode cX12_boxesIn 32 = .ok (.bipush 16, 2) := by decide +kernel
theorem dX12_boxesIn_34 : decode cX12_boxesIn 34 = .ok (.iadd, 1) := by decide +kernel
theorem dX12_boxesIn_35 : decode cX12_boxesIn 35 = .ok (.invokevirtual 486, 3) := by decide +kernel
theorem dX12_boxesIn_38 : decode cX12_boxesIn 38 = .ok (.isub, 1) := by decide +kernel
theorem dX12_boxesIn_39 : decode cX12_boxesIn 39 = .ok (.istore_n 2, 1) := by decide +kernel
theorem dX12_boxesIn_40 : decode cX12_boxesIn 40 = .ok (.iinc 3 1, 3) := by decide +kernel
theorem dX12_boxesIn_43 : decode cX12_boxesIn 43 = .ok (.goto (-39), 3) := by decide +kernel
theorem dX12_boxesIn_46 : decode cX12_boxesIn 46 = .ok (.iload_n 2, 1) := by decide +kernel
theorem dX12_boxesIn_47 : decode cX12_boxesIn 47 = .ok (.ireturn, 1) := by decide +kernel
theorem dX12_mostCranes_0 : decode cX12_mostCranes 0 = .ok (.iconst 0, 1) := by decide +kernel
theorem dX12_mostCranes_1 : decode cX12_mostCranes 1 = .ok (.istore_n 2, 1) := by decide +kernel
theorem dX12_mostCranes_2 : decode cX12_mostCranes 2 = .ok (.bipush 16, 2) := by decide +kernel
theorem dX12_mostCranes_4 : decode cX12_mostCranes 4 = .ok (.iload_n 1, 1) := by decide +kernel
theorem dX12_mostCranes_5 : decode cX12_mostCranes 5 = .ok (.imul, 1) := by decide +kernel
theorem dX12_mostCranes_6 : decode cX12_mostCranes 6 = .ok (.istore_n 3, 1) := by decide +kernel
theorem dX12_mostCranes_7 : decode cX12_mostCranes 7 = .ok (.iload_n 3, 1) := by decide +kernel
theorem dX12_mostCranes_8 : decode cX12_mostCranes 8 = .ok (.bipush 16, 2) := by decide +kernel
theorem dX12_mostCranes_10 : decode cX12_mostCranes 10 = .ok (.iload_n 1, 1) := by decide +kernel
theorem dX12_mostCranes_11 : decode cX12_mostCranes 11 = .ok (.imul, 1) := by decide +kernel
theorem dX12_mostCranes_12 : decode cX12_mostCranes 12 = .ok (.bipush 16, 2) := by decide +kernel
theorem dX12_mostCranes_14 : decode cX12_mostCranes 14 = .ok (.iadd, 1) := by decide +kernel
theorem dX12_mostCranes_15 : decode cX12_mostCranes 15 = .ok (.if_icmp .ge 28, 3) := by decide +kernel
theorem dX12_mostCranes_18 : decode cX12_mostCranes 18 = .ok (.aload_n 0, 1) := by decide +kernel
theorem dX12_mostCranes_19 : decode cX12_mostCranes 19 = .ok (.iload_n 3, 1) := by decide +kernel
theorem dX12_mostCranes_20 : decode cX12_mostCranes 20 = .ok (.invokevirtual 358, 3) := by decide +kernel
theorem dX12_mostCranes_23 : decode cX12_mostCranes 23 = .ok (.iload_n 2, 1) := by decide +kernel
theorem dX12_mostCranes_24 : decode cX12_mostCranes 24 = .ok (.if_icmp .le 11, 3) := by decide +kernel
theorem dX12_mostCranes_27 : decode cX12_mostCranes 27 = .ok (.aload_n 0, 1) := by decide +kernel
theorem dX12_mostCranes_28 : decode cX12_mostCranes 28 = .ok (.iload_n 3, 1) := by decide +kernel
theorem dX12_mostCranes_29 : decode cX12_mostCranes 29 = .ok (.invokevirtual 358, 3) := by decide +kernel
theorem dX12_mostCranes_32 : decode cX12_mostCranes 32 = .ok (.goto 4, 3) := by decide +kernel
theorem dX12_mostCranes_35 : decode cX12_mostCranes 35 = .ok (.iload_n 2, 1) := by decide +kernel
theorem dX12_mostCranes_36 : decode cX12_mostCranes 36 = .ok (.istore_n 2, 1) := by decide +kernel
theorem dX12_mostCranes_37 : decode cX12_mostCranes 37 = .ok (.iinc 3 1, 3) := by decide +kernel
theorem dX12_mostCranes_40 : decode cX12_mostCranes 40 = .ok (.goto (-33), 3) := by decide +kernel
theorem dX12_mostCranes_43 : decode cX12_mostCranes 43 = .ok (.iload_n 2, 1) := by decide +kernel
theorem dX12_mostCranes_44 : decode cX12_mostCranes 44 = .ok (.ireturn, 1) := by decide +kernel
theorem dX12_craneSlots_0 : decode cX12_craneSlots 0 = .ok (.iconst 0, 1) := by decide +kernel
theorem dX12_craneSlots_1 : decode cX12_craneSlots 1 = .ok (.istore_n 2, 1) := by decide +kernel
theorem dX12_craneSlots_2 : decode cX12_craneSlots 2 = .ok (.bipush 16, 2) := by decide +kernel
theorem dX12_craneSlots_4 : decode cX12_craneSlots 4 = .ok (.iload_n 1, 1) := by decide +kernel
theorem dX12_craneSlots_5 : decode cX12_craneSlots 5 = .ok (.imul, 1) := by decide +kernel
theorem dX12_craneSlots_6 : decode cX12_craneSlots 6 = .ok (.istore_n 3, 1) := by decide +kernel
theorem dX12_craneSlots_7 : decode cX12_craneSlots 7 = .ok (.iload_n 3, 1) := by decide +kernel
theorem dX12_craneSlots_8 : decode cX12_craneSlots 8 = .ok (.bipush 16, 2) := by decide +kernel
theorem dX12_craneSlots_10 : decode cX12_craneSlots 10 = .ok (.iload_n 1, 1) := by decide +kernel
theorem dX12_craneSlots_11 : decode cX12_craneSlots 11 = .ok (.imul, 1) := by decide +kernel
theorem dX12_craneSlots_12 : decode cX12_craneSlots 12 = .ok (.bipush 16, 2) := by decide +kernel
theorem dX12_craneSlots_14 : decode cX12_craneSlots 14 = .ok (.iadd, 1) := by decide +kernel
theorem dX12_craneSlots_15 : decode cX12_craneSlots 15 = .ok (.if_icmp .ge 17, 3) := by decide +kernel
theorem dX12_craneSlots_18 : decode cX12_craneSlots 18 = .ok (.iload_n 2, 1) := by decide +kernel
theorem dX12_craneSlots_19 : decode cX12_craneSlots 19 = .ok (.aload_n 0, 1) := by decide +kernel
theorem dX12_craneSlots_20 : decode cX12_craneSlots 20 = .ok (.iload_n 3, 1) := by decide +kernel
theorem dX12_craneSlots_21 : decode cX12_craneSlots 21 = .ok (.invokevirtual 358, 3) := by decide +kernel
theorem dX12_craneSlots_24 : decode cX12_craneSlots 24 = .ok (.iadd, 1) := by decide +kernel
theorem dX12_craneSlots_25 : decode cX12_craneSlots 25 = .ok (.istore_n 2, 1) := by decide +kernel
theorem dX12_craneSlots_26 : decode cX12_craneSlots 26 = .ok (.iinc 3 1, 3) := by decide +kernel
theorem dX12_craneSlots_29 : decode cX12_craneSlots 29 = .ok (.goto (-22), 3) := by decide +kernel
theorem dX12_craneSlots_32 : decode cX12_craneSlots 32 = .ok (.iload_n 2, 1) := by decide +kernel
theorem dX12_craneSlots_33 : decode cX12_craneSlots 33 = .ok (.ireturn, 1) := by decide +kernel
theorem dX12_shift_0 : decode cX12_shift 0 = .ok (.iload_n 1, 1) := by decide +kernel
theorem dX12_shift_1 : decode cX12_shift 1 = .ok (.iload_n 2, 1) := by decide +kernel
theorem dX12_shift_2 : decode cX12_shift 2 = .ok (.invokestatic 286, 3) := by decide +kernel
theorem dX12_shift_5 : decode cX12_shift 5 = .ok (.ifCond .eq 15, 3) := by decide +kernel
theorem dX12_shift_8 : decode cX12_shift 8 = .ok (.iload_n 3, 1) := by decide +kernel
theorem dX12_shift_9 : decode cX12_shift 9 = .ok (.i2l, 1) := by decide +kernel
theorem dX12_shift_10 : decode cX12_shift 10 = .ok (.lconst 0, 1) := by decide +kernel
theorem dX12_shift_11 : decode cX12_shift 11 = .ok (.ldc2_w 314, 3) := by decide +kernel
theorem dX12_shift_14 : decode cX12_shift 14 = .ok (.invokestatic 99, 3) := by decide +kernel
theorem dX12_shift_17 : decode cX12_shift 17 = .ok (.ifCond .ne 5, 3) := by decide +kernel
theorem dX12_shift_20 : decode cX12_shift 20 = .ok (.iconst (-1), 1) := by decide +kernel
theorem dX12_shift_21 : decode cX12_shift 21 = .ok (.ireturn, 1) := by decide +kernel
theorem dX12_shift_22 : decode cX12_shift 22 = .ok (.iconst 3, 1) := by decide +kernel
theorem dX12_shift_23 : decode cX12_shift 23 = .ok (.iload_n 1, 1) := by decide +kernel
theorem dX12_shift_24 : decode cX12_shift 24 = .ok (.imul, 1) := by decide +kernel
theorem dX12_shift_25 : decode cX12_shift 25 = .ok (.iload_n 2, 1) := by decide +kernel
theorem dX12_shift_26 : decode cX12_shift 26 = .ok (.iadd, 1) := by decide +kernel
theorem dX12_shift_27 : decode cX12_shift 27 = .ok (.istore 4, 2) := by decide +kernel
theorem dX12_shift_29 : decode cX12_shift 29 = .ok (.iload_n 3, 1) := by decide +kernel
theorem dX12_shift_30 : decode cX12_shift 30 = .ok (.tableswitch 47 0 2 #[26, 33, 40], 26) := by decide +kernel
theorem dX12_shift_56 : decode cX12_shift 56 = .ok (.aload_n 0, 1) := by decide +kernel
theorem dX12_shift_57 : decode cX12_shift 57 = .ok (.iload 4, 2) := by decide +kernel
theorem dX12_shift_59 : decode cX12_shift 59 = .ok (.invokevirtual 489, 3) := by decide +kernel
theorem dX12_shift_62 : decode cX12_shift 62 = .ok (.ireturn, 1) := by decide +kernel
theorem dX12_shift_63 : decode cX12_shift 63 = .ok (.aload_n 0, 1) := by decide +kernel
theorem dX12_shift_64 : decode cX12_shift 64 = .ok (.iload 4, 2) := by decide +kernel
theorem dX12_shift_66 : decode cX12_shift 66 = .ok (.invokevirtual 492, 3) := by decide +kernel
theorem dX12_shift_69 : decode cX12_shift 69 = .ok (.ireturn, 1) := by decide +kernel
theorem dX12_shift_70 : decode cX12_shift 70 = .ok (.aload_n 0, 1) := by decide +kernel
theorem dX12_shift_71 : decode cX12_shift 71 = .ok (.iload 4, 2) := by decide +kernel
theorem dX12_shift_73 : decode cX12_shift 73 = .ok (.invokevirtual 495, 3) := by decide +kernel
theorem dX12_shift_76 : decode cX12_shift 76 = .ok (.ireturn, 1) := by decide +kernel
theorem dX12_shift_77 : decode cX12_shift 77 = .ok (.bipush 16, 2) := by decide +kernel
theorem dX12_shift_79 : decode cX12_shift 79 = .ok (.aload_n 0, 1) := by decide +kernel
theorem dX12_shift_80 : decode cX12_shift 80 = .ok (.iload 4, 2) := by decide +kernel
theorem dX12_shift_82 : decode cX12_shift 82 = .ok (.invokevirtual 289, 3) := by decide +kernel
theorem dX12_shift_85 : decode cX12_shift 85 = .ok (.imul, 1) := by decide +kernel
theorem dX12_shift_86 : decode cX12_shift 86 = .ok (.aload_n 0, 1) := by decide +kernel
theorem dX12_shift_87 : decode cX12_shift 87 = .ok (.iload 4, 2) := by decide +kernel
theorem dX12_shift_89 : decode cX12_shift 89 = .ok (.invokevirtual 495, 3) := by decide +kernel
theorem dX12_shift_92 : decode cX12_shift 92 = .ok (.isub, 1) := by decide +kernel
theorem dX12_shift_93 : decode cX12_shift 93 = .ok (.ireturn, 1) := by decide +kernel
theorem dX12_busiest_0 : decode cX12_busiest 0 = .ok (.iload_n 1, 1) := by decide +kernel
theorem dX12_busiest_1 : decode cX12_busiest 1 = .ok (.i2l, 1) := by decide +kernel
theorem dX12_busiest_2 : decode cX12_busiest 2 = .ok (.lconst 0, 1) := by decide +kernel
theorem dX12_busiest_3 : decode cX12_busiest 3 = .ok (.lconst 1, 1) := by decide +kernel
theorem dX12_busiest_4 : decode cX12_busiest 4 = .ok (.invokestatic 99, 3) := by decide +kernel
theorem dX12_busiest_7 : decode cX12_busiest 7 = .ok (.ifCond .ne 5, 3) := by decide +kernel
theorem dX12_busiest_10 : decode cX12_busiest 10 = .ok (.iconst (-1), 1) := by decide +kernel
theorem dX12_busiest_11 : decode cX12_busiest 11 = .ok (.ireturn, 1) := by decide +kernel
theorem dX12_busiest_12 : decode cX12_busiest 12 = .ok (.iconst 0, 1) := by decide +kernel
theorem dX12_busiest_13 : decode cX12_busiest 13 = .ok (.istore_n 2, 1) := by decide +kernel
theorem dX12_busiest_14 : decode cX12_busiest 14 = .ok (.iconst 1, 1) := by decide +kernel
theorem dX12_busiest_15 : decode cX12_busiest 15 = .ok (.istore_n 3, 1) := by decide +kernel
theorem dX12_busiest_16 : decode cX12_busiest 16 = .ok (.iload_n 3, 1) := by decide +kernel
theorem dX12_busiest_17 : decode cX12_busiest 17 = .ok (.bipush 21, 2) := by decide +kernel
theorem dX12_busiest_19 : decode cX12_busiest 19 = .ok (.if_icmp .ge 28, 3) := by decide +kernel
theorem dX12_busiest_22 : decode cX12_busiest 22 = .ok (.aload_n 0, 1) := by decide +kernel
theorem dX12_busiest_23 : decode cX12_busiest 23 = .ok (.iload_n 3, 1) := by decide +kernel
theorem dX12_busiest_24 : decode cX12_busiest 24 = .ok (.invokevirtual 489, 3) := by decide +kernel
theorem dX12_busiest_27 : decode cX12_busiest 27 = .ok (.aload_n 0, 1) := by decide +kernel
theorem dX12_busiest_28 : decode cX12_busiest 28 = .ok (.iload_n 2, 1) := by decide +kernel
theorem dX12_busiest_29 : decode cX12_busiest 29 = .ok (.invokevirtual 489, 3) := by decide +kernel
theorem dX12_busiest_32 : decode cX12_busiest 32 = .ok (.if_icmp .le 7, 3) := by decide +kernel
theorem dX12_busiest_35 : decode cX12_busiest 35 = .ok (.iload_n 3, 1) := by decide +kernel
theorem dX12_busiest_36 : decode cX12_busiest 36 = .ok (.goto 4, 3) := by decide +kernel
theorem dX12_busiest_39 : decode cX12_busiest 39 = .ok (.iload_n 2, 1) := by decide +kernel
theorem dX12_busiest_40 : decode cX12_busiest 40 = .ok (.istore_n 2, 1) := by decide +kernel
theorem dX12_busiest_41 : decode cX12_busiest 41 = .ok (.iinc 3 1, 3) := by decide +kernel
theorem dX12_busiest_44 : decode cX12_busiest 44 = .ok (.goto (-28), 3) := by decide +kernel
theorem dX12_busiest_47 : decode cX12_busiest 47 = .ok (.iload_n 1, 1) := by decide +kernel
theorem dX12_busiest_48 : decode cX12_busiest 48 = .ok (.ifCond .ne 7, 3) := by decide +kernel
theorem dX12_busiest_51 : decode cX12_busiest 51 = .ok (.iload_n 2, 1) := by decide +kernel
theorem dX12_busiest_52 : decode cX12_busiest 52 = .ok (.goto 8, 3) := by decide +kernel
theorem dX12_busiest_55 : decode cX12_busiest 55 = .ok (.aload_n 0, 1) := by decide +kernel
theorem dX12_busiest_56 : decode cX12_busiest 56 = .ok (.iload_n 2, 1) := by decide +kernel
theorem dX12_busiest_57 : decode cX12_busiest 57 = .ok (.invokevirtual 489, 3) := by decide +kernel
theorem dX12_busiest_60 : decode cX12_busiest 60 = .ok (.ireturn, 1) := by decide +kernel
theorem dX12_used_0 : decode cX12_used 0 = .ok (.iload_n 1, 1) := by decide +kernel
theorem dX12_used_1 : decode cX12_used 1 = .ok (.i2l, 1) := by decide +kernel
theorem dX12_used_2 : decode cX12_used 2 = .ok (.lconst 0, 1) := by decide +kernel
theorem dX12_used_3 : decode cX12_used 3 = .ok (.ldc2_w 259, 3) := by decide +kernel
theorem dX12_used_6 : decode cX12_used 6 = .ok (.invokestatic 99, 3) := by decide +kernel
theorem dX12_used_9 : decode cX12_used 9 = .ok (.ifCond .ne 5, 3) := by decide +kernel
theorem dX12_used_12 : decode cX12_used 12 = .ok (.iconst (-1), 1) := by decide +kernel
theorem dX12_used_13 : decode cX12_used 13 = .ok (.ireturn, 1) := by decide +kernel
theorem dX12_used_14 : decode cX12_used 14 = .ok (.iconst 0, 1) := by decide +kernel
theorem dX12_used_15 : decode cX12_used 15 = .ok (.istore_n 2, 1) := by decide +kernel
theorem dX12_used_16 : decode cX12_used 16 = .ok (.bipush 48, 2) := by decide +kernel
theorem dX12_used_18 : decode cX12_used 18 = .ok (.iload_n 1, 1) := by decide +kernel
theorem dX12_used_19 : decode cX12_used 19 = .ok (.imul, 1) := by decide +kernel
theorem dX12_used_20 : decode cX12_used 20 = .ok (.istore_n 3, 1) := by decide +kernel
theorem dX12_used_21 : decode cX12_used 21 = .ok (.iload_n 3, 1) := by decide +kernel
theorem dX12_used_22 : decode cX12_used 22 = .ok (.bipush 48, 2) := by decide +kernel
theorem dX12_used_24 : decode cX12_used 24 = .ok (.iload_n 1, 1) := by decide +kernel
theorem dX12_used_25 : decode cX12_used 25 = .ok (.imul, 1) := by decide +kernel
theorem dX12_used_26 : decode cX12_used 26 = .ok (.bipush 48, 2) := by decide +kernel
theorem dX12_used_28 : decode cX12_used 28 = .ok (.iadd, 1) := by decide +kernel
theorem dX12_used_29 : decode cX12_used 29 = .ok (.if_icmp .ge 54, 3) := by decide +kernel
theorem dX12_used_32 : decode cX12_used 32 = .ok (.iconst 0, 1) := by decide +kernel
theorem dX12_used_33 : decode cX12_used 33 = .ok (.istore 4, 2) := by decide +kernel
theorem dX12_used_35 : decode cX12_used 35 = .ok (.iload 4, 2) := by decide +kernel
theorem dX12_used_37 : decode cX12_used 37 = .ok (.aload_n 0, 1) := by decide +kernel
theorem dX12_used_38 : decode cX12_used 38 = .ok (.getfield 13, 3) := by decide +kernel
theorem dX12_used_41 : decode cX12_used 41 = .ok (.bipush 9, 2) := by decide +kernel
theorem dX12_used_43 : decode cX12_used 43 = .ok (.iaload, 1) := by decide +kernel
theorem dX12_used_44 : decode cX12_used 44 = .ok (.if_icmp .ge 33, 3) := by decide +kernel
theorem dX12_used_47 : decode cX12_used 47 = .ok (.aload_n 0, 1) := by decide +kernel
theorem dX12_used_48 : decode cX12_used 48 = .ok (.iload 4, 2) := by decide +kernel
theorem dX12_used_50 : decode cX12_used 50 = .ok (.iload_n 3, 1) := by decide +kernel
theorem dX12_used_51 : decode cX12_used 51 = .ok (.invokevirtual 471, 3) := by decide +kernel
theorem dX12_used_54 : decode cX12_used 54 = .ok (.ifCond .eq 15, 3) := by decide +kernel
theorem dX12_used_57 : decode cX12_used 57 = .ok (.iload_n 2, 1) := by decide +kernel
theorem dX12_used_58 : decode cX12_used 58 = .ok (.aload_n 0, 1) := by decide +kernel
theorem dX12_used_59 : decode cX12_used 59 = .ok (.iload 4, 2) := by decide +kernel
theorem dX12_used_61 : decode cX12_used 61 = .ok (.iconst 0, 1) := by decide +kernel
theorem dX12_used_62 : decode cX12_used 62 = .ok (.invokevirtual 316, 3) := by decide +kernel
theorem dX12_used_65 : decode cX12_used 65 = .ok (.iadd, 1) := by decide +kernel
theorem dX12_used_66 : decode cX12_used 66 = .ok (.goto 4, 3) := by decide +kernel
theorem dX12_used_69 : decode cX12_used 69 = .ok (.iload_n 2, 1) := by decide +kernel
theorem dX12_used_70 : decode cX12_used 70 = .ok (.istore_n 2, 1) := by decide +kernel
theorem dX12_used_71 : decode cX12_used 71 = .ok (.iinc 4 1, 3) := by decide +kernel
theorem dX12_used_74 : decode cX12_used 74 = .ok (.goto (-39), 3) := by decide +kernel
theorem dX12_used_77 : decode cX12_used 77 = .ok (.iinc 3 1, 3) := by decide +kernel
theorem dX12_used_80 : decode cX12_used 80 = .ok (.goto (-59), 3) := by decide +kernel
theorem dX12_used_83 : decode cX12_used 83 = .ok (.bipush 100, 2) := by decide +kernel
theorem dX12_used_85 : decode cX12_used 85 = .ok (.iload_n 2, 1) := by decide +kernel
theorem dX12_used_86 : decode cX12_used 86 = .ok (.imul, 1) := by decide +kernel
theorem dX12_used_87 : decode cX12_used 87 = .ok (.bipush 48, 2) := by decide +kernel
theorem dX12_used_89 : decode cX12_used 89 = .ok (.aload_n 0, 1) := by decide +kernel
theorem dX12_used_90 : decode cX12_used 90 = .ok (.getfield 13, 3) := by decide +kernel
theorem dX12_used_93 : decode cX12_used 93 = .ok (.iconst 0, 1) := by decide +kernel
theorem dX12_used_94 : decode cX12_used 94 = .ok (.iaload, 1) := by decide +kernel
theorem dX12_used_95 : decode cX12_used 95 = .ok (.imul, 1) := by decide +kernel
theorem dX12_used_96 : decode cX12_used 96 = .ok (.idiv, 1) := by decide +kernel
theorem dX12_used_97 : decode cX12_used 97 = .ok (.ireturn, 1) := by decide +kernel
theorem dX12_rankNumber_0 : decode cX12_rankNumber 0 = .ok (.iload_n 2, 1) := by decide +kernel
theorem dX12_rankNumber_1 : decode cX12_rankNumber 1 = .ok (.ifCond .ne 5, 3) := by decide +kernel
theorem dX12_rankNumber_4 : decode cX12_rankNumber 4 = .ok (.iconst 1, 1) := by decide +kernel
theorem dX12_rankNumber_5 : decode cX12_rankNumber 5 = .ok (.ireturn, 1) := by decide +kernel
theorem dX12_rankNumber_6 : decode cX12_rankNumber 6 = .ok (.aload_n 0, 1) := by decide +kernel
theorem dX12_rankNumber_7 : decode cX12_rankNumber 7 = .ok (.iload_n 1, 1) := by decide +kernel
theorem dX12_rankNumber_8 : decode cX12_rankNumber 8 = .ok (.invokevirtual 326, 3) := by decide +kernel
theorem dX12_rankNumber_11 : decode cX12_rankNumber 11 = .ok (.ifCond .ne 5, 3) := by decide +kernel
theorem dX12_rankNumber_14 : decode cX12_rankNumber 14 = .ok (.iconst 0, 1) := by decide +kernel
theorem dX12_rankNumber_15 : decode cX12_rankNumber 15 = .ok (.ireturn, 1) := by decide +kernel
theorem dX12_rankNumber_16 : decode cX12_rankNumber 16 = .ok (.iload_n 2, 1) := by decide +kernel
theorem dX12_rankNumber_17 : decode cX12_rankNumber 17 = .ok (.iconst 1, 1) := by decide +kernel
theorem dX12_rankNumber_18 : decode cX12_rankNumber 18 = .ok (.if_icmp .ne 7, 3) := by decide +kernel
theorem dX12_rankNumber_21 : decode cX12_rankNumber 21 = .ok (.iconst 1, 1) := by decide +kernel
theorem dX12_rankNumber_22 : decode cX12_rankNumber 22 = .ok (.goto 21, 3) := by decide +kernel
theorem dX12_rankNumber_25 : decode cX12_rankNumber 25 = .ok (.iload_n 2, 1) := by decide +kernel
theorem dX12_rankNumber_26 : decode cX12_rankNumber 26 = .ok (.iconst 4, 1) := by decide +kernel
theorem dX12_rankNumber_27 : decode cX12_rankNumber 27 = .ok (.if_icmp .ne 11, 3) := by decide +kernel
theorem dX12_rankNumber_30 : decode cX12_rankNumber 30 = .ok (.aload_n 0, 1) := by decide +kernel
theorem dX12_rankNumber_31 : decode cX12_rankNumber 31 = .ok (.iload_n 1, 1) := by decide +kernel
theorem dX12_rankNumber_32 : decode cX12_rankNumber 32 = .ok (.invokevirtual 332, 3) := by decide +kernel
theorem dX12_rankNumber_35 : decode cX12_rankNumber 35 = .ok (.goto 8, 3) := by decide +kernel
theorem dX12_rankNumber_38 : decode cX12_rankNumber 38 = .ok (.aload_n 0, 1) := by decide +kernel
theorem dX12_rankNumber_39 : decode cX12_rankNumber 39 = .ok (.iload_n 1, 1) := by decide +kernel
theorem dX12_rankNumber_40 : decode cX12_rankNumber 40 = .ok (.invokevirtual 329, 3) := by decide +kernel
theorem dX12_rankNumber_43 : decode cX12_rankNumber 43 = .ok (.ireturn, 1) := by decide +kernel
theorem dX12_rank_0 : decode cX12_rank 0 = .ok (.iload_n 1, 1) := by decide +kernel
theorem dX12_rank_1 : decode cX12_rank 1 = .ok (.i2l, 1) := by decide +kernel
theorem dX12_rank_2 : decode cX12_rank 2 = .ok (.lconst 0, 1) := by decide +kernel
theorem dX12_rank_3 : decode cX12_rank 3 = .ok (.ldc2_w 314, 3) := by decide +kernel
theorem dX12_rank_6 : decode cX12_rank 6 = .ok (.invokestatic 99, 3) := by decide +kernel
theorem dX12_rank_9 : decode cX12_rank 9 = .ok (.ifCond .eq 15, 3) := by decide +kernel
theorem dX12_rank_12 : decode cX12_rank 12 = .ok (.iload_n 2, 1) := by decide +kernel
theorem dX12_rank_13 : decode cX12_rank 13 = .ok (.i2l, 1) := by decide +kernel
theorem dX12_rank_14 : decode cX12_rank 14 = .ok (.lconst 0, 1) := by decide +kernel
theorem dX12_rank_15 : decode cX12_rank 15 = .ok (.ldc2_w 498, 3) := by decide +kernel
theorem dX12_rank_18 : decode cX12_rank 18 = .ok (.invokestatic 99, 3) := by decide +kernel
theorem dX12_rank_21 : decode cX12_rank 21 = .ok (.ifCond .ne 5, 3) := by decide +kernel
theorem dX12_rank_24 : decode cX12_rank 24 = .ok (.iconst (-1), 1) := by decide +kernel
theorem dX12_rank_25 : decode cX12_rank 25 = .ok (.ireturn, 1) := by decide +kernel
theorem dX12_rank_26 : decode cX12_rank 26 = .ok (.iconst 0, 1) := by decide +kernel
theorem dX12_rank_27 : decode cX12_rank 27 = .ok (.istore_n 3, 1) := by decide +kernel
theorem dX12_rank_28 : decode cX12_rank 28 = .ok (.iconst 0, 1) := by decide +kernel
theorem dX12_rank_29 : decode cX12_rank 29 = .ok (.istore 4, 2) := by decide +kernel
theorem dX12_rank_31 : decode cX12_rank 31 = .ok (.iconst 0, 1) := by decide +kernel
theorem dX12_rank_32 : decode cX12_rank 32 = .ok (.istore 5, 2) := by decide +kernel
theorem dX12_rank_34 : decode cX12_rank 34 = .ok (.iload 5, 2) := by decide +kernel
theorem dX12_rank_36 : decode cX12_rank 36 = .ok (.aload_n 0, 1) := by decide +kernel
theorem dX12_rank_37 : decode cX12_rank 37 = .ok (.getfield 13, 3) := by decide +kernel
theorem dX12_rank_40 : decode cX12_rank 40 = .ok (.bipush 9, 2) := by decide +kernel
theorem dX12_rank_42 : decode cX12_rank 42 = .ok (.iaload, 1) := by decide +kernel
theorem dX12_rank_43 : decode cX12_rank 43 = .ok (.if_icmp .ge 54, 3) := by decide +kernel
theorem dX12_rank_46 : decode cX12_rank 46 = .ok (.aload_n 0, 1) := by decide +kernel
theorem dX12_rank_47 : decode cX12_rank 47 = .ok (.iload 5, 2) := by decide +kernel
theorem dX12_rank_49 : decode cX12_rank 49 = .ok (.bipush 6, 2) := by decide +kernel
theorem dX12_rank_51 : decode cX12_rank 51 = .ok (.invokevirtual 316, 3) := by decide +kernel
theorem dX12_rank_54 : decode cX12_rank 54 = .ok (.iload_n 1, 1) := by decide +kernel
theorem dX12_rank_55 : decode cX12_rank 55 = .ok (.if_icmp .eq 6, 3) := by decide +kernel
theorem dX12_rank_58 : decode cX12_rank 58 = .ok (.goto 33, 3) := by decide +kernel
theorem dX12_rank_61 : decode cX12_rank 61 = .ok (.aload_n 0, 1) := by decide +kernel
theorem dX12_rank_62 : decode cX12_rank 62 = .ok (.iload 5, 2) := by decide +kernel
theorem dX12_rank_64 : decode cX12_rank 64 = .ok (.iload_n 2, 1) := by decide +kernel
theorem dX12_rank_65 : decode cX12_rank 65 = .ok (.invokevirtual 500, 3) := by decide +kernel
theorem dX12_rank_68 : decode cX12_rank 68 = .ok (.istore 6, 2) := by decide +kernel
theorem dX12_rank_70 : decode cX12_rank 70 = .ok (.iload_n 3, 1) := by decide +kernel
theorem dX12_rank_71 : decode cX12_rank 71 = .ok (.iload 6, 2) := by decide +kernel
theorem dX12_rank_73 : decode cX12_rank 73 = .ok (.iadd, 1) := by decide +kernel
theorem dX12_rank_74 : decode cX12_rank 74 = .ok (.istore_n 3, 1) := by decide +kernel
theorem dX12_rank_75 : decode cX12_rank 75 = .ok (.iload 6, 2) := by decide +kernel
theorem dX12_rank_77 : decode cX12_rank 77 = .ok (.iload 4, 2) := by decide +kernel
theorem dX12_rank_79 : decode cX12_rank 79 = .ok (.if_icmp .le 8, 3) := by decide +kernel
theorem dX12_rank_82 : decode cX12_rank 82 = .ok (.iload 6, 2) := by decide +kernel
theorem dX12_rank_84 : decode cX12_rank 84 = .ok (.goto 5, 3) := by decide +kernel
theorem dX12_rank_87 : decode cX12_rank 87 = .ok (.iload 4, 2) := by decide +kernel
theorem dX12_rank_89 : decode cX12_rank 89 = .ok (.istore 4, 2) := by decide +kernel
theorem dX12_rank_91 : decode cX12_rank 91 = .ok (.iinc 5 1, 3) := by decide +kernel
theorem dX12_rank_94 : decode cX12_rank 94 = .ok (.goto (-60), 3) := by decide +kernel
theorem dX12_rank_97 : decode cX12_rank 97 = .ok (.iload_n 2, 1) := by decide +kernel
theorem dX12_rank_98 : decode cX12_rank 98 = .ok (.iconst 3, 1) := by decide +kernel
theorem dX12_rank_99 : decode cX12_rank 99 = .ok (.if_icmp .ne 8, 3) := by decide +kernel
theorem dX12_rank_102 : decode cX12_rank 102 = .ok (.iload 4, 2) := by decide +kernel
theorem dX12_rank_104 : decode cX12_rank 104 = .ok (.goto 4, 3) := by decide +kernel
theorem dX12_rank_107 : decode cX12_rank 107 = .ok (.iload_n 3, 1) := by decide +kernel
theorem dX12_rank_108 : decode cX12_rank 108 = .ok (.ireturn, 1) := by decide +kernel
theorem dX12_nextLeaver_0 : decode cX12_nextLeaver 0 = .ok (.iconst (-1), 1) := by decide +kernel
theorem dX12_nextLeaver_1 : decode cX12_nextLeaver 1 = .ok (.istore_n 3, 1) := by decide +kernel
theorem dX12_nextLeaver_2 : decode cX12_nextLeaver 2 = .ok (.iconst 0, 1) := by decide +kernel
theorem dX12_nextLeaver_3 : decode cX12_nextLeaver 3 = .ok (.istore 4, 2) := by decide +kernel
theorem dX12_nextLeaver_5 : decode cX12_nextLeaver 5 = .ok (.iload 4, 2) := by decide +kernel
theorem dX12_nextLeaver_7 : decode cX12_nextLeaver 7 = .ok (.aload_n 0, 1) := by decide +kernel
theorem dX12_nextLeaver_8 : decode cX12_nextLeaver 8 = .ok (.getfield 13, 3) := by decide +kernel
theorem dX12_nextLeaver_11 : decode cX12_nextLeaver 11 = .ok (.bipush 9, 2) := by decide +kernel
theorem dX12_nextLeaver_13 : decode cX12_nextLeaver 13 = .ok (.iaload, 1) := by decide +kernel
theorem dX12_nextLeaver_14 : decode cX12_nextLeaver 14 = .ok (.if_icmp .ge 89, 3) := by decide +kernel
theorem dX12_nextLeaver_17 : decode cX12_nextLeaver 17 = .ok (.aload_n 0, 1) := by decide +kernel
theorem dX12_nextLeaver_18 : decode cX12_nextLeaver 18 = .ok (.getfield 48, 3) := by decide +kernel
theorem dX12_nextLeaver_21 : decode cX12_nextLeaver 21 = .ok (.iload 4, 2) := by decide +kernel
theorem dX12_nextLeaver_23 : decode cX12_nextLeaver 23 = .ok (.iaload, 1) := by decide +kernel
theorem dX12_nextLeaver_24 : decode cX12_nextLeaver 24 = .ok (.iload_n 1, 1) := by decide +kernel
theorem dX12_nextLeaver_25 : decode cX12_nextLeaver 25 = .ok (.if_icmp .gt 20, 3) := by decide +kernel
theorem dX12_nextLeaver_28 : decode cX12_nextLeaver 28 = .ok (.aload_n 0, 1) := by decide +kernel
theorem dX12_nextLeaver_29 : decode cX12_nextLeaver 29 = .ok (.getfield 48, 3) := by decide +kernel
theorem dX12_nextLeaver_32 : decode cX12_nextLeaver 32 = .ok (.iload 4, 2) := by decide +kernel
theorem dX12_nextLeaver_34 : decode cX12_nextLeaver 34 = .ok (.iaload, 1) := by decide +kernel
theorem dX12_nextLeaver_35 : decode cX12_nextLeaver 35 = .ok (.iload_n 1, 1) := by decide +kernel
theorem dX12_nextLeaver_36 : decode cX12_nextLeaver 36 = .ok (.if_icmp .ne 13, 3) := by decide +kernel
theorem dX12_nextLeaver_39 : decode cX12_nextLeaver 39 = .ok (.iload 4, 2) := by decide +kernel
theorem dX12_nextLeaver_41 : decode cX12_nextLeaver 41 = .ok (.iload_n 2, 1) := by decide +kernel
theorem dX12_nextLeaver_42 : decode cX12_nextLeaver 42 = .ok (.if_icmp .le 7, 3) := by decide +kernel
theorem dX12_nextLeaver_45 : decode cX12_nextLeaver 45 = .ok (.iconst 1, 1) := by decide +kernel
theorem dX12_nextLeaver_46 : decode cX12_nextLeaver 46 = .ok (.goto 4, 3) := by decide +kernel
theorem dX12_nextLeaver_49 : decode cX12_nextLeaver 49 = .ok (.iconst 0, 1) := by decide +kernel
theorem dX12_nextLeaver_50 : decode cX12_nextLeaver 50 = .ok (.istore 5, 2) := by decide +kernel
theorem dX12_nextLeaver_52 : decode cX12_nextLeaver 52 = .ok (.aload_n 0, 1) := by decide +kernel
theorem dX12_nextLeaver_53 : decode cX12_nextLeaver 53 = .ok (.iload 4, 2) := by decide +kernel
theorem dX12_nextLeaver_55 : decode cX12_nextLeaver 55 = .ok (.invokevirtual 326, 3) := by decide +kernel
theorem dX12_nextLeaver_58 : decode cX12_nextLeaver 58 = .ok (.ifCond .eq 39, 3) := by decide +kernel
theorem dX12_nextLeaver_61 : decode cX12_nextLeaver 61 = .ok (.iload 5, 2) := by decide +kernel
theorem dX12_nextLeaver_63 : decode cX12_nextLeaver 63 = .ok (.ifCond .ne 6, 3) := by decide +kernel
theorem dX12_nextLeaver_66 : decode cX12_nextLeaver 66 = .ok (.goto 31, 3) := by decide +kernel
theorem dX12_nextLeaver_69 : decode cX12_nextLeaver 69 = .ok (.iload_n 3, 1) := by decide +kernel
theorem dX12_nextLeaver_70 : decode cX12_nextLeaver 70 = .ok (.iconst (-1), 1) := by decide +kernel
theorem dX12_nextLeaver_71 : decode cX12_nextLeaver 71 = .ok (.if_icmp .eq 19, 3) := by decide +kernel
theorem dX12_nextLeaver_74 : decode cX12_nextLeaver 74 = .ok (.aload_n 0, 1) := by decide +kernel
theorem dX12_nextLeaver_75 : decode cX12_nextLeaver 75 = .ok (.getfield 48, 3) := by decide +kernel
theorem dX12_nextLeaver_78 : decode cX12_nextLeaver 78 = .ok (.iload 4, 2) := by decide +kernel
theorem dX12_nextLeaver_80 : decode cX12_nextLeaver 80 = .ok (.iaload, 1) := by decide +kernel
theorem dX12_nextLeaver_81 : decode cX12_nextLeaver 81 = .ok (.aload_n 0, 1) := by decide +kernel
theorem dX12_nextLeaver_82 : decode cX12_nextLeaver 82 = .ok (.getfield 48, 3) := by decide +kernel
theorem dX12_nextLeaver_85 : decode cX12_nextLeaver 85 = .ok (.iload_n 3, 1) := by decide +kernel
theorem dX12_nextLeaver_86 : decode cX12_nextLeaver 86 = .ok (.iaload, 1) := by decide +kernel
theorem dX12_nextLeaver_87 : decode cX12_nextLeaver 87 = .ok (.if_icmp .ge 8, 3) := by decide +kernel
theorem dX12_nextLeaver_90 : decode cX12_nextLeaver 90 = .ok (.iload 4, 2) := by decide +kernel
theorem dX12_nextLeaver_92 : decode cX12_nextLeaver 92 = .ok (.goto 4, 3) := by decide +kernel
theorem dX12_nextLeaver_95 : decode cX12_nextLeaver 95 = .ok (.iload_n 3, 1) := by decide +kernel
theorem dX12_nextLeaver_96 : decode cX12_nextLeaver 96 = .ok (.istore_n 3, 1) := by decide +kernel
theorem dX12_nextLeaver_97 : decode cX12_nextLeaver 97 = .ok (.iinc 4 1, 3) := by decide +kernel
theorem dX12_nextLeaver_100 : decode cX12_nextLeaver 100 = .ok (.goto (-95), 3) := by decide +kernel
theorem dX12_nextLeaver_103 : decode cX12_nextLeaver 103 = .ok (.iload_n 3, 1) := by decide +kernel
theorem dX12_nextLeaver_104 : decode cX12_nextLeaver 104 = .ok (.ireturn, 1) := by decide +kernel
theorem dX12_leaver_0 : decode cX12_leaver 0 = .ok (.iload_n 1, 1) := by decide +kernel
theorem dX12_leaver_1 : decode cX12_leaver 1 = .ok (.ifCond .ge 5, 3) := by decide +kernel
theorem dX12_leaver_4 : decode cX12_leaver 4 = .ok (.iconst (-1), 1) := by decide +kernel
theorem dX12_leaver_5 : decode cX12_leaver 5 = .ok (.ireturn, 1) := by decide +kernel
theorem dX12_leaver_6 : decode cX12_leaver 6 = .ok (.aload_n 0, 1) := by decide +kernel
theorem dX12_leaver_7 : decode cX12_leaver 7 = .ok (.iconst (-1), 1) := by decide +kernel
theorem dX12_leaver_8 : decode cX12_leaver 8 = .ok (.iconst (-1), 1) := by decide +kernel
theorem dX12_leaver_9 : decode cX12_leaver 9 = .ok (.invokevirtual 503, 3) := by decide +kernel
theorem dX12_leaver_12 : decode cX12_leaver 12 = .ok (.istore_n 2, 1) := by decide +kernel
theorem dX12_leaver_13 : decode cX12_leaver 13 = .ok (.iconst 0, 1) := by decide +kernel
theorem dX12_leaver_14 : decode cX12_leaver 14 = .ok (.istore_n 3, 1) := by decide +kernel
theorem dX12_leaver_15 : decode cX12_leaver 15 = .ok (.iload_n 3, 1) := by decide +kernel
theorem dX12_leaver_16 : decode cX12_leaver 16 = .ok (.iload_n 1, 1) := by decide +kernel
theorem dX12_leaver_17 : decode cX12_leaver 17 = .ok (.if_icmp .ge 26, 3) := by decide +kernel
theorem dX12_leaver_20 : decode cX12_leaver 20 = .ok (.iload_n 2, 1) := by decide +kernel
theorem dX12_leaver_21 : decode cX12_leaver 21 = .ok (.iconst (-1), 1) := by decide +kernel
theorem dX12_leaver_22 : decode cX12_leaver 22 = .ok (.if_icmp .eq 21, 3) := by decide +kernel
theorem dX12_leaver_25 : decode cX12_leaver 25 = .ok (.aload_n 0, 1) := by decide +kernel
theorem dX12_leaver_26 : decode cX12_leaver 26 = .ok (.aload_n 0, 1) := by decide +kernel
theorem dX12_leaver_27 : decode cX12_leaver 27 = .ok (.getfield 48, 3) := by decide +kernel
theorem dX12_leaver_30 : decode cX12_leaver 30 = .ok (.iload_n 2, 1) := by decide +kernel
theorem dX12_leaver_31 : decode cX12_leaver 31 = .ok (.iaload, 1) := by decide +kernel
theorem dX12_leaver_32 : decode cX12_leaver 32 = .ok (.iload_n 2, 1) := by decide +kernel
theorem dX12_leaver_33 : decode cX12_leaver 33 = .ok (.invokevirtual 503, 3) := by decide +kernel
theorem dX12_leaver_36 : decode cX12_leaver 36 = .ok (.istore_n 2, 1) := by decide +kernel
theorem dX12_leaver_37 : decode cX12_leaver 37 = .ok (.iinc 3 1, 3) := by decide +kernel
theorem dX12_leaver_40 : decode cX12_leaver 40 = .ok (.goto (-25), 3) := by decide +kernel
theorem dX12_leaver_43 : decode cX12_leaver 43 = .ok (.iload_n 2, 1) := by decide +kernel
theorem dX12_leaver_44 : decode cX12_leaver 44 = .ok (.iconst (-1), 1) := by decide +kernel
theorem dX12_leaver_45 : decode cX12_leaver 45 = .ok (.if_icmp .ne 8, 3) := by decide +kernel
theorem dX12_leaver_48 : decode cX12_leaver 48 = .ok (.bipush (-2), 2) := by decide +kernel
theorem dX12_leaver_50 : decode cX12_leaver 50 = .ok (.goto 4, 3) := by decide +kernel
theorem dX12_leaver_53 : decode cX12_leaver 53 = .ok (.iload_n 2, 1) := by decide +kernel
theorem dX12_leaver_54 : decode cX12_leaver 54 = .ok (.ireturn, 1) := by decide +kernel
theorem dX12_meet_0 : decode cX12_meet 0 = .ok (.aload_n 0, 1) := by decide +kernel
theorem dX12_meet_1 : decode cX12_meet 1 = .ok (.iload_n 1, 1) := by decide +kernel
theorem dX12_meet_2 : decode cX12_meet 2 = .ok (.invokevirtual 297, 3) := by decide +kernel
theorem dX12_meet_5 : decode cX12_meet 5 = .ok (.ifCond .eq 16, 3) := by decide +kernel
theorem dX12_meet_8 : decode cX12_meet 8 = .ok (.aload_n 0, 1) := by decide +kernel
theorem dX12_meet_9 : decode cX12_meet 9 = .ok (.iload_n 2, 1) := by decide +kernel
theorem dX12_meet_10 : decode cX12_meet 10 = .ok (.invokevirtual 297, 3) := by decide +kernel
theorem dX12_meet_13 : decode cX12_meet 13 = .ok (.ifCond .eq 8, 3) := by decide +kernel
theorem dX12_meet_16 : decode cX12_meet 16 = .ok (.iload_n 1, 1) := by decide +kernel
theorem dX12_meet_17 : decode cX12_meet 17 = .ok (.iload_n 2, 1) := by decide +kernel
theorem dX12_meet_18 : decode cX12_meet 18 = .ok (.if_icmp .ne 5, 3) := by decide +kernel
theorem dX12_meet_21 : decode cX12_meet 21 = .ok (.iconst (-1), 1) := by decide +kernel
theorem dX12_meet_22 : decode cX12_meet 22 = .ok (.ireturn, 1) := by decide +kernel
theorem dX12_meet_23 : decode cX12_meet 23 = .ok (.iconst 0, 1) := by decide +kernel
theorem dX12_meet_24 : decode cX12_meet 24 = .ok (.istore_n 3, 1) := by decide +kernel
theorem dX12_meet_25 : decode cX12_meet 25 = .ok (.iconst 0, 1) := by decide +kernel
theorem dX12_meet_26 : decode cX12_meet 26 = .ok (.istore 4, 2) := by decide +kernel
theorem dX12_meet_28 : decode cX12_meet 28 = .ok (.iload 4, 2) := by decide +kernel
theorem dX12_meet_30 : decode cX12_meet 30 = .ok (.sipush 336, 3) := by decide +kernel
theorem dX12_meet_33 : decode cX12_meet 33 = .ok (.if_icmp .ge 37, 3) := by decide +kernel
theorem dX12_meet_36 : decode cX12_meet 36 = .ok (.aload_n 0, 1) := by decide +kernel
theorem dX12_meet_37 : decode cX12_meet 37 = .ok (.iload_n 1, 1) := by decide +kernel
theorem dX12_meet_38 : decode cX12_meet 38 = .ok (.iload 4, 2) := by decide +kernel
theorem dX12_meet_40 : decode cX12_meet 40 = .ok (.invokevirtual 471, 3) := by decide +kernel
theorem dX12_meet_43 : decode cX12_meet 43 = .ok (.ifCond .eq 19, 3) := by decide +kernel
theorem dX12_meet_46 : decode cX12_meet 46 = .ok (.aload_n 0, 1) := by decide +kernel
theorem dX12_meet_47 : decode cX12_meet 47 = .ok (.iload_n 2, 1) := by decide +kernel
theorem dX12_meet_48 : decode cX12_meet 48 = .ok (.iload 4, 2) := by decide +kernel
theorem dX12_meet_50 : decode cX12_meet 50 = .ok (.invokevirtual 471, 3) := by decide +kernel
theorem dX12_meet_53 : decode cX12_meet 53 = .ok (.ifCond .eq 9, 3) := by decide +kernel
theorem dX12_meet_56 : decode cX12_meet 56 = .ok (.iload_n 3, 1) := by decide +kernel
theorem dX12_meet_57 : decode cX12_meet 57 = .ok (.iconst 1, 1) := by decide +kernel
theorem dX12_meet_58 : decode cX12_meet 58 = .ok (.iadd, 1) := by decide +kernel
theorem dX12_meet_59 : decode cX12_meet 59 = .ok (.goto 4, 3) := by decide +kernel
theorem dX12_meet_62 : decode cX12_meet 62 = .ok (.iload_n 3, 1) := by decide +kernel
theorem dX12_meet_63 : decode cX12_meet 63 = .ok (.istore_n 3, 1) := by decide +kernel
theorem dX12_meet_64 : decode cX12_meet 64 = .ok (.iinc 4 1, 3) := by decide +kernel
theorem dX12_meet_67 : decode cX12_meet 67 = .ok (.goto (-39), 3) := by decide +kernel
theorem dX12_meet_70 : decode cX12_meet 70 = .ok (.iload_n 3, 1) := by decide +kernel
theorem dX12_meet_71 : decode cX12_meet 71 = .ok (.ireturn, 1) := by decide +kernel
theorem dX12_writes_0 : decode cX12_writes 0 = .ok (.aload_n 0, 1) := by decide +kernel
theorem dX12_writes_1 : decode cX12_writes 1 = .ok (.getfield 79, 3) := by decide +kernel
theorem dX12_writes_4 : decode cX12_writes 4 = .ok (.aload_n 0, 1) := by decide +kernel
theorem dX12_writes_5 : decode cX12_writes 5 = .ok (.getfield 506, 3) := by decide +kernel
theorem dX12_writes_8 : decode cX12_writes 8 = .ok (.iload_n 1, 1) := by decide +kernel
theorem dX12_writes_9 : decode cX12_writes 9 = .ok (.iastore, 1) := by decide +kernel
theorem dX12_writes_10 : decode cX12_writes 10 = .ok (.aload_n 0, 1) := by decide +kernel
theorem dX12_writes_11 : decode cX12_writes 11 = .ok (.aload_n 0, 1) := by decide +kernel
theorem dX12_writes_12 : decode cX12_writes 12 = .ok (.getfield 506, 3) := by decide +kernel
theorem dX12_writes_15 : decode cX12_writes 15 = .ok (.iconst 1, 1) := by decide +kernel
theorem dX12_writes_16 : decode cX12_writes 16 = .ok (.iadd, 1) := by decide +kernel
theorem dX12_writes_17 : decode cX12_writes 17 = .ok (.putfield 506, 3) := by decide +kernel
theorem dX12_writes_20 : decode cX12_writes 20 = .ok (.return_, 1) := by decide +kernel
theorem dX12_writesNumber_0 : decode cX12_writesNumber 0 = .ok (.aload_n 0, 1) := by decide +kernel
theorem dX12_writesNumber_1 : decode cX12_writesNumber 1 = .ok (.bipush 32, 2) := by decide +kernel
theorem dX12_writesNumber_3 : decode cX12_writesNumber 3 = .ok (.invokevirtual 509, 3) := by decide +kernel
theorem dX12_writesNumber_6 : decode cX12_writesNumber 6 = .ok (.iconst 1, 1) := by decide +kernel
theorem dX12_writesNumber_7 : decode cX12_writesNumber 7 = .ok (.istore_n 2, 1) := by decide +kernel
theorem dX12_writesNumber_8 : decode cX12_writesNumber 8 = .ok (.iload_n 1, 1) := by decide +kernel
theorem dX12_writesNumber_9 : decode cX12_writesNumber 9 = .ok (.iload_n 2, 1) := by decide +kernel
theorem dX12_writesNumber_10 : decode cX12_writesNumber 10 = .ok (.idiv, 1) := by decide +kernel
theorem dX12_writesNumber_11 : decode cX12_writesNumber 11 = .ok (.bipush 9, 2) := by decide +kernel
theorem dX12_writesNumber_13 : decode cX12_writesNumber 13 = .ok (.if_icmp .le 11, 3) := by decide +kernel
theorem dX12_writesNumber_16 : decode cX12_writesNumber 16 = .ok (.bipush 10, 2) := by decide +kernel
theorem dX12_writesNumber_18 : decode cX12_writesNumber 18 = .ok (.iload_n 2, 1) := by decide +kernel
theorem dX12_writesNumber_19 : decode cX12_writesNumber 19 = .ok (.imul, 1) := by decide +kernel
theorem dX12_writesNumber_20 : decode cX12_writesNumber 20 = .ok (.istore_n 2, 1) := by decide +kernel
theorem dX12_writesNumber_21 : decode cX12_writesNumber 21 = .ok (.goto (-13), 3) := by decide +kernel
theorem dX12_writesNumber_24 : decode cX12_writesNumber 24 = .ok (.iload_n 2, 1) := by decide +kernel
theorem dX12_writesNumber_25 : decode cX12_writesNumber 25 = .ok (.ifCond .le 24, 3) := by decide +kernel
theorem dX12_writesNumber_28 : decode cX12_writesNumber 28 = .ok (.aload_n 0, 1) := by decide +kernel
theorem dX12_writesNumber_29 : decode cX12_writesNumber 29 = .ok (.bipush 48, 2) := by decide +kernel
theorem dX12_writesNumber_31 : decode cX12_writesNumber 31 = .ok (.iload_n 1, 1) := by decide +kernel
theorem dX12_writesNumber_32 : decode cX12_writesNumber 32 = .ok (.iload_n 2, 1) := by decide +kernel
theorem dX12_writesNumber_33 : decode cX12_writesNumber 33 = .ok (.idiv, 1) := by decide +kernel
theorem dX12_writesNumber_34 : decode cX12_writesNumber 34 = .ok (.bipush 10, 2) := by decide +kernel
theorem dX12_writesNumber_36 : decode cX12_writesNumber 36 = .ok (.irem, 1) := by decide +kernel
theorem dX12_writesNumber_37 : decode cX12_writesNumber 37 = .ok (.iadd, 1) := by decide +kernel
theorem dX12_writesNumber_38 : decode cX12_writesNumber 38 = .ok (.invokevirtual 509, 3) := by decide +kernel
theorem dX12_writesNumber_41 : decode cX12_writesNumber 41 = .ok (.iload_n 2, 1) := by decide +kernel
theorem dX12_writesNumber_42 : decode cX12_writesNumber 42 = .ok (.bipush 10, 2) := by decide +kernel
theorem dX12_writesNumber_44 : decode cX12_writesNumber 44 = .ok (.idiv, 1) := by decide +kernel
theorem dX12_writesNumber_45 : decode cX12_writesNumber 45 = .ok (.istore_n 2, 1) := by decide +kernel
theorem dX12_writesNumber_46 : decode cX12_writesNumber 46 = .ok (.goto (-22), 3) := by decide +kernel
theorem dX12_writesNumber_49 : decode cX12_writesNumber 49 = .ok (.return_, 1) := by decide +kernel
theorem dX12_writesName_0 : decode cX12_writesName 0 = .ok (.iconst 0, 1) := by decide +kernel
theorem dX12_writesName_1 : decode cX12_writesName 1 = .ok (.istore_n 2, 1) := by decide +kernel
theorem dX12_writesName_2 : decode cX12_writesName 2 = .ok (.iload_n 2, 1) := by decide +kernel
theorem dX12_writesName_3 : decode cX12_writesName 3 = .ok (.aload_n 0, 1) := by decide +kernel
theorem dX12_writesName_4 : decode cX12_writesName 4 = .ok (.iload_n 1, 1) := by decide +kernel
theorem dX12_writesName_5 : decode cX12_writesName 5 = .ok (.invokevirtual 302, 3) := by decide +kernel
theorem dX12_writesName_8 : decode cX12_writesName 8 = .ok (.if_icmp .ge 22, 3) := by decide +kernel
theorem dX12_writesName_11 : decode cX12_writesName 11 = .ok (.aload_n 0, 1) := by decide +kernel
theorem dX12_writesName_12 : decode cX12_writesName 12 = .ok (.bipush 96, 2) := by decide +kernel
theorem dX12_writesName_14 : decode cX12_writesName 14 = .ok (.aload_n 0, 1) := by decide +kernel
theorem dX12_writesName_15 : decode cX12_writesName 15 = .ok (.iload_n 1, 1) := by decide +kernel
theorem dX12_writesName_16 : decode cX12_writesName 16 = .ok (.iload_n 2, 1) := by decide +kernel
theorem dX12_writesName_17 : decode cX12_writesName 17 = .ok (.invokevirtual 512, 3) := by decide +kernel
theorem dX12_writesName_20 : decode cX12_writesName 20 = .ok (.iadd, 1) := by decide +kernel
theorem dX12_writesName_21 : decode cX12_writesName 21 = .ok (.invokevirtual 509, 3) := by decide +kernel
theorem dX12_writesName_24 : decode cX12_writesName 24 = .ok (.iinc 2 1, 3) := by decide +kernel
theorem dX12_writesName_27 : decode cX12_writesName 27 = .ok (.goto (-25), 3) := by decide +kernel
theorem dX12_writesName_30 : decode cX12_writesName 30 = .ok (.return_, 1) := by decide +kernel
theorem dX12_write_0 : decode cX12_write 0 = .ok (.aload_n 0, 1) := by decide +kernel
theorem dX12_write_1 : decode cX12_write 1 = .ok (.iconst 0, 1) := by decide +kernel
theorem dX12_write_2 : decode cX12_write 2 = .ok (.putfield 506, 3) := by decide +kernel
theorem dX12_write_5 : decode cX12_write 5 = .ok (.iconst 0, 1) := by decide +kernel
theorem dX12_write_6 : decode cX12_write 6 = .ok (.istore_n 1, 1) := by decide +kernel
theorem dX12_write_7 : decode cX12_write 7 = .ok (.iload_n 1, 1) := by decide +kernel
theorem dX12_write_8 : decode cX12_write 8 = .ok (.aload_n 0, 1) := by decide +kernel
theorem dX12_write_9 : decode cX12_write 9 = .ok (.getfield 13, 3) := by decide +kernel
theorem dX12_write_12 : decode cX12_write 12 = .ok (.bipush 9, 2) := by decide +kernel
theorem dX12_write_14 : decode cX12_write 14 = .ok (.iaload, 1) := by decide +kernel
theorem dX12_write_15 : decode cX12_write 15 = .ok (.if_icmp .ge 61, 3) := by decide +kernel
theorem dX12_write_18 : decode cX12_write 18 = .ok (.aload_n 0, 1) := by decide +kernel
theorem dX12_write_19 : decode cX12_write 19 = .ok (.iload_n 1, 1) := by decide +kernel
theorem dX12_write_20 : decode cX12_write 20 = .ok (.invokevirtual 326, 3) := by decide +kernel
theorem dX12_write_23 : decode cX12_write 23 = .ok (.ifCond .ne 6, 3) := by decide +kernel
theorem dX12_write_26 : decode cX12_write 26 = .ok (.goto 44, 3) := by decide +kernel
theorem dX12_write_29 : decode cX12_write 29 = .ok (.aload_n 0, 1) := by decide +kernel
theorem dX12_write_30 : decode cX12_write 30 = .ok (.iload_n 1, 1) := by decide +kernel
theorem dX12_write_31 : decode cX12_write 31 = .ok (.invokevirtual 515, 3) := by decide +kernel
theorem dX12_write_34 : decode cX12_write 34 = .ok (.aload_n 0, 1) := by decide +kernel
theorem dX12_write_35 : decode cX12_write 35 = .ok (.aload_n 0, 1) := by decide +kernel
theorem dX12_write_36 : decode cX12_write 36 = .ok (.getfield 36, 3) := by decide +kernel
theorem dX12_write_39 : decode cX12_write 39 = .ok (.iload_n 1, 1) := by decide +kernel
theorem dX12_write_40 : decode cX12_write 40 = .ok (.iaload, 1) := by decide +kernel
theorem dX12_write_41 : decode cX12_write 41 = .ok (.invokevirtual 518, 3) := by decide +kernel
theorem dX12_write_44 : decode cX12_write 44 = .ok (.aload_n 0, 1) := by decide +kernel
theorem dX12_write_45 : decode cX12_write 45 = .ok (.aload_n 0, 1) := by decide +kernel
theorem dX12_write_46 : decode cX12_write 46 = .ok (.getfield 39, 3) := by decide +kernel
theorem dX12_write_49 : decode cX12_write 49 = .ok (.iload_n 1, 1) := by decide +kernel
theorem dX12_write_50 : decode cX12_write 50 = .ok (.iaload, 1) := by decide +kernel
theorem dX12_write_51 : decode cX12_write 51 = .ok (.invokevirtual 518, 3) := by decide +kernel
theorem dX12_write_54 : decode cX12_write 54 = .ok (.aload_n 0, 1) := by decide +kernel
theorem dX12_write_55 : decode cX12_write 55 = .ok (.aload_n 0, 1) := by decide +kernel
theorem dX12_write_56 : decode cX12_write 56 = .ok (.getfield 42, 3) := by decide +kernel
theorem dX12_write_59 : decode cX12_write 59 = .ok (.iload_n 1, 1) := by decide +kernel
theorem dX12_write_60 : decode cX12_write 60 = .ok (.iaload, 1) := by decide +kernel
theorem dX12_write_61 : decode cX12_write 61 = .ok (.invokevirtual 518, 3) := by decide +kernel
theorem dX12_write_64 : decode cX12_write 64 = .ok (.aload_n 0, 1) := by decide +kernel
theorem dX12_write_65 : decode cX12_write 65 = .ok (.bipush 59, 2) := by decide +kernel
theorem dX12_write_67 : decode cX12_write 67 = .ok (.invokevirtual 509, 3) := by decide +kernel
theorem dX12_write_70 : decode cX12_write 70 = .ok (.iinc 1 1, 3) := by decide +kernel
theorem dX12_write_73 : decode cX12_write 73 = .ok (.goto (-66), 3) := by decide +kernel
theorem dX12_write_76 : decode cX12_write 76 = .ok (.aload_n 0, 1) := by decide +kernel
theorem dX12_write_77 : decode cX12_write 77 = .ok (.getfield 506, 3) := by decide +kernel
theorem dX12_write_80 : decode cX12_write 80 = .ok (.ireturn, 1) := by decide +kernel
theorem dX12_octet_0 : decode cX12_octet 0 = .ok (.iload_n 1, 1) := by decide +kernel
theorem dX12_octet_1 : decode cX12_octet 1 = .ok (.i2l, 1) := by decide +kernel
theorem dX12_octet_2 : decode cX12_octet 2 = .ok (.lconst 0, 1) := by decide +kernel
theorem dX12_octet_3 : decode cX12_octet 3 = .ok (.aload_n 0, 1) := by decide +kernel
theorem dX12_octet_4 : decode cX12_octet 4 = .ok (.getfield 506, 3) := by decide +kernel
theorem dX12_octet_7 : decode cX12_octet 7 = .ok (.iconst 1, 1) := by decide +kernel
theorem dX12_octet_8 : decode cX12_octet 8 = .ok (.isub, 1) := by decide +kernel
theorem dX12_octet_9 : decode cX12_octet 9 = .ok (.i2l, 1) := by decide +kernel
theorem dX12_octet_10 : decode cX12_octet 10 = .ok (.invokestatic 99, 3) := by decide +kernel
theorem dX12_octet_13 : decode cX12_octet 13 = .ok (.ifCond .eq 12, 3) := by decide +kernel
theorem dX12_octet_16 : decode cX12_octet 16 = .ok (.aload_n 0, 1) := by decide +kernel
theorem dX12_octet_17 : decode cX12_octet 17 = .ok (.getfield 79, 3) := by decide +kernel
theorem dX12_octet_20 : decode cX12_octet 20 = .ok (.iload_n 1, 1) := by decide +kernel
theorem dX12_octet_21 : decode cX12_octet 21 = .ok (.iaload, 1) := by decide +kernel
theorem dX12_octet_22 : decode cX12_octet 22 = .ok (.goto 4, 3) := by decide +kernel
theorem dX12_octet_25 : decode cX12_octet 25 = .ok (.iconst (-1), 1) := by decide +kernel
theorem dX12_octet_26 : decode cX12_octet 26 = .ok (.ireturn, 1) := by decide +kernel
theorem dX12_undo_0 : decode cX12_undo 0 = .ok (.aload_n 0, 1) := by decide +kernel
theorem dX12_undo_1 : decode cX12_undo 1 = .ok (.getfield 252, 3) := by decide +kernel
theorem dX12_undo_4 : decode cX12_undo 4 = .ok (.ifCond .ne 5, 3) := by decide +kernel
theorem dX12_undo_7 : decode cX12_undo 7 = .ok (.iconst (-1), 1) := by decide +kernel
theorem dX12_undo_8 : decode cX12_undo 8 = .ok (.ireturn, 1) := by decide +kernel
theorem dX12_undo_9 : decode cX12_undo 9 = .ok (.aload_n 0, 1) := by decide +kernel
theorem dX12_undo_10 : decode cX12_undo 10 = .ok (.aload_n 0, 1) := by decide +kernel
theorem dX12_undo_11 : decode cX12_undo 11 = .ok (.getfield 252, 3) := by decide +kernel
theorem dX12_undo_14 : decode cX12_undo 14 = .ok (.iconst 1, 1) := by decide +kernel
theorem dX12_undo_15 : decode cX12_undo 15 = .ok (.isub, 1) := by decide +kernel
theorem dX12_undo_16 : decode cX12_undo 16 = .ok (.putfield 252, 3) := by decide +kernel
theorem dX12_undo_19 : decode cX12_undo 19 = .ok (.aload_n 0, 1) := by decide +kernel
theorem dX12_undo_20 : decode cX12_undo 20 = .ok (.aload_n 0, 1) := by decide +kernel
theorem dX12_undo_21 : decode cX12_undo 21 = .ok (.getfield 252, 3) := by decide +kernel
theorem dX12_undo_24 : decode cX12_undo 24 = .ok (.invokevirtual 426, 3) := by decide +kernel
theorem dX12_undo_27 : decode cX12_undo 27 = .ok (.aload_n 0, 1) := by decide +kernel
theorem dX12_undo_28 : decode cX12_undo 28 = .ok (.getfield 252, 3) := by decide +kernel
theorem dX12_undo_31 : decode cX12_undo 31 = .ok (.ireturn, 1) := by decide +kernel
theorem dX12_made_0 : decode cX12_made 0 = .ok (.iconst 0, 1) := by decide +kernel
theorem dX12_made_1 : decode cX12_made 1 = .ok (.istore_n 1, 1) := by decide +kernel
theorem dX12_made_2 : decode cX12_made 2 = .ok (.iconst 0, 1) := by decide +kernel
theorem dX12_made_3 : decode cX12_made 3 = .ok (.istore_n 2, 1) := by decide +kernel
theorem dX12_made_4 : decode cX12_made 4 = .ok (.iload_n 2, 1) := by decide +kernel
theorem dX12_made_5 : decode cX12_made 5 = .ok (.iconst 4, 1) := by decide +kernel
theorem dX12_made_6 : decode cX12_made 6 = .ok (.if_icmp .ge 26, 3) := by decide +kernel
theorem dX12_made_9 : decode cX12_made 9 = .ok (.aload_n 0, 1) := by decide +kernel
theorem dX12_made_10 : decode cX12_made 10 = .ok (.getfield 60, 3) := by decide +kernel
theorem dX12_made_13 : decode cX12_made 13 = .ok (.iload_n 2, 1) := by decide +kernel
theorem dX12_made_14 : decode cX12_made 14 = .ok (.baload, 1) := by decide +kernel
theorem dX12_made_15 : decode cX12_made 15 = .ok (.ifCond .eq 9, 3) := by decide +kernel
theorem dX12_made_18 : decode cX12_made 18 = .ok (.iload_n 1, 1) := by decide +kernel
theorem dX12_made_19 : decode cX12_made 19 = .ok (.iconst 1, 1) := by decide +kernel
theorem dX12_made_20 : decode cX12_made 20 = .ok (.iadd, 1) := by decide +kernel
theorem dX12_made_21 : decode cX12_made 21 = .ok (.goto 4, 3) := by decide +kernel
theorem dX12_made_24 : decode cX12_made 24 = .ok (.iload_n 1, 1) := by decide +kernel
theorem dX12_made_25 : decode cX12_made 25 = .ok (.istore_n 1, 1) := by decide +kernel
theorem dX12_made_26 : decode cX12_made 26 = .ok (.iinc 2 1, 3) := by decide +kernel
theorem dX12_made_29 : decode cX12_made 29 = .ok (.goto (-25), 3) := by decide +kernel
theorem dX12_made_32 : decode cX12_made 32 = .ok (.iload_n 1, 1) := by decide +kernel
theorem dX12_made_33 : decode cX12_made 33 = .ok (.ireturn, 1) := by decide +kernel
theorem dX12_isMark_0 : decode cX12_isMark 0 = .ok (.iload_n 0, 1) := by decide +kernel
theorem dX12_isMark_1 : decode cX12_isMark 1 = .ok (.i2l, 1) := by decide +kernel
theorem dX12_isMark_2 : decode cX12_isMark 2 = .ok (.lconst 0, 1) := by decide +kernel
theorem dX12_isMark_3 : decode cX12_isMark 3 = .ok (.ldc2_w 314, 3) := by decide +kernel
theorem dX12_isMark_6 : decode cX12_isMark 6 = .ok (.invokestatic 99, 3) := by decide +kernel
theorem dX12_isMark_9 : decode cX12_isMark 9 = .ok (.ireturn, 1) := by decide +kernel
theorem dX12_differsIn_0 : decode cX12_differsIn 0 = .ok (.aload_n 0, 1) := by decide +kernel
theorem dX12_differsIn_1 : decode cX12_differsIn 1 = .ok (.getfield 57, 3) := by decide +kernel
theorem dX12_differsIn_4 : decode cX12_differsIn 4 = .ok (.iload_n 2, 1) := by decide +kernel
theorem dX12_differsIn_5 : decode cX12_differsIn 5 = .ok (.iconst 2, 1) := by decide +kernel
theorem dX12_differsIn_6 : decode cX12_differsIn 6 = .ok (.iadd, 1) := by decide +kernel
theorem dX12_differsIn_7 : decode cX12_differsIn 7 = .ok (.iaload, 1) := by decide +kernel
theorem dX12_differsIn_8 : decode cX12_differsIn 8 = .ok (.ifCond .le 7, 3) := by decide +kernel
theorem dX12_differsIn_11 : decode cX12_differsIn 11 = .ok (.iconst 1, 1) := by decide +kernel
theorem dX12_differsIn_12 : decode cX12_differsIn 12 = .ok (.goto 4, 3) := by decide +kernel
theorem dX12_differsIn_15 : decode cX12_differsIn 15 = .ok (.iconst 0, 1) := by decide +kernel
theorem dX12_differsIn_16 : decode cX12_differsIn 16 = .ok (.istore_n 3, 1) := by decide +kernel
theorem dX12_differsIn_17 : decode cX12_differsIn 17 = .ok (.iload_n 3, 1) := by decide +kernel
theorem dX12_differsIn_18 : decode cX12_differsIn 18 = .ok (.aload_n 0, 1) := by decide +kernel
theorem dX12_differsIn_19 : decode cX12_differsIn 19 = .ok (.iload_n 1, 1) := by decide +kernel
theorem dX12_differsIn_20 : decode cX12_differsIn 20 = .ok (.invokevirtual 326, 3) := by decide +kernel
theorem dX12_differsIn_23 : decode cX12_differsIn 23 = .ok (.if_icmp .eq 5, 3) := by decide +kernel
theorem dX12_differsIn_26 : decode cX12_differsIn 26 = .ok (.iconst 1, 1) := by decide +kernel
theorem dX12_differsIn_27 : decode cX12_differsIn 27 = .ok (.ireturn, 1) := by decide +kernel
theorem dX12_differsIn_28 : decode cX12_differsIn 28 = .ok (.iload_n 3, 1) := by decide +kernel
theorem dX12_differsIn_29 : decode cX12_differsIn 29 = .ok (.ifCond .eq 56, 3) := by decide +kernel
theorem dX12_differsIn_32 : decode cX12_differsIn 32 = .ok (.aload_n 0, 1) := by decide +kernel
theorem dX12_differsIn_33 : decode cX12_differsIn 33 = .ok (.getfield 57, 3) := by decide +kernel
theorem dX12_differsIn_36 : decode cX12_differsIn 36 = .ok (.iload_n 2, 1) := by decide +kernel
theorem dX12_differsIn_37 : decode cX12_differsIn 37 = .ok (.iaload, 1) := by decide +kernel
theorem dX12_differsIn_38 : decode cX12_differsIn 38 = .ok (.aload_n 0, 1) := by decide +kernel
theorem dX12_differsIn_39 : decode cX12_differsIn 39 = .ok (.getfield 36, 3) := by decide +kernel
theorem dX12_differsIn_42 : decode cX12_differsIn 42 = .ok (.iload_n 1, 1) := by decide +kernel
theorem dX12_differsIn_43 : decode cX12_differsIn 43 = .ok (.iaload, 1) := by decide +kernel
theorem dX12_differsIn_44 : decode cX12_differsIn 44 = .ok (.if_icmp .ne 37, 3) := by decide +kernel
theorem dX12_differsIn_47 : decode cX12_differsIn 47 = .ok (.aload_n 0, 1) := by decide +kernel
theorem dX12_differsIn_48 : decode cX12_differsIn 48 = .ok (.getfield 57, 3) := by decide +kernel
theorem dX12_differsIn_51 : decode cX12_differsIn 51 = .ok (.iload_n 2, 1) := by decide +kernel
theorem dX12_differsIn_52 : decode cX12_differsIn 52 = .ok (.iconst 1, 1) := by decide +kernel
theorem dX12_differsIn_53 : decode cX12_differsIn 53 = .ok (.iadd, 1) := by decide +kernel
theorem dX12_differsIn_54 : decode cX12_differsIn 54 = .ok (.iaload, 1) := by decide +kernel
theorem dX12_differsIn_55 : decode cX12_differsIn 55 = .ok (.aload_n 0, 1) := by decide +kernel
theorem dX12_differsIn_56 : decode cX12_differsIn 56 = .ok (.getfield 39, 3) := by decide +kernel
theorem dX12_differsIn_59 : decode cX12_differsIn 59 = .ok (.iload_n 1, 1) := by decide +kernel
theorem dX12_differsIn_60 : decode cX12_differsIn 60 = .ok (.iaload, 1) := by decide +kernel
theorem dX12_differsIn_61 : decode cX12_differsIn 61 = .ok (.if_icmp .ne 20, 3) := by decide +kernel
theorem dX12_differsIn_64 : decode cX12_differsIn 64 = .ok (.aload_n 0, 1) := by decide +kernel
theorem dX12_differsIn_65 : decode cX12_differsIn 65 = .ok (.getfield 57, 3) := by decide +kernel
theorem dX12_differsIn_68 : decode cX12_differsIn 68 = .ok (.iload_n 2, 1) := by decide +kernel
theorem dX12_differsIn_69 : decode cX12_differsIn 69 = .ok (.iconst 2, 1) := by decide +kernel
theorem dX12_differsIn_70 : decode cX12_differsIn 70 = .ok (.iadd, 1) := by decide +kernel
theorem dX12_differsIn_71 : decode cX12_differsIn 71 = .ok (.iaload, 1) := by decide +kernel
theorem dX12_differsIn_72 : decode cX12_differsIn 72 = .ok (.aload_n 0, 1) := by decide +kernel
theorem dX12_differsIn_73 : decode cX12_differsIn 73 = .ok (.getfield 42, 3) := by decide +kernel
theorem dX12_differsIn_76 : decode cX12_differsIn 76 = .ok (.iload_n 1, 1) := by decide +kernel
theorem dX12_differsIn_77 : decode cX12_differsIn 77 = .ok (.iaload, 1) := by decide +kernel
theorem dX12_differsIn_78 : decode cX12_differsIn 78 = .ok (.if_icmp .eq 7, 3) := by decide +kernel
theorem dX12_differsIn_81 : decode cX12_differsIn 81 = .ok (.iconst 1, 1) := by decide +kernel
theorem dX12_differsIn_82 : decode cX12_differsIn 82 = .ok (.goto 4, 3) := by decide +kernel
theorem dX12_differsIn_85 : decode cX12_differsIn 85 = .ok (.iconst 0, 1) := by decide +kernel
theorem dX12_differsIn_86 : decode cX12_differsIn 86 = .ok (.ireturn, 1) := by decide +kernel
theorem dX12_differs_0 : decode cX12_differs 0 = .ok (.iload_n 1, 1) := by decide +kernel
theorem dX12_differs_1 : decode cX12_differs 1 = .ok (.invokestatic 521, 3) := by decide +kernel
theorem dX12_differs_4 : decode cX12_differs 4 = .ok (.ifCond .eq 12, 3) := by decide +kernel
theorem dX12_differs_7 : decode cX12_differs 7 = .ok (.aload_n 0, 1) := by decide +kernel
theorem dX12_differs_8 : decode cX12_differs 8 = .ok (.getfield 60, 3) := by decide +kernel
theorem dX12_differs_11 : decode cX12_differs 11 = .ok (.iload_n 1, 1) := by decide +kernel
theorem dX12_differs_12 : decode cX12_differs 12 = .ok (.baload, 1) := by decide +kernel
theorem dX12_differs_13 : decode cX12_differs 13 = .ok (.ifCond .ne 5, 3) := by decide +kernel
theorem dX12_differs_16 : decode cX12_differs 16 = .ok (.iconst (-1), 1) := by decide +kernel
theorem dX12_differs_17 : decode cX12_differs 17 = .ok (.ireturn, 1) := by decide +kernel
theorem dX12_differs_18 : decode cX12_differs 18 = .ok (.iconst 0, 1) := by decide +kernel
theorem dX12_differs_19 : decode cX12_differs 19 = .ok (.istore_n 2, 1) := by decide +kernel
theorem dX12_differs_20 : decode cX12_differs 20 = .ok (.iconst 0, 1) := by decide +kernel
theorem dX12_differs_21 : decode cX12_differs 21 = .ok (.istore_n 3, 1) := by decide +kernel
theorem dX12_differs_22 : decode cX12_differs 22 = .ok (.iload_n 3, 1) := by decide +kernel
theorem dX12_differs_23 : decode cX12_differs 23 = .ok (.aload_n 0, 1) := by decide +kernel
theorem dX12_differs_24 : decode cX12_differs 24 = .ok (.getfield 13, 3) := by decide +kernel
theorem dX12_differs_27 : decode cX12_differs 27 = .ok (.bipush 9, 2) := by decide +kernel
theorem dX12_differs_29 : decode cX12_differs 29 = .ok (.iaload, 1) := by decide +kernel
theorem dX12_differs_30 : decode cX12_differs 30 = .ok (.if_icmp .ge 38, 3) := by decide +kernel
theorem dX12_differs_33 : decode cX12_differs 33 = .ok (.aload_n 0, 1) := by decide +kernel
theorem dX12_differs_34 : decode cX12_differs 34 = .ok (.iload_n 3, 1) := by decide +kernel
theorem dX12_differs_35 : decode cX12_differs 35 = .ok (.bipush 42, 2) := by decide +kernel
theorem dX12_differs_37 : decode cX12_differs 37 = .ok (.bipush 12, 2) := by decide +kernel
theorem dX12_differs_39 : decode cX12_differs 39 = .ok (.iload_n 1, 1) := by decide +kernel
theorem dX12_differs_40 : decode cX12_differs 40 = .ok (.iadd, 1) := by decide +kernel
theorem dX12_differs_41 : decode cX12_differs 41 = .ok (.imul, 1) := by decide +kernel
theorem dX12_differs_42 : decode cX12_differs 42 = .ok (.iconst 3, 1) := by decide +kernel
theorem dX12_differs_43 : decode cX12_differs 43 = .ok (.iload_n 3, 1) := by decide +kernel
theorem dX12_differs_44 : decode cX12_differs 44 = .ok (.imul, 1) := by decide +kernel
theorem dX12_differs_45 : decode cX12_differs 45 = .ok (.iadd, 1) := by decide +kernel
theorem dX12_differs_46 : decode cX12_differs 46 = .ok (.invokevirtual 524, 3) := by decide +kernel
theorem dX12_differs_49 : decode cX12_differs 49 = .ok (.ifCond .eq 11, 3) := by decide +kernel
theorem dX12_differs_52 : decode cX12_differs 52 = .ok (.iload_n 2, 1) := by decide +kernel
theorem dX12_differs_53 : decode cX12_differs 53 = .ok (.iconst 1, 1) := by decide +kernel
theorem dX12_differs_54 : decode cX12_differs 54 = .ok (.iload_n 3, 1) := by decide +kernel
theorem dX12_differs_55 : decode cX12_differs 55 = .ok (.ishl, 1) := by decide +kernel
theorem dX12_differs_56 : decode cX12_differs 56 = .ok (.ior, 1) := by decide +kernel
theorem dX12_differs_57 : decode cX12_differs 57 = .ok (.goto 4, 3) := by decide +kernel
theorem dX12_differs_60 : decode cX12_differs 60 = .ok (.iload_n 2, 1) := by decide +kernel
theorem dX12_differs_61 : decode cX12_differs 61 = .ok (.istore_n 2, 1) := by decide +kernel
theorem dX12_differs_62 : decode cX12_differs 62 = .ok (.iinc 3 1, 3) := by decide +kernel
theorem dX12_differs_65 : decode cX12_differs 65 = .ok (.goto (-43), 3) := by decide +kernel
theorem dX12_differs_68 : decode cX12_differs 68 = .ok (.iload_n 2, 1) := by decide +kernel
theorem dX12_differs_69 : decode cX12_differs 69 = .ok (.ireturn, 1) := by decide +kernel
theorem dX12_mark_0 : decode cX12_mark 0 = .ok (.iload_n 1, 1) := by decide +kernel
theorem dX12_mark_1 : decode cX12_mark 1 = .ok (.invokestatic 521, 3) := by decide +kernel
theorem dX12_mark_4 : decode cX12_mark 4 = .ok (.ifCond .ne 5, 3) := by decide +kernel
theorem dX12_mark_7 : decode cX12_mark 7 = .ok (.iconst (-1), 1) := by decide +kernel
theorem dX12_mark_8 : decode cX12_mark 8 = .ok (.ireturn, 1) := by decide +kernel
theorem dX12_mark_9 : decode cX12_mark 9 = .ok (.aload_n 0, 1) := by decide +kernel
theorem dX12_mark_10 : decode cX12_mark 10 = .ok (.bipush 12, 2) := by decide +kernel
theorem dX12_mark_12 : decode cX12_mark 12 = .ok (.iload_n 1, 1) := by decide +kernel
theorem dX12_mark_13 : decode cX12_mark 13 = .ok (.iadd, 1) := by decide +kernel
theorem dX12_mark_14 : decode cX12_mark 14 = .ok (.invokevirtual 414, 3) := by decide +kernel
theorem dX12_mark_17 : decode cX12_mark 17 = .ok (.aload_n 0, 1) := by decide +kernel
theorem dX12_mark_18 : decode cX12_mark 18 = .ok (.getfield 60, 3) := by decide +kernel
theorem dX12_mark_21 : decode cX12_mark 21 = .ok (.iload_n 1, 1) := by decide +kernel
theorem dX12_mark_22 : decode cX12_mark 22 = .ok (.iconst 1, 1) := by decide +kernel
theorem dX12_mark_23 : decode cX12_mark 23 = .ok (.bastore, 1) := by decide +kernel
theorem dX12_mark_24 : decode cX12_mark 24 = .ok (.aload_n 0, 1) := by decide +kernel
theorem dX12_mark_25 : decode cX12_mark 25 = .ok (.invokevirtual 263, 3) := by decide +kernel
theorem dX12_mark_28 : decode cX12_mark 28 = .ok (.ireturn, 1) := by decide +kernel
theorem dX12_back_0 : decode cX12_back 0 = .ok (.iload_n 1, 1) := by decide +kernel
theorem dX12_back_1 : decode cX12_back 1 = .ok (.invokestatic 521, 3) := by decide +kernel
theorem dX12_back_4 : decode cX12_back 4 = .ok (.ifCond .eq 12, 3) := by decide +kernel
theorem dX12_back_7 : decode cX12_back 7 = .ok (.aload_n 0, 1) := by decide +kernel
theorem dX12_back_8 : decode cX12_back 8 = .ok (.getfield 60, 3) := by decide +kernel
theorem dX12_back_11 : decode cX12_back 11 = .ok (.iload_n 1, 1) := by decide +kernel
theorem dX12_back_12 : decode cX12_back 12 = .ok (.baload, 1) := by decide +kernel
theorem dX12_back_13 : decode cX12_back 13 = .ok (.ifCond .ne 5, 3) := by decide +kernel
theorem dX12_back_16 : decode cX12_back 16 = .ok (.iconst (-1), 1) := by decide +kernel
theorem dX12_back_17 : decode cX12_back 17 = .ok (.ireturn, 1) := by decide +kernel
theorem dX12_back_18 : decode cX12_back 18 = .ok (.aload_n 0, 1) := by decide +kernel
theorem dX12_back_19 : decode cX12_back 19 = .ok (.bipush 12, 2) := by decide +kernel
theorem dX12_back_21 : decode cX12_back 21 = .ok (.iload_n 1, 1) := by decide +kernel
theorem dX12_back_22 : decode cX12_back 22 = .ok (.iadd, 1) := by decide +kernel
theorem dX12_back_23 : decode cX12_back 23 = .ok (.invokevirtual 426, 3) := by decide +kernel
theorem dX12_back_26 : decode cX12_back 26 = .ok (.aload_n 0, 1) := by decide +kernel
theorem dX12_back_27 : decode cX12_back 27 = .ok (.iconst 0, 1) := by decide +kernel
theorem dX12_back_28 : decode cX12_back 28 = .ok (.putfield 252, 3) := by decide +kernel
theorem dX12_back_31 : decode cX12_back 31 = .ok (.aload_n 0, 1) := by decide +kernel
theorem dX12_back_32 : decode cX12_back 32 = .ok (.invokevirtual 263, 3) := by decide +kernel
theorem dX12_back_35 : decode cX12_back 35 = .ok (.ireturn, 1) := by decide +kernel
