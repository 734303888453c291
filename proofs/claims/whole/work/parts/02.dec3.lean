theorem dX11_gcd_18 : decode cX11_gcd 18 = .ok (.lstore 8, 2) := by decide +kernel
theorem dX11_gcd_20 : decode cX11_gcd 20 = .ok (.lload 6, 2) := by decide +kernel
theorem dX11_gcd_22 : decode cX11_gcd 22 = .ok (.lstore 4, 2) := by decide +kernel
theorem dX11_gcd_24 : decode cX11_gcd 24 = .ok (.lload 8, 2) := by decide +kernel
theorem dX11_gcd_26 : decode cX11_gcd 26 = .ok (.lstore 6, 2) := by decide +kernel
theorem dX11_gcd_28 : decode cX11_gcd 28 = .ok (.goto (-22), 3) := by decide +kernel
theorem dX11_gcd_31 : decode cX11_gcd 31 = .ok (.lload 4, 2) := by decide +kernel
theorem dX11_gcd_33 : decode cX11_gcd 33 = .ok (.lreturn, 1) := by decide +kernel
theorem dX11_period_0 : decode cX11_period 0 = .ok (.iload_n 1, 1) := by decide +kernel
theorem dX11_period_1 : decode cX11_period 1 = .ok (.invokestatic 135, 3) := by decide +kernel
theorem dX11_period_4 : decode cX11_period 4 = .ok (.ifCond .ne 6, 3) := by decide +kernel
theorem dX11_period_7 : decode cX11_period 7 = .ok (.bipush (-2), 2) := by decide +kernel
theorem dX11_period_9 : decode cX11_period 9 = .ok (.ireturn, 1) := by decide +kernel
theorem dX11_period_10 : decode cX11_period 10 = .ok (.aload_n 0, 1) := by decide +kernel
theorem dX11_period_11 : decode cX11_period 11 = .ok (.iload_n 1, 1) := by decide +kernel
theorem dX11_period_12 : decode cX11_period 12 = .ok (.invokevirtual 180, 3) := by decide +kernel
theorem dX11_period_15 : decode cX11_period 15 = .ok (.istore_n 2, 1) := by decide +kernel
theorem dX11_period_16 : decode cX11_period 16 = .ok (.lconst 0, 1) := by decide +kernel
theorem dX11_period_17 : decode cX11_period 17 = .ok (.lstore_n 3, 1) := by decide +kernel
theorem dX11_period_18 : decode cX11_period 18 = .ok (.iconst 0, 1) := by decide +kernel
theorem dX11_period_19 : decode cX11_period 19 = .ok (.istore 5, 2) := by decide +kernel
theorem dX11_period_21 : decode cX11_period 21 = .ok (.iload 5, 2) := by decide +kernel
theorem dX11_period_23 : decode cX11_period 23 = .ok (.bipush 8, 2) := by decide +kernel
theorem dX11_period_25 : decode cX11_period 25 = .ok (.if_icmp .ge 66, 3) := by decide +kernel
theorem dX11_period_28 : decode cX11_period 28 = .ok (.iconst 1, 1) := by decide +kernel
theorem dX11_period_29 : decode cX11_period 29 = .ok (.iload 5, 2) := by decide +kernel
theorem dX11_period_31 : decode cX11_period 31 = .ok (.ishl, 1) := by decide +kernel
theorem dX11_period_32 : decode cX11_period 32 = .ok (.iload_n 2, 1) := by decide +kernel
theorem dX11_period_33 : decode cX11_period 33 = .ok (.iand, 1) := by decide +kernel
theorem dX11_period_34 : decode cX11_period 34 = .ok (.istore 6, 2) := by decide +kernel
theorem dX11_period_36 : decode cX11_period 36 = .ok (.iconst 1, 1) := by decide +kernel
theorem dX11_period_37 : decode cX11_period 37 = .ok (.istore 7, 2) := by decide +kernel
theorem dX11_period_39 : decode cX11_period 39 = .ok (.iload 7, 2) := by decide +kernel
theorem dX11_period_41 : decode cX11_period 41 = .ok (.bipush 8, 2) := by decide +kernel
theorem dX11_period_43 : decode cX11_period 43 = .ok (.if_icmp .gt 42, 3) := by decide +kernel
theorem dX11_period_46 : decode cX11_period 46 = .ok (.aload_n 0, 1) := by decide +kernel
theorem dX11_period_47 : decode cX11_period 47 = .ok (.iload_n 1, 1) := by decide +kernel
theorem dX11_period_48 : decode cX11_period 48 = .ok (.iload 6, 2) := by decide +kernel
theorem dX11_period_50 : decode cX11_period 50 = .ok (.iload_n 2, 1) := by decide +kernel
theorem dX11_period_51 : decode cX11_period 51 = .ok (.invokevirtual 183, 3) := by decide +kernel
theorem dX11_period_54 : decode cX11_period 54 = .ok (.istore 6, 2) := by decide +kernel
theorem dX11_period_56 : decode cX11_period 56 = .ok (.iload 6, 2) := by decide +kernel
theorem dX11_period_58 : decode cX11_period 58 = .ok (.iload 5, 2) := by decide +kernel
theorem dX11_period_60 : decode cX11_period 60 = .ok (.ishr, 1) := by decide +kernel
theorem dX11_period_61 : decode cX11_period 61 = .ok (.iconst 1, 1) := by decide +kernel
theorem dX11_period_62 : decode cX11_period 62 = .ok (.iand, 1) := by decide +kernel
theorem dX11_period_63 : decode cX11_period 63 = .ok (.iconst 1, 1) := by decide +kernel
theorem dX11_period_64 : decode cX11_period 64 = .ok (.if_icmp .ne 13, 3) := by decide +kernel
theorem dX11_period_67 : decode cX11_period 67 = .ok (.iload 7, 2) := by decide +kernel
theorem dX11_period_69 : decode cX11_period 69 = .ok (.i2l, 1) := by decide +kernel
theorem dX11_period_70 : decode cX11_period 70 = .ok (.lload_n 3, 1) := by decide +kernel
theorem dX11_period_71 : decode cX11_period 71 = .ok (.invokestatic 189, 3) := by decide +kernel
theorem dX11_period_74 : decode cX11_period 74 = .ok (.goto 4, 3) := by decide +kernel
theorem dX11_period_77 : decode cX11_period 77 = .ok (.lload_n 3, 1) := by decide +kernel
theorem dX11_period_78 : decode cX11_period 78 = .ok (.lstore_n 3, 1) := by decide +kernel
theorem dX11_period_79 : decode cX11_period 79 = .ok (.iinc 7 1, 3) := by decide +kernel
theorem dX11_period_82 : decode cX11_period 82 = .ok (.goto (-43), 3) := by decide +kernel
theorem dX11_period_85 : decode cX11_period 85 = .ok (.iinc 5 1, 3) := by decide +kernel
theorem dX11_period_88 : decode cX11_period 88 = .ok (.goto (-67), 3) := by decide +kernel
theorem dX11_period_91 : decode cX11_period 91 = .ok (.lload_n 3, 1) := by decide +kernel
theorem dX11_period_92 : decode cX11_period 92 = .ok (.l2i, 1) := by decide +kernel
theorem dX11_period_93 : decode cX11_period 93 = .ok (.ireturn, 1) := by decide +kernel
theorem dX11_prepare_0 : decode cX11_prepare 0 = .ok (.aload_n 0, 1) := by decide +kernel
theorem dX11_prepare_1 : decode cX11_prepare 1 = .ok (.aload_n 0, 1) := by decide +kernel
theorem dX11_prepare_2 : decode cX11_prepare 2 = .ok (.iload_n 1, 1) := by decide +kernel
theorem dX11_prepare_3 : decode cX11_prepare 3 = .ok (.invokevirtual 180, 3) := by decide +kernel
theorem dX11_prepare_6 : decode cX11_prepare 6 = .ok (.putfield 193, 3) := by decide +kernel
theorem dX11_prepare_9 : decode cX11_prepare 9 = .ok (.iconst 0, 1) := by decide +kernel
theorem dX11_prepare_10 : decode cX11_prepare 10 = .ok (.istore_n 2, 1) := by decide +kernel
theorem dX11_prepare_11 : decode cX11_prepare 11 = .ok (.iload_n 2, 1) := by decide +kernel
theorem dX11_prepare_12 : decode cX11_prepare 12 = .ok (.sipush 256, 3) := by decide +kernel
theorem dX11_prepare_15 : decode cX11_prepare 15 = .ok (.if_icmp .ge 59, 3) := by decide +kernel
theorem dX11_prepare_18 : decode cX11_prepare 18 = .ok (.iconst 0, 1) := by decide +kernel
theorem dX11_prepare_19 : decode cX11_prepare 19 = .ok (.istore_n 3, 1) := by decide +kernel
theorem dX11_prepare_20 : decode cX11_prepare 20 = .ok (.iload_n 3, 1) := by decide +kernel
theorem dX11_prepare_21 : decode cX11_prepare 21 = .ok (.iconst 4, 1) := by decide +kernel
theorem dX11_prepare_22 : decode cX11_prepare 22 = .ok (.if_icmp .ge 46, 3) := by decide +kernel
theorem dX11_prepare_25 : decode cX11_prepare 25 = .ok (.aload_n 0, 1) := by decide +kernel
theorem dX11_prepare_26 : decode cX11_prepare 26 = .ok (.getfield 36, 3) := by decide +kernel
theorem dX11_prepare_29 : decode cX11_prepare 29 = .ok (.iconst 4, 1) := by decide +kernel
theorem dX11_prepare_30 : decode cX11_prepare 30 = .ok (.iload_n 2, 1) := by decide +kernel
theorem dX11_prepare_31 : decode cX11_prepare 31 = .ok (.imul, 1) := by decide +kernel
theorem dX11_prepare_32 : decode cX11_prepare 32 = .ok (.iload_n 3, 1) := by decide +kernel
theorem dX11_prepare_33 : decode cX11_prepare 33 = .ok (.iadd, 1) := by decide +kernel
theorem dX11_prepare_34 : decode cX11_prepare 34 = .ok (.iload_n 2, 1) := by decide +kernel
theorem dX11_prepare_35 : decode cX11_prepare 35 = .ok (.aload_n 0, 1) := by decide +kernel
theorem dX11_prepare_36 : decode cX11_prepare 36 = .ok (.getfield 193, 3) := by decide +kernel
theorem dX11_prepare_39 : decode cX11_prepare 39 = .ok (.iconst (-1), 1) := by decide +kernel
theorem dX11_prepare_40 : decode cX11_prepare 40 = .ok (.ixor, 1) := by decide +kernel
theorem dX11_prepare_41 : decode cX11_prepare 41 = .ok (.iand, 1) := by decide +kernel
theorem dX11_prepare_42 : decode cX11_prepare 42 = .ok (.ifCond .ne 18, 3) := by decide +kernel
theorem dX11_prepare_45 : decode cX11_prepare 45 = .ok (.aload_n 0, 1) := by decide +kernel
theorem dX11_prepare_46 : decode cX11_prepare 46 = .ok (.iload_n 1, 1) := by decide +kernel
theorem dX11_prepare_47 : decode cX11_prepare 47 = .ok (.iload_n 2, 1) := by decide +kernel
theorem dX11_prepare_48 : decode cX11_prepare 48 = .ok (.iload_n 3, 1) := by decide +kernel
theorem dX11_prepare_49 : decode cX11_prepare 49 = .ok (.invokevirtual 196, 3) := by decide +kernel
theorem dX11_prepare_52 : decode cX11_prepare 52 = .ok (.aload_n 0, 1) := by decide +kernel
theorem dX11_prepare_53 : decode cX11_prepare 53 = .ok (.getfield 193, 3) := by decide +kernel
theorem dX11_prepare_56 : decode cX11_prepare 56 = .ok (.iand, 1) := by decide +kernel
theorem dX11_prepare_57 : decode cX11_prepare 57 = .ok (.goto 4, 3) := by decide +kernel
theorem dX11_prepare_60 : decode cX11_prepare 60 = .ok (.iconst 0, 1) := by decide +kernel
theorem dX11_prepare_61 : decode cX11_prepare 61 = .ok (.iastore, 1) := by decide +kernel
theorem dX11_prepare_62 : decode cX11_prepare 62 = .ok (.iinc 3 1, 3) := by decide +kernel
theorem dX11_prepare_65 : decode cX11_prepare 65 = .ok (.goto (-45), 3) := by decide +kernel
theorem dX11_prepare_68 : decode cX11_prepare 68 = .ok (.iinc 2 1, 3) := by decide +kernel
theorem dX11_prepare_71 : decode cX11_prepare 71 = .ok (.goto (-60), 3) := by decide +kernel
theorem dX11_prepare_74 : decode cX11_prepare 74 = .ok (.return_, 1) := by decide +kernel
theorem dX11_countTo_0 : decode cX11_countTo 0 = .ok (.iconst 0, 1) := by decide +kernel
theorem dX11_countTo_1 : decode cX11_countTo 1 = .ok (.istore_n 2, 1) := by decide +kernel
theorem dX11_countTo_2 : decode cX11_countTo 2 = .ok (.iload_n 2, 1) := by decide +kernel
theorem dX11_countTo_3 : decode cX11_countTo 3 = .ok (.sipush 256, 3) := by decide +kernel
theorem dX11_countTo_6 : decode cX11_countTo 6 = .ok (.if_icmp .ge 24, 3) := by decide +kernel
theorem dX11_countTo_9 : decode cX11_countTo 9 = .ok (.aload_n 0, 1) := by decide +kernel
theorem dX11_countTo_10 : decode cX11_countTo 10 = .ok (.getfield 39, 3) := by decide +kernel
theorem dX11_countTo_13 : decode cX11_countTo 13 = .ok (.iload_n 2, 1) := by decide +kernel
theorem dX11_countTo_14 : decode cX11_countTo 14 = .ok (.iload_n 2, 1) := by decide +kernel
theorem dX11_countTo_15 : decode cX11_countTo 15 = .ok (.ifCond .ne 7, 3) := by decide +kernel
theorem dX11_countTo_18 : decode cX11_countTo 18 = .ok (.lconst 0, 1) := by decide +kernel
theorem dX11_countTo_19 : decode cX11_countTo 19 = .ok (.goto 4, 3) := by decide +kernel
theorem dX11_countTo_22 : decode cX11_countTo 22 = .ok (.lconst 1, 1) := by decide +kernel
theorem dX11_countTo_23 : decode cX11_countTo 23 = .ok (.lastore, 1) := by decide +kernel
theorem dX11_countTo_24 : decode cX11_countTo 24 = .ok (.iinc 2 1, 3) := by decide +kernel
theorem dX11_countTo_27 : decode cX11_countTo 27 = .ok (.goto (-25), 3) := by decide +kernel
theorem dX11_countTo_30 : decode cX11_countTo 30 = .ok (.iconst 1, 1) := by decide +kernel
theorem dX11_countTo_31 : decode cX11_countTo 31 = .ok (.istore_n 2, 1) := by decide +kernel
theorem dX11_countTo_32 : decode cX11_countTo 32 = .ok (.iload_n 2, 1) := by decide +kernel
theorem dX11_countTo_33 : decode cX11_countTo 33 = .ok (.iload_n 1, 1) := by decide +kernel
theorem dX11_countTo_34 : decode cX11_countTo 34 = .ok (.if_icmp .gt 85, 3) := by decide +kernel
theorem dX11_countTo_37 : decode cX11_countTo 37 = .ok (.iconst 0, 1) := by decide +kernel
theorem dX11_countTo_38 : decode cX11_countTo 38 = .ok (.istore_n 3, 1) := by decide +kernel
theorem dX11_countTo_39 : decode cX11_countTo 39 = .ok (.iload_n 3, 1) := by decide +kernel
theorem dX11_countTo_40 : decode cX11_countTo 40 = .ok (.sipush 256, 3) := by decide +kernel
theorem dX11_countTo_43 : decode cX11_countTo 43 = .ok (.if_icmp .ge 70, 3) := by decide +kernel
theorem dX11_countTo_46 : decode cX11_countTo 46 = .ok (.lconst 0, 1) := by decide +kernel
theorem dX11_countTo_47 : decode cX11_countTo 47 = .ok (.lstore 4, 2) := by decide +kernel
theorem dX11_countTo_49 : decode cX11_countTo 49 = .ok (.iconst 0, 1) := by decide +kernel
theorem dX11_countTo_50 : decode cX11_countTo 50 = .ok (.istore 6, 2) := by decide +kernel
theorem dX11_countTo_52 : decode cX11_countTo 52 = .ok (.iload 6, 2) := by decide +kernel
theorem dX11_countTo_54 : decode cX11_countTo 54 = .ok (.iconst 4, 1) := by decide +kernel
theorem dX11_countTo_55 : decode cX11_countTo 55 = .ok (.if_icmp .ge 38, 3) := by decide +kernel
theorem dX11_countTo_58 : decode cX11_countTo 58 = .ok (.lload 4, 2) := by decide +kernel
theorem dX11_countTo_60 : decode cX11_countTo 60 = .ok (.aload_n 0, 1) := by decide +kernel
theorem dX11_countTo_61 : decode cX11_countTo 61 = .ok (.getfield 39, 3) := by decide +kernel
theorem dX11_countTo_64 : decode cX11_countTo 64 = .ok (.sipush 256, 3) := by decide +kernel
theorem dX11_countTo_67 : decode cX11_countTo 67 = .ok (.iload_n 2, 1) := by decide +kernel
theorem dX11_countTo_68 : decode cX11_countTo 68 = .ok (.iconst 1, 1) := by decide +kernel
theorem dX11_countTo_69 : decode cX11_countTo 69 = .ok (.isub, 1) := by decide +kernel
theorem dX11_countTo_70 : decode cX11_countTo 70 = .ok (.imul, 1) := by decide +kernel
theorem dX11_countTo_71 : decode cX11_countTo 71 = .ok (.aload_n 0, 1) := by decide +kernel
theorem dX11_countTo_72 : decode cX11_countTo 72 = .ok (.getfield 36, 3) := by decide +kernel
theorem dX11_countTo_75 : decode cX11_countTo 75 = .ok (.iconst 4, 1) := by decide +kernel
theorem dX11_countTo_76 : decode cX11_countTo 76 = .ok (.iload_n 3, 1) := by decide +kernel
theorem dX11_countTo_77 : decode cX11_countTo 77 = .ok (.imul, 1) := by decide +kernel
theorem dX11_countTo_78 : decode cX11_countTo 78 = .ok (.iload 6, 2) := by decide +kernel
theorem dX11_countTo_80 : decode cX11_countTo 80 = .ok (.iadd, 1) := by decide +kernel
theorem dX11_countTo_81 : decode cX11_countTo 81 = .ok (.iaload, 1) := by decide +kernel
theorem dX11_countTo_82 : decode cX11_countTo 82 = .ok (.iadd, 1) := by decide +kernel
theorem dX11_countTo_83 : decode cX11_countTo 83 = .ok (.laload, 1) := by decide +kernel
theorem dX11_countTo_84 : decode cX11_countTo 84 = .ok (.ladd, 1) := by decide +kernel
theorem dX11_countTo_85 : decode cX11_countTo 85 = .ok (.lstore 4, 2) := by decide +kernel
theorem dX11_countTo_87 : decode cX11_countTo 87 = .ok (.iinc 6 1, 3) := by decide +kernel
theorem dX11_countTo_90 : decode cX11_countTo 90 = .ok (.goto (-38), 3) := by decide +kernel
theorem dX11_countTo_93 : decode cX11_countTo 93 = .ok (.aload_n 0, 1) := by decide +kernel
theorem dX11_countTo_94 : decode cX11_countTo 94 = .ok (.getfield 39, 3) := by decide +kernel
theorem dX11_countTo_97 : decode cX11_countTo 97 = .ok (.sipush 256, 3) := by decide +kernel
theorem dX11_countTo_100 : decode cX11_countTo 100 = .ok (.iload_n 2, 1) := by decide +kernel
theorem dX11_countTo_101 : decode cX11_countTo 101 = .ok (.imul, 1) := by decide +kernel
theorem dX11_countTo_102 : decode cX11_countTo 102 = .ok (.iload_n 3, 1) := by decide +kernel
theorem dX11_countTo_103 : decode cX11_countTo 103 = .ok (.iadd, 1) := by decide +kernel
theorem dX11_countTo_104 : decode cX11_countTo 104 = .ok (.lload 4, 2) := by decide +kernel
theorem dX11_countTo_106 : decode cX11_countTo 106 = .ok (.lastore, 1) := by decide +kernel
theorem dX11_countTo_107 : decode cX11_countTo 107 = .ok (.iinc 3 1, 3) := by decide +kernel
theorem dX11_countTo_110 : decode cX11_countTo 110 = .ok (.goto (-71), 3) := by decide +kernel
theorem dX11_countTo_113 : decode cX11_countTo 113 = .ok (.iinc 2 1, 3) := by decide +kernel
theorem dX11_countTo_116 : decode cX11_countTo 116 = .ok (.goto (-84), 3) := by decide +kernel
theorem dX11_countTo_119 : decode cX11_countTo 119 = .ok (.return_, 1) := by decide +kernel
theorem dX11_words_0 : decode cX11_words 0 = .ok (.iload_n 1, 1) := by decide +kernel
theorem dX11_words_1 : decode cX11_words 1 = .ok (.invokestatic 135, 3) := by decide +kernel
theorem dX11_words_4 : decode cX11_words 4 = .ok (.ifCond .eq 13, 3) := by decide +kernel
theorem dX11_words_7 : decode cX11_words 7 = .ok (.iload_n 2, 1) := by decide +kernel
theorem dX11_words_8 : decode cX11_words 8 = .ok (.iconst 0, 1) := by decide +kernel
theorem dX11_words_9 : decode cX11_words 9 = .ok (.bipush 30, 2) := by decide +kernel
theorem dX11_words_11 : decode cX11_words 11 = .ok (.invokestatic 118, 3) := by decide +kernel
theorem dX11_words_14 : decode cX11_words 14 = .ok (.ifCond .ne 7, 3) := by decide +kernel
theorem dX11_words_17 : decode cX11_words 17 = .ok (.ldc2_w 199, 3) := by decide +kernel
theorem dX11_words_20 : decode cX11_words 20 = .ok (.lreturn, 1) := by decide +kernel
theorem dX11_words_21 : decode cX11_words 21 = .ok (.aload_n 0, 1) := by decide +kernel
theorem dX11_words_22 : decode cX11_words 22 = .ok (.iload_n 1, 1) := by decide +kernel
theorem dX11_words_23 : decode cX11_words 23 = .ok (.invokevirtual 201, 3) := by decide +kernel
theorem dX11_words_26 : decode cX11_words 26 = .ok (.aload_n 0, 1) := by decide +kernel
theorem dX11_words_27 : decode cX11_words 27 = .ok (.iload_n 2, 1) := by decide +kernel
theorem dX11_words_28 : decode cX11_words 28 = .ok (.invokevirtual 204, 3) := by decide +kernel
theorem dX11_words_31 : decode cX11_words 31 = .ok (.aload_n 0, 1) := by decide +kernel
theorem dX11_words_32 : decode cX11_words 32 = .ok (.getfield 39, 3) := by decide +kernel
theorem dX11_words_35 : decode cX11_words 35 = .ok (.sipush 256, 3) := by decide +kernel
theorem dX11_words_38 : decode cX11_words 38 = .ok (.iload_n 2, 1) := by decide +kernel
theorem dX11_words_39 : decode cX11_words 39 = .ok (.imul, 1) := by decide +kernel
theorem dX11_words_40 : decode cX11_words 40 = .ok (.aload_n 0, 1) := by decide +kernel
theorem dX11_words_41 : decode cX11_words 41 = .ok (.getfield 193, 3) := by decide +kernel
theorem dX11_words_44 : decode cX11_words 44 = .ok (.iadd, 1) := by decide +kernel
theorem dX11_words_45 : decode cX11_words 45 = .ok (.laload, 1) := by decide +kernel
theorem dX11_words_46 : decode cX11_words 46 = .ok (.lreturn, 1) := by decide +kernel
theorem dX11_growth_0 : decode cX11_growth 0 = .ok (.iload_n 1, 1) := by decide +kernel
theorem dX11_growth_1 : decode cX11_growth 1 = .ok (.invokestatic 135, 3) := by decide +kernel
theorem dX11_growth_4 : decode cX11_growth 4 = .ok (.ifCond .eq 22, 3) := by decide +kernel
theorem dX11_growth_7 : decode cX11_growth 7 = .ok (.iload_n 2, 1) := by decide +kernel
theorem dX11_growth_8 : decode cX11_growth 8 = .ok (.iconst 0, 1) := by decide +kernel
theorem dX11_growth_9 : decode cX11_growth 9 = .ok (.bipush 29, 2) := by decide +kernel
theorem dX11_growth_11 : decode cX11_growth 11 = .ok (.invokestatic 118, 3) := by decide +kernel
theorem dX11_growth_14 : decode cX11_growth 14 = .ok (.ifCond .eq 12, 3) := by decide +kernel
theorem dX11_growth_17 : decode cX11_growth 17 = .ok (.iload_n 3, 1) := by decide +kernel
theorem dX11_growth_18 : decode cX11_growth 18 = .ok (.iconst 0, 1) := by decide +kernel
theorem dX11_growth_19 : decode cX11_growth 19 = .ok (.iconst 1, 1) := by decide +kernel
theorem dX11_growth_20 : decode cX11_growth 20 = .ok (.invokestatic 118, 3) := by decide +kernel
theorem dX11_growth_23 : decode cX11_growth 23 = .ok (.ifCond .ne 7, 3) := by decide +kernel
theorem dX11_growth_26 : decode cX11_growth 26 = .ok (.ldc2_w 199, 3) := by decide +kernel
theorem dX11_growth_29 : decode cX11_growth 29 = .ok (.lreturn, 1) := by decide +kernel
theorem dX11_growth_30 : decode cX11_growth 30 = .ok (.aload_n 0, 1) := by decide +kernel
theorem dX11_growth_31 : decode cX11_growth 31 = .ok (.iload_n 1, 1) := by decide +kernel
theorem dX11_growth_32 : decode cX11_growth 32 = .ok (.invokevirtual 201, 3) := by decide +kernel
theorem dX11_growth_35 : decode cX11_growth 35 = .ok (.aload_n 0, 1) := by decide +kernel
theorem dX11_growth_36 : decode cX11_growth 36 = .ok (.iload_n 2, 1) := by decide +kernel
theorem dX11_growth_37 : decode cX11_growth 37 = .ok (.iconst 1, 1) := by decide +kernel
theorem dX11_growth_38 : decode cX11_growth 38 = .ok (.iadd, 1) := by decide +kernel
theorem dX11_growth_39 : decode cX11_growth 39 = .ok (.invokevirtual 204, 3) := by decide +kernel
theorem dX11_growth_42 : decode cX11_growth 42 = .ok (.aload_n 0, 1) := by decide +kernel
theorem dX11_growth_43 : decode cX11_growth 43 = .ok (.getfield 39, 3) := by decide +kernel
theorem dX11_growth_46 : decode cX11_growth 46 = .ok (.sipush 256, 3) := by decide +kernel
theorem dX11_growth_49 : decode cX11_growth 49 = .ok (.iload_n 2, 1) := by decide +kernel
theorem dX11_growth_50 : decode cX11_growth 50 = .ok (.iconst 1, 1) := by decide +kernel
theorem dX11_growth_51 : decode cX11_growth 51 = .ok (.iadd, 1) := by decide +kernel
theorem dX11_growth_52 : decode cX11_growth 52 = .ok (.imul, 1) := by decide +kernel
theorem dX11_growth_53 : decode cX11_growth 53 = .ok (.aload_n 0, 1) := by decide +kernel
theorem dX11_growth_54 : decode cX11_growth 54 = .ok (.getfield 193, 3) := by decide +kernel
theorem dX11_growth_57 : decode cX11_growth 57 = .ok (.iadd, 1) := by decide +kernel
theorem dX11_growth_58 : decode cX11_growth 58 = .ok (.laload, 1) := by decide +kernel
theorem dX11_growth_59 : decode cX11_growth 59 = .ok (.lstore 4, 2) := by decide +kernel
theorem dX11_growth_61 : decode cX11_growth 61 = .ok (.aload_n 0, 1) := by decide +kernel
theorem dX11_growth_62 : decode cX11_growth 62 = .ok (.getfield 39, 3) := by decide +kernel
theorem dX11_growth_65 : decode cX11_growth 65 = .ok (.sipush 256, 3) := by decide +kernel
theorem dX11_growth_68 : decode cX11_growth 68 = .ok (.iload_n 2, 1) := by decide +kernel
theorem dX11_growth_69 : decode cX11_growth 69 = .ok (.imul, 1) := by decide +kernel
theorem dX11_growth_70 : decode cX11_growth 70 = .ok (.aload_n 0, 1) := by decide +kernel
theorem dX11_growth_71 : decode cX11_growth 71 = .ok (.getfield 193, 3) := by decide +kernel
theorem dX11_growth_74 : decode cX11_growth 74 = .ok (.iadd, 1) := by decide +kernel
theorem dX11_growth_75 : decode cX11_growth 75 = .ok (.laload, 1) := by decide +kernel
theorem dX11_growth_76 : decode cX11_growth 76 = .ok (.lstore 6, 2) := by decide +kernel
theorem dX11_growth_78 : decode cX11_growth 78 = .ok (.lload 6, 2) := by decide +kernel
theorem dX11_growth_80 : decode cX11_growth 80 = .ok (.lconst 0, 1) := by decide +kernel
theorem dX11_growth_81 : decode cX11_growth 81 = .ok (.lcmp, 1) := by decide +kernel
theorem dX11_growth_82 : decode cX11_growth 82 = .ok (.ifCond .ne 6, 3) := by decide +kernel
theorem dX11_growth_85 : decode cX11_growth 85 = .ok (.iload_n 3, 1) := by decide +kernel
theorem dX11_growth_86 : decode cX11_growth 86 = .ok (.i2l, 1) := by decide +kernel
theorem dX11_growth_87 : decode cX11_growth 87 = .ok (.lreturn, 1) := by decide +kernel
theorem dX11_growth_88 : decode cX11_growth 88 = .ok (.iload_n 3, 1) := by decide +kernel
theorem dX11_growth_89 : decode cX11_growth 89 = .ok (.ifCond .ne 8, 3) := by decide +kernel
theorem dX11_growth_92 : decode cX11_growth 92 = .ok (.lload 4, 2) := by decide +kernel
theorem dX11_growth_94 : decode cX11_growth 94 = .ok (.goto 5, 3) := by decide +kernel
theorem dX11_growth_97 : decode cX11_growth 97 = .ok (.lload 6, 2) := by decide +kernel
theorem dX11_growth_99 : decode cX11_growth 99 = .ok (.lload 4, 2) := by decide +kernel
theorem dX11_growth_101 : decode cX11_growth 101 = .ok (.lload 6, 2) := by decide +kernel
theorem dX11_growth_103 : decode cX11_growth 103 = .ok (.invokestatic 189, 3) := by decide +kernel
theorem dX11_growth_106 : decode cX11_growth 106 = .ok (.ldiv, 1) := by decide +kernel
theorem dX11_growth_107 : decode cX11_growth 107 = .ok (.lreturn, 1) := by decide +kernel
theorem dX11_behind_0 : decode cX11_behind 0 = .ok (.iload_n 1, 1) := by decide +kernel
theorem dX11_behind_1 : decode cX11_behind 1 = .ok (.istore 4, 2) := by decide +kernel
theorem dX11_behind_3 : decode cX11_behind 3 = .ok (.iload_n 2, 1) := by decide +kernel
theorem dX11_behind_4 : decode cX11_behind 4 = .ok (.istore 5, 2) := by decide +kernel
theorem dX11_behind_6 : decode cX11_behind 6 = .ok (.iload 5, 2) := by decide +kernel
theorem dX11_behind_8 : decode cX11_behind 8 = .ok (.iload_n 3, 1) := by decide +kernel
theorem dX11_behind_9 : decode cX11_behind 9 = .ok (.if_icmp .ge 28, 3) := by decide +kernel
theorem dX11_behind_12 : decode cX11_behind 12 = .ok (.aload_n 0, 1) := by decide +kernel
theorem dX11_behind_13 : decode cX11_behind 13 = .ok (.getfield 36, 3) := by decide +kernel
theorem dX11_behind_16 : decode cX11_behind 16 = .ok (.iconst 4, 1) := by decide +kernel
theorem dX11_behind_17 : decode cX11_behind 17 = .ok (.iload 4, 2) := by decide +kernel
theorem dX11_behind_19 : decode cX11_behind 19 = .ok (.imul, 1) := by decide +kernel
theorem dX11_behind_20 : decode cX11_behind 20 = .ok (.aload_n 0, 1) := by decide +kernel
theorem dX11_behind_21 : decode cX11_behind 21 = .ok (.getfield 33, 3) := by decide +kernel
theorem dX11_behind_24 : decode cX11_behind 24 = .ok (.iload 5, 2) := by decide +kernel
theorem dX11_behind_26 : decode cX11_behind 26 = .ok (.iaload, 1) := by decide +kernel
theorem dX11_behind_27 : decode cX11_behind 27 = .ok (.iadd, 1) := by decide +kernel
theorem dX11_behind_28 : decode cX11_behind 28 = .ok (.iaload, 1) := by decide +kernel
theorem dX11_behind_29 : decode cX11_behind 29 = .ok (.istore 4, 2) := by decide +kernel
theorem dX11_behind_31 : decode cX11_behind 31 = .ok (.iinc 5 1, 3) := by decide +kernel
theorem dX11_behind_34 : decode cX11_behind 34 = .ok (.goto (-28), 3) := by decide +kernel
theorem dX11_behind_37 : decode cX11_behind 37 = .ok (.iload 4, 2) := by decide +kernel
theorem dX11_behind_39 : decode cX11_behind 39 = .ok (.ireturn, 1) := by decide +kernel
theorem dX11_allows_0 : decode cX11_allows 0 = .ok (.iload_n 1, 1) := by decide +kernel
theorem dX11_allows_1 : decode cX11_allows 1 = .ok (.invokestatic 135, 3) := by decide +kernel
theorem dX11_allows_4 : decode cX11_allows 4 = .ok (.ifCond .ne 6, 3) := by decide +kernel
theorem dX11_allows_7 : decode cX11_allows 7 = .ok (.bipush (-2), 2) := by decide +kernel
theorem dX11_allows_9 : decode cX11_allows 9 = .ok (.ireturn, 1) := by decide +kernel
theorem dX11_allows_10 : decode cX11_allows 10 = .ok (.aload_n 0, 1) := by decide +kernel
theorem dX11_allows_11 : decode cX11_allows 11 = .ok (.invokevirtual 207, 3) := by decide +kernel
theorem dX11_allows_14 : decode cX11_allows 14 = .ok (.istore_n 2, 1) := by decide +kernel
theorem dX11_allows_15 : decode cX11_allows 15 = .ok (.iload_n 2, 1) := by decide +kernel
theorem dX11_allows_16 : decode cX11_allows 16 = .ok (.iconst (-1), 1) := by decide +kernel
theorem dX11_allows_17 : decode cX11_allows 17 = .ok (.if_icmp .eq 8, 3) := by decide +kernel
theorem dX11_allows_20 : decode cX11_allows 20 = .ok (.bipush (-100), 2) := by decide +kernel
theorem dX11_allows_22 : decode cX11_allows 22 = .ok (.iload_n 2, 1) := by decide +kernel
theorem dX11_allows_23 : decode cX11_allows 23 = .ok (.isub, 1) := by decide +kernel
theorem dX11_allows_24 : decode cX11_allows 24 = .ok (.ireturn, 1) := by decide +kernel
theorem dX11_allows_25 : decode cX11_allows 25 = .ok (.aload_n 0, 1) := by decide +kernel
theorem dX11_allows_26 : decode cX11_allows 26 = .ok (.iload_n 1, 1) := by decide +kernel
theorem dX11_allows_27 : decode cX11_allows 27 = .ok (.invokevirtual 201, 3) := by decide +kernel
theorem dX11_allows_30 : decode cX11_allows 30 = .ok (.aload_n 0, 1) := by decide +kernel
theorem dX11_allows_31 : decode cX11_allows 31 = .ok (.aload_n 0, 1) := by decide +kernel
theorem dX11_allows_32 : decode cX11_allows 32 = .ok (.getfield 193, 3) := by decide +kernel
theorem dX11_allows_35 : decode cX11_allows 35 = .ok (.iconst 0, 1) := by decide +kernel
theorem dX11_allows_36 : decode cX11_allows 36 = .ok (.aload_n 0, 1) := by decide +kernel
theorem dX11_allows_37 : decode cX11_allows 37 = .ok (.getfield 167, 3) := by decide +kernel
theorem dX11_allows_40 : decode cX11_allows 40 = .ok (.invokevirtual 211, 3) := by decide +kernel
theorem dX11_allows_43 : decode cX11_allows 43 = .ok (.ifCond .eq 7, 3) := by decide +kernel
theorem dX11_allows_46 : decode cX11_allows 46 = .ok (.iconst 1, 1) := by decide +kernel
theorem dX11_allows_47 : decode cX11_allows 47 = .ok (.goto 4, 3) := by decide +kernel
theorem dX11_allows_50 : decode cX11_allows 50 = .ok (.iconst 0, 1) := by decide +kernel
theorem dX11_allows_51 : decode cX11_allows 51 = .ok (.ireturn, 1) := by decide +kernel
theorem dX11_writeWord_0 : decode cX11_writeWord 0 = .ok (.iload_n 1, 1) := by decide +kernel
theorem dX11_writeWord_1 : decode cX11_writeWord 1 = .ok (.invokestatic 135, 3) := by decide +kernel
theorem dX11_writeWord_4 : decode cX11_writeWord 4 = .ok (.ifCond .eq 13, 3) := by decide +kernel
theorem dX11_writeWord_7 : decode cX11_writeWord 7 = .ok (.iload_n 2, 1) := by decide +kernel
theorem dX11_writeWord_8 : decode cX11_writeWord 8 = .ok (.iconst 0, 1) := by decide +kernel
theorem dX11_writeWord_9 : decode cX11_writeWord 9 = .ok (.bipush 30, 2) := by decide +kernel
theorem dX11_writeWord_11 : decode cX11_writeWord 11 = .ok (.invokestatic 118, 3) := by decide +kernel
theorem dX11_writeWord_14 : decode cX11_writeWord 14 = .ok (.ifCond .ne 6, 3) := by decide +kernel
theorem dX11_writeWord_17 : decode cX11_writeWord 17 = .ok (.bipush (-2), 2) := by decide +kernel
theorem dX11_writeWord_19 : decode cX11_writeWord 19 = .ok (.ireturn, 1) := by decide +kernel
theorem dX11_writeWord_20 : decode cX11_writeWord 20 = .ok (.aload_n 0, 1) := by decide +kernel
theorem dX11_writeWord_21 : decode cX11_writeWord 21 = .ok (.iload_n 1, 1) := by decide +kernel
theorem dX11_writeWord_22 : decode cX11_writeWord 22 = .ok (.invokevirtual 201, 3) := by decide +kernel
theorem dX11_writeWord_25 : decode cX11_writeWord 25 = .ok (.aload_n 0, 1) := by decide +kernel
theorem dX11_writeWord_26 : decode cX11_writeWord 26 = .ok (.iload_n 2, 1) := by decide +kernel
theorem dX11_writeWord_27 : decode cX11_writeWord 27 = .ok (.invokevirtual 204, 3) := by decide +kernel
theorem dX11_writeWord_30 : decode cX11_writeWord 30 = .ok (.lload_n 3, 1) := by decide +kernel
theorem dX11_writeWord_31 : decode cX11_writeWord 31 = .ok (.lconst 0, 1) := by decide +kernel
theorem dX11_writeWord_32 : decode cX11_writeWord 32 = .ok (.lcmp, 1) := by decide +kernel
theorem dX11_writeWord_33 : decode cX11_writeWord 33 = .ok (.ifCond .lt 23, 3) := by decide +kernel
theorem dX11_writeWord_36 : decode cX11_writeWord 36 = .ok (.lload_n 3, 1) := by decide +kernel
theorem dX11_writeWord_37 : decode cX11_writeWord 37 = .ok (.aload_n 0, 1) := by decide +kernel
theorem dX11_writeWord_38 : decode cX11_writeWord 38 = .ok (.getfield 39, 3) := by decide +kernel
theorem dX11_writeWord_41 : decode cX11_writeWord 41 = .ok (.sipush 256, 3) := by decide +kernel
theorem dX11_writeWord_44 : decode cX11_writeWord 44 = .ok (.iload_n 2, 1) := by decide +kernel
theorem dX11_writeWord_45 : decode cX11_writeWord 45 = .ok (.imul, 1) := by decide +kernel
theorem dX11_writeWord_46 : decode cX11_writeWord 46 = .ok (.aload_n 0, 1) := by decide +kernel
theorem dX11_writeWord_47 : decode cX11_writeWord 47 = .ok (.getfield 193, 3) := by decide +kernel
theorem dX11_writeWord_50 : decode cX11_writeWord 50 = .ok (.iadd, 1) := by decide +kernel
theorem dX11_writeWord_51 : decode cX11_writeWord 51 = .ok (.laload, 1) := by decide +kernel
theorem dX11_writeWord_52 : decode cX11_writeWord 52 = .ok (.lcmp, 1) := by decide +kernel
theorem dX11_writeWord_53 : decode cX11_writeWord 53 = .ok (.ifCond .lt 5, 3) := by decide +kernel
theorem dX11_writeWord_56 : decode cX11_writeWord 56 = .ok (.iconst (-1), 1) := by decide +kernel
theorem dX11_writeWord_57 : decode cX11_writeWord 57 = .ok (.ireturn, 1) := by decide +kernel
theorem dX11_writeWord_58 : decode cX11_writeWord 58 = .ok (.aload_n 0, 1) := by decide +kernel
theorem dX11_writeWord_59 : decode cX11_writeWord 59 = .ok (.getfield 193, 3) := by decide +kernel
theorem dX11_writeWord_62 : decode cX11_writeWord 62 = .ok (.istore 5, 2) := by decide +kernel
theorem dX11_writeWord_64 : decode cX11_writeWord 64 = .ok (.lload_n 3, 1) := by decide +kernel
theorem dX11_writeWord_65 : decode cX11_writeWord 65 = .ok (.lstore 6, 2) := by decide +kernel
theorem dX11_writeWord_67 : decode cX11_writeWord 67 = .ok (.iconst 0, 1) := by decide +kernel
theorem dX11_writeWord_68 : decode cX11_writeWord 68 = .ok (.istore 8, 2) := by decide +kernel
theorem dX11_writeWord_70 : decode cX11_writeWord 70 = .ok (.iload 8, 2) := by decide +kernel
theorem dX11_writeWord_72 : decode cX11_writeWord 72 = .ok (.iload_n 2, 1) := by decide +kernel
theorem dX11_writeWord_73 : decode cX11_writeWord 73 = .ok (.if_icmp .ge 113, 3) := by decide +kernel
theorem dX11_writeWord_76 : decode cX11_writeWord 76 = .ok (.iconst 0, 1) := by decide +kernel
theorem dX11_writeWord_77 : decode cX11_writeWord 77 = .ok (.istore 9, 2) := by decide +kernel
theorem dX11_writeWord_79 : decode cX11_writeWord 79 = .ok (.aload_n 0, 1) := by decide +kernel
theorem dX11_writeWord_80 : decode cX11_writeWord 80 = .ok (.getfield 39, 3) := by decide +kernel
theorem dX11_writeWord_83 : decode cX11_writeWord 83 = .ok (.sipush 256, 3) := by decide +kernel
theorem dX11_writeWord_86 : decode cX11_writeWord 86 = .ok (.iload_n 2, 1) := by decide +kernel
theorem dX11_writeWord_87 : decode cX11_writeWord 87 = .ok (.iconst 1, 1) := by decide +kernel
theorem dX11_writeWord_88 : decode cX11_writeWord 88 = .ok (.isub, 1) := by decide +kernel
theorem dX11_writeWord_89 : decode cX11_writeWord 89 = .ok (.iload 8, 2) := by decide +kernel
theorem dX11_writeWord_91 : decode cX11_writeWord 91 = .ok (.isub, 1) := by decide +kernel
theorem dX11_writeWord_92 : decode cX11_writeWord 92 = .ok (.imul, 1) := by decide +kernel
theorem dX11_writeWord_93 : decode cX11_writeWord 93 = .ok (.aload_n 0, 1) := by decide +kernel
theorem dX11_writeWord_94 : decode cX11_writeWord 94 = .ok (.getfield 36, 3) := by decide +kernel
theorem dX11_writeWord_97 : decode cX11_writeWord 97 = .ok (.iconst 4, 1) := by decide +kernel
theorem dX11_writeWord_98 : decode cX11_writeWord 98 = .ok (.iload 5, 2) := by decide +kernel
theorem dX11_writeWord_100 : decode cX11_writeWord 100 = .ok (.imul, 1) := by decide +kernel
theorem dX11_writeWord_101 : decode cX11_writeWord 101 = .ok (.iaload, 1) := by decide +kernel
theorem dX11_writeWord_102 : decode cX11_writeWord 102 = .ok (.iadd, 1) := by decide +kernel
theorem dX11_writeWord_103 : decode cX11_writeWord 103 = .ok (.laload, 1) := by decide +kernel
theorem dX11_writeWord_104 : decode cX11_writeWord 104 = .ok (.lstore 10, 2) := by decide +kernel
theorem dX11_writeWord_106 : decode cX11_writeWord 106 = .ok (.lload 6, 2) := by decide +kernel
theorem dX11_writeWord_108 : decode cX11_writeWord 108 = .ok (.lload 10, 2) := by decide +kernel
theorem dX11_writeWord_110 : decode cX11_writeWord 110 = .ok (.lcmp, 1) := by decide +kernel
theorem dX11_writeWord_111 : decode cX11_writeWord 111 = .ok (.ifCond .lt 46, 3) := by decide +kernel
theorem dX11_writeWord_114 : decode cX11_writeWord 114 = .ok (.lload 6, 2) := by decide +kernel
theorem dX11_writeWord_116 : decode cX11_writeWord 116 = .ok (.lload 10, 2) := by decide +kernel
theorem dX11_writeWord_118 : decode cX11_writeWord 118 = .ok (.lsub, 1) := by decide +kernel
theorem dX11_writeWord_119 : decode cX11_writeWord 119 = .ok (.lstore 6, 2) := by decide +kernel
theorem dX11_writeWord_121 : decode cX11_writeWord 121 = .ok (.iinc 9 1, 3) := by decide +kernel
theorem dX11_writeWord_124 : decode cX11_writeWord 124 = .ok (.aload_n 0, 1) := by decide +kernel
theorem dX11_writeWord_125 : decode cX11_writeWord 125 = .ok (.getfield 39, 3) := by decide +kernel
theorem dX11_writeWord_128 : decode cX11_writeWord 128 = .ok (.sipush 256, 3) := by decide +kernel
theorem dX11_writeWord_131 : decode cX11_writeWord 131 = .ok (.iload_n 2, 1) := by decide +kernel
theorem dX11_writeWord_132 : decode cX11_writeWord 132 = .ok (.iconst 1, 1) := by decide +kernel
theorem dX11_writeWord_133 : decode cX11_writeWord 133 = .ok (.isub, 1) := by decide +kernel
theorem dX11_writeWord_134 : decode cX11_writeWord 134 = .ok (.iload 8, 2) := by decide +kernel
theorem dX11_writeWord_136 : decode cX11_writeWord 136 = .ok (.isub, 1) := by decide +kernel
theorem dX11_writeWord_137 : decode cX11_writeWord 137 = .ok (.imul, 1) := by decide +kernel
theorem dX11_writeWord_138 : decode cX11_writeWord 138 = .ok (.aload_n 0, 1) := by decide +kernel
theorem dX11_writeWord_139 : decode cX11_writeWord 139 = .ok (.getfield 36, 3) := by decide +kernel
theorem dX11_writeWord_142 : decode cX11_writeWord 142 = .ok (.iconst 4, 1) := by decide +kernel
theorem dX11_writeWord_143 : decode cX11_writeWord 143 = .ok (.iload 5, 2) := by decide +kernel
theorem dX11_writeWord_145 : decode cX11_writeWord 145 = .ok (.imul, 1) := by decide +kernel
theorem dX11_writeWord_146 : decode cX11_writeWord 146 = .ok (.iload 9, 2) := by decide +kernel
theorem dX11_writeWord_148 : decode cX11_writeWord 148 = .ok (.iadd, 1) := by decide +kernel
theorem dX11_writeWord_149 : decode cX11_writeWord 149 = .ok (.iaload, 1) := by decide +kernel
theorem dX11_writeWord_150 : decode cX11_writeWord 150 = .ok (.iadd, 1) := by decide +kernel
theorem dX11_writeWord_151 : decode cX11_writeWord 151 = .ok (.laload, 1) := by decide +kernel
theorem dX11_writeWord_152 : decode cX11_writeWord 152 = .ok (.lstore 10, 2) := by decide +kernel
theorem dX11_writeWord_154 : decode cX11_writeWord 154 = .ok (.goto (-48), 3) := by decide +kernel
theorem dX11_writeWord_157 : decode cX11_writeWord 157 = .ok (.aload_n 0, 1) := by decide +kernel
theorem dX11_writeWord_158 : decode cX11_writeWord 158 = .ok (.getfield 33, 3) := by decide +kernel
theorem dX11_writeWord_161 : decode cX11_writeWord 161 = .ok (.iload 8, 2) := by decide +kernel
theorem dX11_writeWord_163 : decode cX11_writeWord 163 = .ok (.iload 9, 2) := by decide +kernel
theorem dX11_writeWord_165 : decode cX11_writeWord 165 = .ok (.iastore, 1) := by decide +kernel
theorem dX11_writeWord_166 : decode cX11_writeWord 166 = .ok (.aload_n 0, 1) := by decide +kernel
theorem dX11_writeWord_167 : decode cX11_writeWord 167 = .ok (.getfield 36, 3) := by decide +kernel
theorem dX11_writeWord_170 : decode cX11_writeWord 170 = .ok (.iconst 4, 1) := by decide +kernel
theorem dX11_writeWord_171 : decode cX11_writeWord 171 = .ok (.iload 5, 2) := by decide +kernel
theorem dX11_writeWord_173 : decode cX11_writeWord 173 = .ok (.imul, 1) := by decide +kernel
theorem dX11_writeWord_174 : decode cX11_writeWord 174 = .ok (.iload 9, 2) := by decide +kernel
theorem dX11_writeWord_176 : decode cX11_writeWord 176 = .ok (.iadd, 1) := by decide +kernel
theorem dX11_writeWord_177 : decode cX11_writeWord 177 = .ok (.iaload, 1) := by decide +kernel
theorem dX11_writeWord_178 : decode cX11_writeWord 178 = .ok (.istore 5, 2) := by decide +kernel
theorem dX11_writeWord_180 : decode cX11_writeWord 180 = .ok (.iinc 8 1, 3) := by decide +kernel
theorem dX11_writeWord_183 : decode cX11_writeWord 183 = .ok (.goto (-113), 3) := by decide +kernel
theorem dX11_writeWord_186 : decode cX11_writeWord 186 = .ok (.aload_n 0, 1) := by decide +kernel
theorem dX11_writeWord_187 : decode cX11_writeWord 187 = .ok (.iload_n 2, 1) := by decide +kernel
theorem dX11_writeWord_188 : decode cX11_writeWord 188 = .ok (.putfield 167, 3) := by decide +kernel
theorem dX11_writeWord_191 : decode cX11_writeWord 191 = .ok (.aload_n 0, 1) := by decide +kernel
theorem dX11_writeWord_192 : decode cX11_writeWord 192 = .ok (.invokevirtual 214, 3) := by decide +kernel
theorem dX11_writeWord_195 : decode cX11_writeWord 195 = .ok (.ireturn, 1) := by decide +kernel
theorem dX11_spell_0 : decode cX11_spell 0 = .ok (.aload_n 0, 1) := by decide +kernel
theorem dX11_spell_1 : decode cX11_spell 1 = .ok (.iload_n 1, 1) := by decide +kernel
theorem dX11_spell_2 : decode cX11_spell 2 = .ok (.putfield 167, 3) := by decide +kernel
theorem dX11_spell_5 : decode cX11_spell 5 = .ok (.iconst 0, 1) := by decide +kernel
theorem dX11_spell_6 : decode cX11_spell 6 = .ok (.istore_n 3, 1) := by decide +kernel
theorem dX11_spell_7 : decode cX11_spell 7 = .ok (.iload_n 3, 1) := by decide +kernel
theorem dX11_spell_8 : decode cX11_spell 8 = .ok (.iload_n 1, 1) := by decide +kernel
theorem dX11_spell_9 : decode cX11_spell 9 = .ok (.if_icmp .ge 26, 3) := by decide +kernel
theorem dX11_spell_12 : decode cX11_spell 12 = .ok (.aload_n 0, 1) := by decide +kernel
theorem dX11_spell_13 : decode cX11_spell 13 = .ok (.getfield 33, 3) := by decide +kernel
theorem dX11_spell_16 : decode cX11_spell 16 = .ok (.iload_n 3, 1) := by decide +kernel
theorem dX11_spell_17 : decode cX11_spell 17 = .ok (.iload_n 2, 1) := by decide +kernel
theorem dX11_spell_18 : decode cX11_spell 18 = .ok (.iconst 2, 1) := by decide +kernel
theorem dX11_spell_19 : decode cX11_spell 19 = .ok (.iload_n 1, 1) := by decide +kernel
theorem dX11_spell_20 : decode cX11_spell 20 = .ok (.iconst 1, 1) := by decide +kernel
theorem dX11_spell_21 : decode cX11_spell 21 = .ok (.isub, 1) := by decide +kernel
theorem dX11_spell_22 : decode cX11_spell 22 = .ok (.iload_n 3, 1) := by decide +kernel
theorem dX11_spell_23 : decode cX11_spell 23 = .ok (.isub, 1) := by decide +kernel
theorem dX11_spell_24 : decode cX11_spell 24 = .ok (.imul, 1) := by decide +kernel
theorem dX11_spell_25 : decode cX11_spell 25 = .ok (.ishr, 1) := by decide +kernel
theorem dX11_spell_26 : decode cX11_spell 26 = .ok (.iconst 3, 1) := by decide +kernel
theorem dX11_spell_27 : decode cX11_spell 27 = .ok (.iand, 1) := by decide +kernel
theorem dX11_spell_28 : decode cX11_spell 28 = .ok (.iastore, 1) := by decide +kernel
theorem dX11_spell_29 : decode cX11_spell 29 = .ok (.iinc 3 1, 3) := by decide +kernel
theorem dX11_spell_32 : decode cX11_spell 32 = .ok (.goto (-25), 3) := by decide +kernel
theorem dX11_spell_35 : decode cX11_spell 35 = .ok (.return_, 1) := by decide +kernel
theorem dX11_isForbidden_0 : decode cX11_isForbidden 0 = .ok (.aload_n 0, 1) := by decide +kernel
theorem dX11_isForbidden_1 : decode cX11_isForbidden 1 = .ok (.aload_n 0, 1) := by decide +kernel
theorem dX11_isForbidden_2 : decode cX11_isForbidden 2 = .ok (.getfield 193, 3) := by decide +kernel
theorem dX11_isForbidden_5 : decode cX11_isForbidden 5 = .ok (.iconst 0, 1) := by decide +kernel
theorem dX11_isForbidden_6 : decode cX11_isForbidden 6 = .ok (.aload_n 0, 1) := by decide +kernel
theorem dX11_isForbidden_7 : decode cX11_isForbidden 7 = .ok (.getfield 167, 3) := by decide +kernel
theorem dX11_isForbidden_10 : decode cX11_isForbidden 10 = .ok (.invokevirtual 211, 3) := by decide +kernel
theorem dX11_isForbidden_13 : decode cX11_isForbidden 13 = .ok (.ifCond .ne 41, 3) := by decide +kernel
theorem dX11_isForbidden_16 : decode cX11_isForbidden 16 = .ok (.aload_n 0, 1) := by decide +kernel
theorem dX11_isForbidden_17 : decode cX11_isForbidden 17 = .ok (.aload_n 0, 1) := by decide +kernel
theorem dX11_isForbidden_18 : decode cX11_isForbidden 18 = .ok (.getfield 193, 3) := by decide +kernel
theorem dX11_isForbidden_21 : decode cX11_isForbidden 21 = .ok (.iconst 1, 1) := by decide +kernel
theorem dX11_isForbidden_22 : decode cX11_isForbidden 22 = .ok (.aload_n 0, 1) := by decide +kernel
theorem dX11_isForbidden_23 : decode cX11_isForbidden 23 = .ok (.getfield 167, 3) := by decide +kernel
theorem dX11_isForbidden_26 : decode cX11_isForbidden 26 = .ok (.invokevirtual 211, 3) := by decide +kernel
theorem dX11_isForbidden_29 : decode cX11_isForbidden 29 = .ok (.ifCond .eq 25, 3) := by decide +kernel
theorem dX11_isForbidden_32 : decode cX11_isForbidden 32 = .ok (.aload_n 0, 1) := by decide +kernel
theorem dX11_isForbidden_33 : decode cX11_isForbidden 33 = .ok (.aload_n 0, 1) := by decide +kernel
theorem dX11_isForbidden_34 : decode cX11_isForbidden 34 = .ok (.getfield 193, 3) := by decide +kernel
theorem dX11_isForbidden_37 : decode cX11_isForbidden 37 = .ok (.iconst 0, 1) := by decide +kernel
theorem dX11_isForbidden_38 : decode cX11_isForbidden 38 = .ok (.aload_n 0, 1) := by decide +kernel
theorem dX11_isForbidden_39 : decode cX11_isForbidden 39 = .ok (.getfield 167, 3) := by decide +kernel
theorem dX11_isForbidden_42 : decode cX11_isForbidden 42 = .ok (.iconst 1, 1) := by decide +kernel
theorem dX11_isForbidden_43 : decode cX11_isForbidden 43 = .ok (.isub, 1) := by decide +kernel
theorem dX11_isForbidden_44 : decode cX11_isForbidden 44 = .ok (.invokevirtual 211, 3) := by decide +kernel
theorem dX11_isForbidden_47 : decode cX11_isForbidden 47 = .ok (.ifCond .eq 7, 3) := by decide +kernel
theorem dX11_isForbidden_50 : decode cX11_isForbidden 50 = .ok (.iconst 1, 1) := by decide +kernel
theorem dX11_isForbidden_51 : decode cX11_isForbidden 51 = .ok (.goto 4, 3) := by decide +kernel
theorem dX11_isForbidden_54 : decode cX11_isForbidden 54 = .ok (.iconst 0, 1) := by decide +kernel
theorem dX11_isForbidden_55 : decode cX11_isForbidden 55 = .ok (.ireturn, 1) := by decide +kernel
theorem dX11_forbidden_0 : decode cX11_forbidden 0 = .ok (.iload_n 1, 1) := by decide +kernel
theorem dX11_forbidden_1 : decode cX11_forbidden 1 = .ok (.invokestatic 135, 3) := by decide +kernel
theorem dX11_forbidden_4 : decode cX11_forbidden 4 = .ok (.ifCond .eq 13, 3) := by decide +kernel
theorem dX11_forbidden_7 : decode cX11_forbidden 7 = .ok (.iload_n 2, 1) := by decide +kernel
theorem dX11_forbidden_8 : decode cX11_forbidden 8 = .ok (.iconst 1, 1) := by decide +kernel
theorem dX11_forbidden_9 : decode cX11_forbidden 9 = .ok (.bipush 6, 2) := by decide +kernel
theorem dX11_forbidden_11 : decode cX11_forbidden 11 = .ok (.invokestatic 118, 3) := by decide +kernel
theorem dX11_forbidden_14 : decode cX11_forbidden 14 = .ok (.ifCond .ne 6, 3) := by decide +kernel
theorem dX11_forbidden_17 : decode cX11_forbidden 17 = .ok (.bipush (-2), 2) := by decide +kernel
theorem dX11_forbidden_19 : decode cX11_forbidden 19 = .ok (.ireturn, 1) := by decide +kernel
theorem dX11_forbidden_20 : decode cX11_forbidden 20 = .ok (.aload_n 0, 1) := by decide +kernel
theorem dX11_forbidden_21 : decode cX11_forbidden 21 = .ok (.iload_n 1, 1) := by decide +kernel
theorem dX11_forbidden_22 : decode cX11_forbidden 22 = .ok (.invokevirtual 201, 3) := by decide +kernel
theorem dX11_forbidden_25 : decode cX11_forbidden 25 = .ok (.iconst 0, 1) := by decide +kernel
theorem dX11_forbidden_26 : decode cX11_forbidden 26 = .ok (.istore_n 3, 1) := by decide +kernel
theorem dX11_forbidden_27 : decode cX11_forbidden 27 = .ok (.iconst 0, 1) := by decide +kernel
theorem dX11_forbidden_28 : decode cX11_forbidden 28 = .ok (.istore 4, 2) := by decide +kernel
theorem dX11_forbidden_30 : decode cX11_forbidden 30 = .ok (.iload 4, 2) := by decide +kernel
theorem dX11_forbidden_32 : decode cX11_forbidden 32 = .ok (.iconst 1, 1) := by decide +kernel
theorem dX11_forbidden_33 : decode cX11_forbidden 33 = .ok (.iconst 2, 1) := by decide +kernel
theorem dX11_forbidden_34 : decode cX11_forbidden 34 = .ok (.iload_n 2, 1) := by decide +kernel
theorem dX11_forbidden_35 : decode cX11_forbidden 35 = .ok (.imul, 1) := by decide +kernel
theorem dX11_forbidden_36 : decode cX11_forbidden 36 = .ok (.ishl, 1) := by decide +kernel
theorem dX11_forbidden_37 : decode cX11_forbidden 37 = .ok (.if_icmp .ge 31, 3) := by decide +kernel
theorem dX11_forbidden_40 : decode cX11_forbidden 40 = .ok (.aload_n 0, 1) := by decide +kernel
theorem dX11_forbidden_41 : decode cX11_forbidden 41 = .ok (.iload_n 2, 1) := by decide +kernel
theorem dX11_forbidden_42 : decode cX11_forbidden 42 = .ok (.iload 4, 2) := by decide +kernel
theorem dX11_forbidden_44 : decode cX11_forbidden 44 = .ok (.invokevirtual 217, 3) := by decide +kernel
theorem dX11_forbidden_47 : decode cX11_forbidden 47 = .ok (.iload_n 3, 1) := by decide +kernel
theorem dX11_forbidden_48 : decode cX11_forbidden 48 = .ok (.aload_n 0, 1) := by decide +kernel
theorem dX11_forbidden_49 : decode cX11_forbidden 49 = .ok (.invokevirtual 221, 3) := by decide +kernel
theorem dX11_forbidden_52 : decode cX11_forbidden 52 = .ok (.ifCond .eq 7, 3) := by decide +kernel
theorem dX11_forbidden_55 : decode cX11_forbidden 55 = .ok (.iconst 1, 1) := by decide +kernel
theorem dX11_forbidden_56 : decode cX11_forbidden 56 = .ok (.goto 4, 3) := by decide +kernel
theorem dX11_forbidden_59 : decode cX11_forbidden 59 = .ok (.iconst 0, 1) := by decide +kernel
theorem dX11_forbidden_60 : decode cX11_forbidden 60 = .ok (.iadd, 1) := by decide +kernel
theorem dX11_forbidden_61 : decode cX11_forbidden 61 = .ok (.istore_n 3, 1) := by decide +kernel
theorem dX11_forbidden_62 : decode cX11_forbidden 62 = .ok (.iinc 4 1, 3) := by decide +kernel
theorem dX11_forbidden_65 : decode cX11_forbidden 65 = .ok (.goto (-35), 3) := by decide +kernel
theorem dX11_forbidden_68 : decode cX11_forbidden 68 = .ok (.iload_n 3, 1) := by decide +kernel
theorem dX11_forbidden_69 : decode cX11_forbidden 69 = .ok (.ireturn, 1) := by decide +kernel
theorem dX11_writeForbidden_0 : decode cX11_writeForbidden 0 = .ok (.iload_n 1, 1) := by decide +kernel
theorem dX11_writeForbidden_1 : decode cX11_writeForbidden 1 = .ok (.invokestatic 135, 3) := by decide +kernel
theorem dX11_writeForbidden_4 : decode cX11_writeForbidden 4 = .ok (.ifCond .eq 13, 3) := by decide +kernel
theorem dX11_writeForbidden_7 : decode cX11_writeForbidden 7 = .ok (.iload_n 2, 1) := by decide +kernel
theorem dX11_writeForbidden_8 : decode cX11_writeForbidden 8 = .ok (.iconst 1, 1) := by decide +kernel
theorem dX11_writeForbidden_9 : decode cX11_writeForbidden 9 = .ok (.bipush 6, 2) := by decide +kernel
theorem dX11_writeForbidden_11 : decode cX11_writeForbidden 11 = .ok (.invokestatic 118, 3) := by decide +kernel
theorem dX11_writeForbidden_14 : decode cX11_writeForbidden 14 = .ok (.ifCond .ne 6, 3) := by decide +kernel
theorem dX11_writeForbidden_17 : decode cX11_writeForbidden 17 = .ok (.bipush (-2), 2) := by decide +kernel
theorem dX11_writeForbidden_19 : decode cX11_writeForbidden 19 = .ok (.ireturn, 1) := by decide +kernel
theorem dX11_writeForbidden_20 : decode cX11_writeForbidden 20 = .ok (.aload_n 0, 1) := by decide +kernel
theorem dX11_writeForbidden_21 : decode cX11_writeForbidden 21 = .ok (.iload_n 1, 1) := by decide +kernel
theorem dX11_writeForbidden_22 : decode cX11_writeForbidden 22 = .ok (.invokevirtual 201, 3) := by decide +kernel
theorem dX11_writeForbidden_25 : decode cX11_writeForbidden 25 = .ok (.iload_n 3, 1) := by decide +kernel
theorem dX11_writeForbidden_26 : decode cX11_writeForbidden 26 = .ok (.istore 4, 2) := by decide +kernel
theorem dX11_writeForbidden_28 : decode cX11_writeForbidden 28 = .ok (.iconst 0, 1) := by decide +kernel
theorem dX11_writeForbidden_29 : decode cX11_writeForbidden 29 = .ok (.istore 5, 2) := by decide +kernel
theorem dX11_writeForbidden_31 : decode cX11_writeForbidden 31 = .ok (.iload 5, 2) := by decide +kernel
theorem dX11_writeForbidden_33 : decode cX11_writeForbidden 33 = .ok (.iconst 1, 1) := by decide +kernel
theorem dX11_writeForbidden_34 : decode cX11_writeForbidden 34 = .ok (.iconst 2, 1) := by decide +kernel
theorem dX11_writeForbidden_35 : decode cX11_writeForbidden 35 = .ok (.iload_n 2, 1) := by decide +kernel
theorem dX11_writeForbidden_36 : decode cX11_writeForbidden 36 = .ok (.imul, 1) := by decide +kernel
theorem dX11_writeForbidden_37 : decode cX11_writeForbidden 37 = .ok (.ishl, 1) := by decide +kernel
theorem dX11_writeForbidden_38 : decode cX11_writeForbidden 38 = .ok (.if_icmp .ge 41, 3) := by decide +kernel
theorem dX11_writeForbidden_41 : decode cX11_writeForbidden 41 = .ok (.iload 4, 2) := by decide +kernel
theorem dX11_writeForbidden_43 : decode cX11_writeForbidden 43 = .ok (.ifCond .lt 36, 3) := by decide +kernel
theorem dX11_writeForbidden_46 : decode cX11_writeForbidden 46 = .ok (.aload_n 0, 1) := by decide +kernel
theorem dX11_writeForbidden_47 : decode cX11_writeForbidden 47 = .ok (.iload_n 2, 1) := by decide +kernel
theorem dX11_writeForbidden_48 : decode cX11_writeForbidden 48 = .ok (.iload 5, 2) := by decide +kernel
theorem dX11_writeForbidden_50 : decode cX11_writeForbidden 50 = .ok (.invokevirtual 217, 3) := by decide +kernel
theorem dX11_writeForbidden_53 : decode cX11_writeForbidden 53 = .ok (.aload_n 0, 1) := by decide +kernel
theorem dX11_writeForbidden_54 : decode cX11_writeForbidden 54 = .ok (.invokevirtual 221, 3) := by decide +kernel
theorem dX11_writeForbidden_57 : decode cX11_writeForbidden 57 = .ok (.ifCond .eq 16, 3) := by decide +kernel
theorem dX11_writeForbidden_60 : decode cX11_writeForbidden 60 = .ok (.iload 4, 2) := by decide +kernel
theorem dX11_writeForbidden_62 : decode cX11_writeForbidden 62 = .ok (.ifCond .ne 8, 3) := by decide +kernel
theorem dX11_writeForbidden_65 : decode cX11_writeForbidden 65 = .ok (.aload_n 0, 1) := by decide +kernel
theorem dX11_writeForbidden_66 : decode cX11_writeForbidden 66 = .ok (.invokevirtual 214, 3) := by decide +kernel
theorem dX11_writeForbidden_69 : decode cX11_writeForbidden 69 = .ok (.ireturn, 1) := by decide +kernel
theorem dX11_writeForbidden_70 : decode cX11_writeForbidden 70 = .ok (.iinc 4 (-1), 3) := by decide +kernel
theorem dX11_writeForbidden_73 : decode cX11_writeForbidden 73 = .ok (.iinc 5 1, 3) := by decide +kernel
theorem dX11_writeForbidden_76 : decode cX11_writeForbidden 76 = .ok (.goto (-45), 3) := by decide +kernel
theorem dX11_writeForbidden_79 : decode cX11_writeForbidden 79 = .ok (.iconst (-1), 1) := by decide +kernel
theorem dX11_writeForbidden_80 : decode cX11_writeForbidden 80 = .ok (.ireturn, 1) := by decide +kernel
theorem dX11_isPeriodic_0 : decode cX11_isPeriodic 0 = .ok (.aload_n 0, 1) := by decide +kernel
theorem dX11_isPeriodic_1 : decode cX11_isPeriodic 1 = .ok (.getfield 193, 3) := by decide +kernel
theorem dX11_isPeriodic_4 : decode cX11_isPeriodic 4 = .ok (.istore_n 1, 1) := by decide +kernel
theorem dX11_isPeriodic_5 : decode cX11_isPeriodic 5 = .ok (.aload_n 0, 1) := by decide +kernel
theorem dX11_isPeriodic_6 : decode cX11_isPeriodic 6 = .ok (.iload_n 1, 1) := by decide +kernel
theorem dX11_isPeriodic_7 : decode cX11_isPeriodic 7 = .ok (.iconst 0, 1) := by decide +kernel
theorem dX11_isPeriodic_8 : decode cX11_isPeriodic 8 = .ok (.aload_n 0, 1) := by decide +kernel
theorem dX11_isPeriodic_9 : decode cX11_isPeriodic 9 = .ok (.getfield 167, 3) := by decide +kernel
theorem dX11_isPeriodic_12 : decode cX11_isPeriodic 12 = .ok (.invokevirtual 211, 3) := by decide +kernel
theorem dX11_isPeriodic_15 : decode cX11_isPeriodic 15 = .ok (.istore_n 2, 1) := by decide +kernel
theorem dX11_isPeriodic_16 : decode cX11_isPeriodic 16 = .ok (.iload_n 2, 1) := by decide +kernel
theorem dX11_isPeriodic_17 : decode cX11_isPeriodic 17 = .ok (.iload_n 1, 1) := by decide +kernel
theorem dX11_isPeriodic_18 : decode cX11_isPeriodic 18 = .ok (.if_icmp .eq 19, 3) := by decide +kernel
theorem dX11_isPeriodic_21 : decode cX11_isPeriodic 21 = .ok (.iload_n 2, 1) := by decide +kernel
theorem dX11_isPeriodic_22 : decode cX11_isPeriodic 22 = .ok (.istore_n 1, 1) := by decide +kernel
theorem dX11_isPeriodic_23 : decode cX11_isPeriodic 23 = .ok (.aload_n 0, 1) := by decide +kernel
theorem dX11_isPeriodic_24 : decode cX11_isPeriodic 24 = .ok (.iload_n 1, 1) := by decide +kernel
theorem dX11_isPeriodic_25 : decode cX11_isPeriodic 25 = .ok (.iconst 0, 1) := by decide +kernel
theorem dX11_isPeriodic_26 : decode cX11_isPeriodic 26 = .ok (.aload_n 0, 1) := by decide +kernel
theorem dX11_isPeriodic_27 : decode cX11_isPeriodic 27 = .ok (.getfield 167, 3) := by decide +kernel
theorem dX11_isPeriodic_30 : decode cX11_isPeriodic 30 = .ok (.invokevirtual 211, 3) := by decide +kernel
theorem dX11_isPeriodic_33 : decode cX11_isPeriodic 33 = .ok (.istore_n 2, 1) := by decide +kernel
theorem dX11_isPeriodic_34 : decode cX11_isPeriodic 34 = .ok (.goto (-18), 3) := by decide +kernel
theorem dX11_isPeriodic_37 : decode cX11_isPeriodic 37 = .ok (.iload_n 1, 1) := by decide +kernel
theorem dX11_isPeriodic_38 : decode cX11_isPeriodic 38 = .ok (.ifCond .eq 7, 3) := by decide +kernel
theorem dX11_isPeriodic_41 : decode cX11_isPeriodic 41 = .ok (.iconst 1, 1) := by decide +kernel
theorem dX11_isPeriodic_42 : decode cX11_isPeriodic 42 = .ok (.goto 4, 3) := by decide +kernel
theorem dX11_isPeriodic_45 : decode cX11_isPeriodic 45 = .ok (.iconst 0, 1) := by decide +kernel
theorem dX11_isPeriodic_46 : decode cX11_isPeriodic 46 = .ok (.ireturn, 1) := by decide +kernel
theorem dX11_isPrimitive_0 : decode cX11_isPrimitive 0 = .ok (.iconst 1, 1) := by decide +kernel
theorem dX11_isPrimitive_1 : decode cX11_isPrimitive 1 = .ok (.istore_n 1, 1) := by decide +kernel
theorem dX11_isPrimitive_2 : decode cX11_isPrimitive 2 = .ok (.iload_n 1, 1) := by decide +kernel
theorem dX11_isPrimitive_3 : decode cX11_isPrimitive 3 = .ok (.aload_n 0, 1) := by decide +kernel
theorem dX11_isPrimitive_4 : decode cX11_isPrimitive 4 = .ok (.getfield 167, 3) := by decide +kernel
theorem dX11_isPrimitive_7 : decode cX11_isPrimitive 7 = .ok (.if_icmp .ge 73, 3) := by decide +kernel
theorem dX11_isPrimitive_10 : decode cX11_isPrimitive 10 = .ok (.aload_n 0, 1) := by decide +kernel
theorem dX11_isPrimitive_11 : decode cX11_isPrimitive 11 = .ok (.getfield 167, 3) := by decide +kernel
theorem dX11_isPrimitive_14 : decode cX11_isPrimitive 14 = .ok (.iload_n 1, 1) := by decide +kernel
theorem dX11_isPrimitive_15 : decode cX11_isPrimitive 15 = .ok (.irem, 1) := by decide +kernel
theorem dX11_isPrimitive_16 : decode cX11_isPrimitive 16 = .ok (.ifCond .ne 7, 3) := by decide +kernel
theorem dX11_isPrimitive_19 : decode cX11_isPrimitive 19 = .ok (.iconst 1, 1) := by decide +kernel
theorem dX11_isPrimitive_20 : decode cX11_isPrimitive 20 = .ok (.goto 4, 3) := by decide +kernel
theorem dX11_isPrimitive_23 : decode cX11_isPrimitive 23 = .ok (.iconst 0, 1) := by decide +kernel
theorem dX11_isPrimitive_24 : decode cX11_isPrimitive 24 = .ok (.istore_n 2, 1) := by decide +kernel
theorem dX11_isPrimitive_25 : decode cX11_isPrimitive 25 = .ok (.iload_n 1, 1) := by decide +kernel
theorem dX11_isPrimitive_26 : decode cX11_isPrimitive 26 = .ok (.istore_n 3, 1) := by decide +kernel
theorem dX11_isPrimitive_27 : decode cX11_isPrimitive 27 = .ok (.iload_n 3, 1) := by decide +kernel
theorem dX11_isPrimitive_28 : decode cX11_isPrimitive 28 = .ok (.aload_n 0, 1) := by decide +kernel
theorem dX11_isPrimitive_29 : decode cX11_isPrimitive 29 = .ok (.getfield 167, 3) := by decide +kernel
theorem dX11_isPrimitive_32 : decode cX11_isPrimitive 32 = .ok (.if_icmp .ge 36, 3) := by decide +kernel
theorem dX11_isPrimitive_35 : decode cX11_isPrimitive 35 = .ok (.iload_n 2, 1) := by decide +kernel
theorem dX11_isPrimitive_36 : decode cX11_isPrimitive 36 = .ok (.ifCond .eq 24, 3) := by decide +kernel
theorem dX11_isPrimitive_39 : decode cX11_isPrimitive 39 = .ok (.aload_n 0, 1) := by decide +kernel
theorem dX11_isPrimitive_40 : decode cX11_isPrimitive 40 = .ok (.getfield 33, 3) := by decide +kernel
theorem dX11_isPrimitive_43 : decode cX11_isPrimitive 43 = .ok (.iload_n 3, 1) := by decide +kernel
theorem dX11_isPrimitive_44 : decode cX11_isPrimitive 44 = .ok (.iaload, 1) := by decide +kernel
theorem dX11_isPrimitive_45 : decode cX11_isPrimitive 45 = .ok (.aload_n 0, 1) := by decide +kernel
theorem dX11_isPrimitive_46 : decode cX11_isPrimitive 46 = .ok (.getfield 33, 3) := by decide +kernel
theorem dX11_isPrimitive_49 : decode cX11_isPrimitive 49 = .ok (.iload_n 3, 1) := by decide +kernel
theorem dX11_isPrimitive_50 : decode cX11_isPrimitive 50 = .ok (.iload_n 1, 1) := by decide +kernel
theorem dX11_isPrimitive_51 : decode cX11_isPrimitive 51 = .ok (.isub, 1) := by decide +kernel
theorem dX11_isPrimitive_52 : decode cX11_isPrimitive 52 = .ok (.iaload, 1) := by decide +kernel
theorem dX11_isPrimitive_53 : decode cX11_isPrimitive 53 = .ok (.if_icmp .ne 7, 3) := by decide +kernel
theorem dX11_isPrimitive_56 : decode cX11_isPrimitive 56 = .ok (.iconst 1, 1) := by decide +kernel
theorem dX11_isPrimitive_57 : decode cX11_isPrimitive 57 = .ok (.goto 4, 3) := by decide +kernel
theorem dX11_isPrimitive_60 : decode cX11_isPrimitive 60 = .ok (.iconst 0, 1) := by decide +kernel
theorem dX11_isPrimitive_61 : decode cX11_isPrimitive 61 = .ok (.istore_n 2, 1) := by decide +kernel
theorem dX11_isPrimitive_62 : decode cX11_isPrimitive 62 = .ok (.iinc 3 1, 3) := by decide +kernel
theorem dX11_isPrimitive_65 : decode cX11_isPrimitive 65 = .ok (.goto (-38), 3) := by decide +kernel
theorem dX11_isPrimitive_68 : decode cX11_isPrimitive 68 = .ok (.iload_n 2, 1) := by decide +kernel
theorem dX11_isPrimitive_69 : decode cX11_isPrimitive 69 = .ok (.ifCond .eq 5, 3) := by decide +kernel
theorem dX11_isPrimitive_72 : decode cX11_isPrimitive 72 = .ok (.iconst 0, 1) := by decide +kernel
theorem dX11_isPrimitive_73 : decode cX11_isPrimitive 73 = .ok (.ireturn, 1) := by decide +kernel
theorem dX11_isPrimitive_74 : decode cX11_isPrimitive 74 = .ok (.iinc 1 1, 3) := by decide +kernel
theorem dX11_isPrimitive_77 : decode cX11_isPrimitive 77 = .ok (.goto (-75), 3) := by decide +kernel
theorem dX11_isPrimitive_80 : decode cX11_isPrimitive 80 = .ok (.iconst 1, 1) := by decide +kernel
theorem dX11_isPrimitive_81 : decode cX11_isPrimitive 81 = .ok (.ireturn, 1) := by decide +kernel
theorem dX11_countPeriodic_0 : decode cX11_countPeriodic 0 = .ok (.aload_n 0, 1) := by decide +kernel
theorem dX11_countPeriodic_1 : decode cX11_countPeriodic 1 = .ok (.iload_n 1, 1) := by decide +kernel
theorem dX11_countPeriodic_2 : decode cX11_countPeriodic 2 = .ok (.invokevirtual 201, 3) := by decide +kernel
theorem dX11_countPeriodic_5 : decode cX11_countPeriodic 5 = .ok (.iconst 0, 1) := by decide +kernel
theorem dX11_countPeriodic_6 : decode cX11_countPeriodic 6 = .ok (.istore 4, 2) := by decide +kernel
theorem dX11_countPeriodic_8 : decode cX11_countPeriodic 8 = .ok (.iconst 0, 1) := by decide +kernel
theorem dX11_countPeriodic_9 : decode cX11_countPeriodic 9 = .ok (.istore 5, 2) := by decide +kernel
theorem dX11_countPeriodic_11 : decode cX11_countPeriodic 11 = .ok (.iload 5, 2) := by decide +kernel
theorem dX11_countPeriodic_13 : decode cX11_countPeriodic 13 = .ok (.iconst 1, 1) := by decide +kernel
theorem dX11_countPeriodic_14 : decode cX11_countPeriodic 14 = .ok (.iconst 2, 1) := by decide +kernel
theorem dX11_countPeriodic_15 : decode cX11_countPeriodic 15 = .ok (.iload_n 2, 1) := by decide +kernel
theorem dX11_countPeriodic_16 : decode cX11_countPeriodic 16 = .ok (.imul, 1) := by decide +kernel
theorem dX11_countPeriodic_17 : decode cX11_countPeriodic 17 = .ok (.ishl, 1) := by decide +kernel
theorem dX11_countPeriodic_18 : decode cX11_countPeriodic 18 = .ok (.if_icmp .ge 44, 3) := by decide +kernel
theorem dX11_countPeriodic_21 : decode cX11_countPeriodic 21 = .ok (.aload_n 0, 1) := by decide +kernel
theorem dX11_countPeriodic_22 : decode cX11_countPeriodic 22 = .ok (.iload_n 2, 1) := by decide +kernel
theorem dX11_countPeriodic_23 : decode cX11_countPeriodic 23 = .ok (.iload 5, 2) := by decide +kernel
theorem dX11_countPeriodic_25 : decode cX11_countPeriodic 25 = .ok (.invokevirtual 217, 3) := by decide +kernel
theorem dX11_countPeriodic_28 : decode cX11_countPeriodic 28 = .ok (.iload 4, 2) := by decide +kernel
theorem dX11_countPeriodic_30 : decode cX11_countPeriodic 30 = .ok (.iload_n 3, 1) := by decide +kernel
theorem dX11_countPeriodic_31 : decode cX11_countPeriodic 31 = .ok (.ifCond .eq 10, 3) := by decide +kernel
theorem dX11_countPeriodic_34 : decode cX11_countPeriodic 34 = .ok (.aload_n 0, 1) := by decide +kernel
theorem dX11_countPeriodic_35 : decode cX11_countPeriodic 35 = .ok (.invokevirtual 225, 3) := by decide +kernel
theorem dX11_countPeriodic_38 : decode cX11_countPeriodic 38 = .ok (.ifCond .eq 14, 3) := by decide +kernel
theorem dX11_countPeriodic_41 : decode cX11_countPeriodic 41 = .ok (.aload_n 0, 1) := by decide +kernel
theorem dX11_countPeriodic_42 : decode cX11_countPeriodic 42 = .ok (.invokevirtual 228, 3) := by decide +kernel
theorem dX11_countPeriodic_45 : decode cX11_countPeriodic 45 = .ok (.ifCond .eq 7, 3) := by decide +kernel
theorem dX11_countPeriodic_48 : decode cX11_countPeriodic 48 = .ok (.iconst 1, 1) := by decide +kernel
theorem dX11_countPeriodic_49 : decode cX11_countPeriodic 49 = .ok (.goto 4, 3) := by decide +kernel
theorem dX11_countPeriodic_52 : decode cX11_countPeriodic 52 = .ok (.iconst 0, 1) := by decide +kernel
theorem dX11_countPeriodic_53 : decode cX11_countPeriodic 53 = .ok (.iadd, 1) := by decide +kernel
theorem dX11_countPeriodic_54 : decode cX11_countPeriodic 54 = .ok (.istore 4, 2) := by decide +kernel
theorem dX11_countPeriodic_56 : decode cX11_countPeriodic 56 = .ok (.iinc 5 1, 3) := by decide +kernel
theorem dX11_countPeriodic_59 : decode cX11_countPeriodic 59 = .ok (.goto (-48), 3) := by decide +kernel
theorem dX11_countPeriodic_62 : decode cX11_countPeriodic 62 = .ok (.iload 4, 2) := by decide +kernel
theorem dX11_countPeriodic_64 : decode cX11_countPeriodic 64 = .ok (.ireturn, 1) := by decide +kernel
theorem dX11_periodic_0 : decode cX11_periodic 0 = .ok (.iload_n 1, 1) := by decide +kernel
theorem dX11_periodic_1 : decode cX11_periodic 1 = .ok (.invokestatic 135, 3) := by decide +kernel
theorem dX11_periodic_4 : decode cX11_periodic 4 = .ok (.ifCond .eq 23, 3) := by decide +kernel
theorem dX11_periodic_7 : decode cX11_periodic 7 = .ok (.iload_n 2, 1) := by decide +kernel
theorem dX11_periodic_8 : decode cX11_periodic 8 = .ok (.iconst 1, 1) := by decide +kernel
theorem dX11_periodic_9 : decode cX11_periodic 9 = .ok (.bipush 7, 2) := by decide +kernel
theorem dX11_periodic_11 : decode cX11_periodic 11 = .ok (.invokestatic 118, 3) := by decide +kernel
theorem dX11_periodic_14 : decode cX11_periodic 14 = .ok (.ifCond .eq 13, 3) := by decide +kernel
theorem dX11_periodic_17 : decode cX11_periodic 17 = .ok (.aload_n 0, 1) := by decide +kernel
theorem dX11_periodic_18 : decode cX11_periodic 18 = .ok (.iload_n 1, 1) := by decide +kernel
theorem dX11_periodic_19 : decode cX11_periodic 19 = .ok (.iload_n 2, 1) := by decide +kernel
theorem dX11_periodic_20 : decode cX11_periodic 20 = .ok (.iconst 0, 1) := by decide +kernel
theorem dX11_periodic_21 : decode cX11_periodic 21 = .ok (.invokevirtual 231, 3) := by decide +kernel
theorem dX11_periodic_24 : decode cX11_periodic 24 = .ok (.goto 5, 3) := by decide +kernel
theorem dX11_periodic_27 : decode cX11_periodic 27 = .ok (.bipush (-2), 2) := by decide +kernel
theorem dX11_periodic_29 : decode cX11_periodic 29 = .ok (.ireturn, 1) := by decide +kernel
theorem dX11_orbits_0 : decode cX11_orbits 0 = .ok (.iload_n 1, 1) := by decide +kernel
theorem dX11_orbits_1 : decode cX11_orbits 1 = .ok (.invokestatic 135, 3) := by decide +kernel
theorem dX11_orbits_4 : decode cX11_orbits 4 = .ok (.ifCond .eq 25, 3) := by decide +kernel
theorem dX11_orbits_7 : decode cX11_orbits 7 = .ok (.iload_n 2, 1) := by decide +kernel
theorem dX11_orbits_8 : decode cX11_orbits 8 = .ok (.iconst 1, 1) := by decide +kernel
theorem dX11_orbits_9 : decode cX11_orbits 9 = .ok (.bipush 7, 2) := by decide +kernel
theorem dX11_orbits_11 : decode cX11_orbits 11 = .ok (.invokestatic 118, 3) := by decide +kernel
theorem dX11_orbits_14 : decode cX11_orbits 14 = .ok (.ifCond .eq 15, 3) := by decide +kernel
theorem dX11_orbits_17 : decode cX11_orbits 17 = .ok (.aload_n 0, 1) := by decide +kernel
theorem dX11_orbits_18 : decode cX11_orbits 18 = .ok (.iload_n 1, 1) := by decide +kernel
theorem dX11_orbits_19 : decode cX11_orbits 19 = .ok (.iload_n 2, 1) := by decide +kernel
theorem dX11_orbits_20 : decode cX11_orbits 20 = .ok (.iconst 1, 1) := by decide +kernel
theorem dX11_orbits_21 : decode cX11_orbits 21 = .ok (.invokevirtual 231, 3) := by decide +kernel
theorem dX11_orbits_24 : decode cX11_orbits 24 = .ok (.iload_n 2, 1) := by decide +kernel
theorem dX11_orbits_25 : decode cX11_orbits 25 = .ok (.idiv, 1) := by decide +kernel
theorem dX11_orbits_26 : decode cX11_orbits 26 = .ok (.goto 5, 3) := by decide +kernel
theorem dX11_orbits_29 : decode cX11_orbits 29 = .ok (.bipush (-2), 2) := by decide +kernel
theorem dX11_orbits_31 : decode cX11_orbits 31 = .ok (.ireturn, 1) := by decide +kernel
theorem dX11_place_0 : decode cX11_place 0 = .ok (.aload_n 0, 1) := by decide +kernel
theorem dX11_place_1 : decode cX11_place 1 = .ok (.iconst 0, 1) := by decide +kernel
theorem dX11_place_2 : decode cX11_place 2 = .ok (.putfield 235, 3) := by decide +kernel
theorem dX11_place_5 : decode cX11_place 5 = .ok (.iconst 0, 1) := by decide +kernel
theorem dX11_place_6 : decode cX11_place 6 = .ok (.istore_n 3, 1) := by decide +kernel
theorem dX11_place_7 : decode cX11_place 7 = .ok (.iload_n 3, 1) := by decide +kernel
theorem dX11_place_8 : decode cX11_place 8 = .ok (.bipush 64, 2) := by decide +kernel
theorem dX11_place_10 : decode cX11_place 10 = .ok (.if_icmp .ge 39, 3) := by decide +kernel
theorem dX11_place_13 : decode cX11_place 13 = .ok (.lload_n 1, 1) := by decide +kernel
theorem dX11_place_14 : decode cX11_place 14 = .ok (.iload_n 3, 1) := by decide +kernel
theorem dX11_place_15 : decode cX11_place 15 = .ok (.lshr, 1) := by decide +kernel
theorem dX11_place_16 : decode cX11_place 16 = .ok (.lconst 1, 1) := by decide +kernel
theorem dX11_place_17 : decode cX11_place 17 = .ok (.land, 1) := by decide +kernel
theorem dX11_place_18 : decode cX11_place 18 = .ok (.lconst 1, 1) := by decide +kernel
theorem dX11_place_19 : decode cX11_place 19 = .ok (.lcmp, 1) := by decide +kernel
theorem dX11_place_20 : decode cX11_place 20 = .ok (.ifCond .ne 23, 3) := by decide +kernel
theorem dX11_place_23 : decode cX11_place 23 = .ok (.aload_n 0, 1) := by decide +kernel
theorem dX11_place_24 : decode cX11_place 24 = .ok (.getfield 43, 3) := by decide +kernel
theorem dX11_place_27 : decode cX11_place 27 = .ok (.aload_n 0, 1) := by decide +kernel
theorem dX11_place_28 : decode cX11_place 28 = .ok (.getfield 235, 3) := by decide +kernel
theorem dX11_place_31 : decode cX11_place 31 = .ok (.iload_n 3, 1) := by decide +kernel
theorem dX11_place_32 : decode cX11_place 32 = .ok (.iastore, 1) := by decide +kernel
theorem dX11_place_33 : decode cX11_place 33 = .ok (.aload_n 0, 1) := by decide +kernel
theorem dX11_place_34 : decode cX11_place 34 = .ok (.dup, 1) := by decide +kernel
theorem dX11_place_35 : decode cX11_place 35 = .ok (.getfield 235, 3) := by decide +kernel
theorem dX11_place_38 : decode cX11_place 38 = .ok (.iconst 1, 1) := by decide +kernel
theorem dX11_place_39 : decode cX11_place 39 = .ok (.iadd, 1) := by decide +kernel
theorem dX11_place_40 : decode cX11_place 40 = .ok (.putfield 235, 3) := by decide +kernel
theorem dX11_place_43 : decode cX11_place 43 = .ok (.iinc 3 1, 3) := by decide +kernel
theorem dX11_place_46 : decode cX11_place 46 = .ok (.goto (-39), 3) := by decide +kernel
theorem dX11_place_49 : decode cX11_place 49 = .ok (.return_, 1) := by decide +kernel
theorem dX11_fillMatrix_0 : decode cX11_fillMatrix 0 = .ok (.aload_n 0, 1) := by decide +kernel
theorem dX11_fillMatrix_1 : decode cX11_fillMatrix 1 = .ok (.aload_n 0, 1) := by decide +kernel
theorem dX11_fillMatrix_2 : decode cX11_fillMatrix 2 = .ok (.iload_n 1, 1) := by decide +kernel
theorem dX11_fillMatrix_3 : decode cX11_fillMatrix 3 = .ok (.invokevirtual 180, 3) := by decide +kernel
theorem dX11_fillMatrix_6 : decode cX11_fillMatrix 6 = .ok (.i2l, 1) := by decide +kernel
theorem dX11_fillMatrix_7 : decode cX11_fillMatrix 7 = .ok (.invokevirtual 238, 3) := by decide +kernel
theorem dX11_fillMatrix_10 : decode cX11_fillMatrix 10 = .ok (.iconst 0, 1) := by decide +kernel
theorem dX11_fillMatrix_11 : decode cX11_fillMatrix 11 = .ok (.istore_n 2, 1) := by decide +kernel
theorem dX11_fillMatrix_12 : decode cX11_fillMatrix 12 = .ok (.iload_n 2, 1) := by decide +kernel
theorem dX11_fillMatrix_13 : decode cX11_fillMatrix 13 = .ok (.aload_n 0, 1) := by decide +kernel
theorem dX11_fillMatrix_14 : decode cX11_fillMatrix 14 = .ok (.getfield 235, 3) := by decide +kernel
theorem dX11_fillMatrix_17 : decode cX11_fillMatrix 17 = .ok (.if_icmp .ge 96, 3) := by decide +kernel
theorem dX11_fillMatrix_20 : decode cX11_fillMatrix 20 = .ok (.iconst 0, 1) := by decide +kernel
theorem dX11_fillMatrix_21 : decode cX11_fillMatrix 21 = .ok (.istore_n 3, 1) := by decide +kernel
theorem dX11_fillMatrix_22 : decode cX11_fillMatrix 22 = .ok (.iload_n 3, 1) := by decide +kernel
theorem dX11_fillMatrix_23 : decode cX11_fillMatrix 23 = .ok (.aload_n 0, 1) := by decide +kernel
theorem dX11_fillMatrix_24 : decode cX11_fillMatrix 24 = .ok (.getfield 235, 3) := by decide +kernel
theorem dX11_fillMatrix_27 : decode cX11_fillMatrix 27 = .ok (.if_icmp .ge 80, 3) := by decide +kernel
theorem dX11_fillMatrix_30 : decode cX11_fillMatrix 30 = .ok (.iconst 0, 1) := by decide +kernel
theorem dX11_fillMatrix_31 : decode cX11_fillMatrix 31 = .ok (.istore 4, 2) := by decide +kernel
theorem dX11_fillMatrix_33 : decode cX11_fillMatrix 33 = .ok (.iconst 0, 1) := by decide +kernel
theorem dX11_fillMatrix_34 : decode cX11_fillMatrix 34 = .ok (.istore 5, 2) := by decide +kernel
theorem dX11_fillMatrix_36 : decode cX11_fillMatrix 36 = .ok (.iload 5, 2) := by decide +kernel
theorem dX11_fillMatrix_38 : decode cX11_fillMatrix 38 = .ok (.iconst 4, 1) := by decide +kernel
theorem dX11_fillMatrix_39 : decode cX11_fillMatrix 39 = .ok (.if_icmp .ge 36, 3) := by decide +kernel
theorem dX11_fillMatrix_42 : decode cX11_fillMatrix 42 = .ok (.iload 4, 2) := by decide +kernel
theorem dX11_fillMatrix_44 : decode cX11_fillMatrix 44 = .ok (.aload_n 0, 1) := by decide +kernel
theorem dX11_fillMatrix_45 : decode cX11_fillMatrix 45 = .ok (.iload_n 1, 1) := by decide +kernel
theorem dX11_fillMatrix_46 : decode cX11_fillMatrix 46 = .ok (.aload_n 0, 1) := by decide +kernel
theorem dX11_fillMatrix_47 : decode cX11_fillMatrix 47 = .ok (.getfield 43, 3) := by decide +kernel
theorem dX11_fillMatrix_50 : decode cX11_fillMatrix 50 = .ok (.iload_n 2, 1) := by decide +kernel
theorem dX11_fillMatrix_51 : decode cX11_fillMatrix 51 = .ok (.iaload, 1) := by decide +kernel
theorem dX11_fillMatrix_52 : decode cX11_fillMatrix 52 = .ok (.iload 5, 2) := by decide +kernel
theorem dX11_fillMatrix_54 : decode cX11_fillMatrix 54 = .ok (.invokevirtual 152, 3) := by decide +kernel
theorem dX11_fillMatrix_57 : decode cX11_fillMatrix 57 = .ok (.aload_n 0, 1) := by decide +kernel
theorem dX11_fillMatrix_58 : decode cX11_fillMatrix 58 = .ok (.getfield 43, 3) := by decide +kernel
theorem dX11_fillMatrix_61 : decode cX11_fillMatrix 61 = .ok (.iload_n 3, 1) := by decide +kernel
theorem dX11_fillMatrix_62 : decode cX11_fillMatrix 62 = .ok (.iaload, 1) := by decide +kernel
theorem dX11_fillMatrix_63 : decode cX11_fillMatrix 63 = .ok (.ishr, 1) := by decide +kernel
theorem dX11_fillMatrix_64 : decode cX11_fillMatrix 64 = .ok (.iconst 1, 1) := by decide +kernel
theorem dX11_fillMatrix_65 : decode cX11_fillMatrix 65 = .ok (.iand, 1) := by decide +kernel
theorem dX11_fillMatrix_66 : decode cX11_fillMatrix 66 = .ok (.iadd, 1) := by decide +kernel
theorem dX11_fillMatrix_67 : decode cX11_fillMatrix 67 = .ok (.istore 4, 2) := by decide +kernel
theorem dX11_fillMatrix_69 : decode cX11_fillMatrix 69 = .ok (.iinc 5 1, 3) := by decide +kernel
theorem dX11_fillMatrix_72 : decode cX11_fillMatrix 72 = .ok (.goto (-36), 3) := by decide +kernel
theorem dX11_fillMatrix_75 : decode cX11_fillMatrix 75 = .ok (.aload_n 0, 1) := by decide +kernel
theorem dX11_fillMatrix_76 : decode cX11_fillMatrix 76 = .ok (.getfield 46, 3) := by decide +kernel
theorem dX11_fillMatrix_79 : decode cX11_fillMatrix 79 = .ok (.bipush 8, 2) := by decide +kernel
theorem dX11_fillMatrix_81 : decode cX11_fillMatrix 81 = .ok (.iload_n 2, 1) := by decide +kernel
theorem dX11_fillMatrix_82 : decode cX11_fillMatrix 82 = .ok (.imul, 1) := by decide +kernel
theorem dX11_fillMatrix_83 : decode cX11_fillMatrix 83 = .ok (.iload_n 3, 1) := by decide +kernel
theorem dX11_fillMatrix_84 : decode cX11_fillMatrix 84 = .ok (.iadd, 1) := by decide +kernel
theorem dX11_fillMatrix_85 : decode cX11_fillMatrix 85 = .ok (.iload 4, 2) := by decide +kernel
theorem dX11_fillMatrix_87 : decode cX11_fillMatrix 87 = .ok (.i2l, 1) := by decide +kernel
theorem dX11_fillMatrix_88 : decode cX11_fillMatrix 88 = .ok (.lastore, 1) := by decide +kernel
theorem dX11_fillMatrix_89 : decode cX11_fillMatrix 89 = .ok (.aload_n 0, 1) := by decide +kernel
theorem dX11_fillMatrix_90 : decode cX11_fillMatrix 90 = .ok (.getfield 49, 3) := by decide +kernel
theorem dX11_fillMatrix_93 : decode cX11_fillMatrix 93 = .ok (.bipush 8, 2) := by decide +kernel
theorem dX11_fillMatrix_95 : decode cX11_fillMatrix 95 = .ok (.iload_n 2, 1) := by decide +kernel
theorem dX11_fillMatrix_96 : decode cX11_fillMatrix 96 = .ok (.imul, 1) := by decide +kernel
theorem dX11_fillMatrix_97 : decode cX11_fillMatrix 97 = .ok (.iload_n 3, 1) := by decide +kernel
theorem dX11_fillMatrix_98 : decode cX11_fillMatrix 98 = .ok (.iadd, 1) := by decide +kernel
theorem dX11_fillMatrix_99 : decode cX11_fillMatrix 99 = .ok (.lconst 0, 1) := by decide +kernel
theorem dX11_fillMatrix_100 : decode cX11_fillMatrix 100 = .ok (.lastore, 1) := by decide +kernel
theorem dX11_fillMatrix_101 : decode cX11_fillMatrix 101 = .ok (.iinc 3 1, 3) := by decide +kernel
theorem dX11_fillMatrix_104 : decode cX11_fillMatrix 104 = .ok (.goto (-82), 3) := by decide +kernel
theorem dX11_fillMatrix_107 : decode cX11_fillMatrix 107 = .ok (.iinc 2 1, 3) := by decide +kernel
theorem dX11_fillMatrix_110 : decode cX11_fillMatrix 110 = .ok (.goto (-98), 3) := by decide +kernel
theorem dX11_fillMatrix_113 : decode cX11_fillMatrix 113 = .ok (.return_, 1) := by decide +kernel
theorem dX11_multiply_0 : decode cX11_multiply 0 = .ok (.iconst 0, 1) := by decide +kernel
theorem dX11_multiply_1 : decode cX11_multiply 1 = .ok (.istore_n 1, 1) := by decide +kernel
theorem dX11_multiply_2 : decode cX11_multiply 2 = .ok (.iload_n 1, 1) := by decide +kernel
theorem dX11_multiply_3 : decode cX11_multiply 3 = .ok (.aload_n 0, 1) := by decide +kernel
theorem dX11_multiply_4 : decode cX11_multiply 4 = .ok (.getfield 235, 3) := by decide +kernel
theorem dX11_multiply_7 : decode cX11_multiply 7 = .ok (.if_icmp .ge 85, 3) := by decide +kernel
theorem dX11_multiply_10 : decode cX11_multiply 10 = .ok (.iconst 0, 1) := by decide +kernel
theorem dX11_multiply_11 : decode cX11_multiply 11 = .ok (.istore_n 2, 1) := by decide +kernel
theorem dX11_multiply_12 : decode cX11_multiply 12 = .ok (.iload_n 2, 1) := by decide +kernel
theorem dX11_multiply_13 : decode cX11_multiply 13 = .ok (.aload_n 0, 1) := by decide +kernel
theorem dX11_multiply_14 : decode cX11_multiply 14 = .ok (.getfield 235, 3) := by decide +kernel
theorem dX11_multiply_17 : decode cX11_multiply 17 = .ok (.if_icmp .ge 69, 3) := by decide +kernel
theorem dX11_multiply_20 : decode cX11_multiply 20 = .ok (.lconst 0, 1) := by decide +kernel
theorem dX11_multiply_21 : decode cX11_multiply 21 = .ok (.lstore_n 3, 1) := by decide +kernel
theorem dX11_multiply_22 : decode cX11_multiply 22 = .ok (.iconst 0, 1) := by decide +kernel
theorem dX11_multiply_23 : decode cX11_multiply 23 = .ok (.istore 5, 2) := by decide +kernel
theorem dX11_multiply_25 : decode cX11_multiply 25 = .ok (.iload 5, 2) := by decide +kernel
theorem dX11_multiply_27 : decode cX11_multiply 27 = .ok (.aload_n 0, 1) := by decide +kernel
theorem dX11_multiply_28 : decode cX11_multiply 28 = .ok (.getfield 235, 3) := by decide +kernel
theorem dX11_multiply_31 : decode cX11_multiply 31 = .ok (.if_icmp .ge 37, 3) := by decide +kernel
theorem dX11_multiply_34 : decode cX11_multiply 34 = .ok (.lload_n 3, 1) := by decide +kernel
theorem dX11_multiply_35 : decode cX11_multiply 35 = .ok (.aload_n 0, 1) := by decide +kernel
theorem dX11_multiply_36 : decode cX11_multiply 36 = .ok (.getfield 46, 3) := by decide +kernel
theorem dX11_multiply_39 : decode cX11_multiply 39 = .ok (.bipush 8, 2) := by decide +kernel
theorem dX11_multiply_41 : decode cX11_multiply 41 = .ok (.iload_n 1, 1) := by decide +kernel
theorem dX11_multiply_42 : decode cX11_multiply 42 = .ok (.imul, 1) := by decide +kernel
theorem dX11_multiply_43 : decode cX11_multiply 43 = .ok (.iload 5, 2) := by decide +kernel
theorem dX11_multiply_45 : decode cX11_multiply 45 = .ok (.iadd, 1) := by decide +kernel
theorem dX11_multiply_46 : decode cX11_multiply 46 = .ok (.laload, 1) := by decide +kernel
theorem dX11_multiply_47 : decode cX11_multiply 47 = .ok (.aload_n 0, 1) := by decide +kernel
theorem dX11_multiply_48 : decode cX11_multiply 48 = .ok (.getfield 49, 3) := by decide +kernel
theorem dX11_multiply_51 : decode cX11_multiply 51 = .ok (.bipush 8, 2) := by decide +kernel
theorem dX11_multiply_53 : decode cX11_multiply 53 = .ok (.iload 5, 2) := by decide +kernel
theorem dX11_multiply_55 : decode cX11_multiply 55 = .ok (.imul, 1) := by decide +kernel
theorem dX11_multiply_56 : decode cX11_multiply 56 = .ok (.iload_n 2, 1) := by decide +kernel
theorem dX11_multiply_57 : decode cX11_multiply 57 = .ok (.iadd, 1) := by decide +kernel
theorem dX11_multiply_58 : decode cX11_multiply 58 = .ok (.laload, 1) := by decide +kernel
theorem dX11_multiply_59 : decode cX11_multiply 59 = .ok (.lmul, 1) := by decide +kernel
theorem dX11_multiply_60 : decode cX11_multiply 60 = .ok (.ladd, 1) := by decide +kernel
theorem dX11_multiply_61 : decode cX11_multiply 61 = .ok (.lstore_n 3, 1) := by decide +kernel
theorem dX11_multiply_62 : decode cX11_multiply 62 = .ok (.iinc 5 1, 3) := by decide +kernel
theorem dX11_multiply_65 : decode cX11_multiply 65 = .ok (.goto (-40), 3) := by decide +kernel
theorem dX11_multiply_68 : decode cX11_multiply 68 = .ok (.aload_n 0, 1) := by decide +kernel
theorem dX11_multiply_69 : decode cX11_multiply 69 = .ok (.getfield 52, 3) := by decide +kernel
theorem dX11_multiply_72 : decode cX11_multiply 72 = .ok (.bipush 8, 2) := by decide +kernel
theorem dX11_multiply_74 : decode cX11_multiply 74 = .ok (.iload_n 1, 1) := by decide +kernel
theorem dX11_multiply_75 : decode cX11_multiply 75 = .ok (.imul, 1) := by decide +kernel
theorem dX11_multiply_76 : decode cX11_multiply 76 = .ok (.iload_n 2, 1) := by decide +kernel
theorem dX11_multiply_77 : decode cX11_multiply 77 = .ok (.iadd, 1) := by decide +kernel
theorem dX11_multiply_78 : decode cX11_multiply 78 = .ok (.lload_n 3, 1) := by decide +kernel
theorem dX11_multiply_79 : decode cX11_multiply 79 = .ok (.lastore, 1) := by decide +kernel
theorem dX11_multiply_80 : decode cX11_multiply 80 = .ok (.iinc 2 1, 3) := by decide +kernel
theorem dX11_multiply_83 : decode cX11_multiply 83 = .ok (.goto (-71), 3) := by decide +kernel
theorem dX11_multiply_86 : decode cX11_multiply 86 = .ok (.iinc 1 1, 3) := by decide +kernel
theorem dX11_multiply_89 : decode cX11_multiply 89 = .ok (.goto (-87), 3) := by decide +kernel
theorem dX11_multiply_92 : decode cX11_multiply 92 = .ok (.return_, 1) := by decide +kernel
theorem dX11_characteristic_0 : decode cX11_characteristic 0 = .ok (.iload_n 1, 1) := by decide +kernel
theorem dX11_characteristic_1 : decode cX11_characteristic 1 = .ok (.invokestatic 135, 3) := by decide +kernel
theorem dX11_characteristic_4 : decode cX11_characteristic 4 = .ok (.ifCond .eq 19, 3) := by decide +kernel
theorem dX11_characteristic_7 : decode cX11_characteristic 7 = .ok (.iload_n 2, 1) := by decide +kernel
theorem dX11_characteristic_8 : decode cX11_characteristic 8 = .ok (.iconst 0, 1) := by decide +kernel
theorem dX11_characteristic_9 : decode cX11_characteristic 9 = .ok (.aload_n 0, 1) := by decide +kernel
theorem dX11_characteristic_10 : decode cX11_characteristic 10 = .ok (.iload_n 1, 1) := by decide +kernel
theorem dX11_characteristic_11 : decode cX11_characteristic 11 = .ok (.invokevirtual 180, 3) := by decide +kernel
theorem dX11_characteristic_14 : decode cX11_characteristic 14 = .ok (.invokestatic 122, 3) := by decide +kernel
theorem dX11_characteristic_17 : decode cX11_characteristic 17 = .ok (.invokestatic 118, 3) := by decide +kernel
theorem dX11_characteristic_20 : decode cX11_characteristic 20 = .ok (.ifCond .ne 7, 3) := by decide +kernel
theorem dX11_characteristic_23 : decode cX11_characteristic 23 = .ok (.ldc2_w 242, 3) := by decide +kernel
theorem dX11_characteristic_26 : decode cX11_characteristic 26 = .ok (.lreturn, 1) := by decide +kernel
theorem dX11_characteristic_27 : decode cX11_characteristic 27 = .ok (.aload_n 0, 1) := by decide +kernel
theorem dX11_characteristic_28 : decode cX11_characteristic 28 = .ok (.iload_n 1, 1) := by decide +kernel
theorem dX11_characteristic_29 : decode cX11_characteristic 29 = .ok (.invokevirtual 244, 3) := by decide +kernel
theorem dX11_characteristic_32 : decode cX11_characteristic 32 = .ok (.aload_n 0, 1) := by decide +kernel
theorem dX11_characteristic_33 : decode cX11_characteristic 33 = .ok (.getfield 55, 3) := by decide +kernel
theorem dX11_characteristic_36 : decode cX11_characteristic 36 = .ok (.aload_n 0, 1) := by decide +kernel
theorem dX11_characteristic_37 : decode cX11_characteristic 37 = .ok (.getfield 235, 3) := by decide +kernel
theorem dX11_characteristic_40 : decode cX11_characteristic 40 = .ok (.lconst 1, 1) := by decide +kernel
theorem dX11_characteristic_41 : decode cX11_characteristic 41 = .ok (.lastore, 1) := by decide +kernel
theorem dX11_characteristic_42 : decode cX11_characteristic 42 = .ok (.iconst 1, 1) := by decide +kernel
theorem dX11_characteristic_43 : decode cX11_characteristic 43 = .ok (.istore_n 3, 1) := by decide +kernel
theorem dX11_characteristic_44 : decode cX11_characteristic 44 = .ok (.iload_n 3, 1) := by decide +kernel
theorem dX11_characteristic_45 : decode cX11_characteristic 45 = .ok (.aload_n 0, 1) := by decide +kernel
theorem dX11_characteristic_46 : decode cX11_characteristic 46 = .ok (.getfield 235, 3) := by decide +kernel
theorem dX11_characteristic_49 : decode cX11_characteristic 49 = .ok (.if_icmp .gt 157, 3) := by decide +kernel
theorem dX11_characteristic_52 : decode cX11_characteristic 52 = .ok (.aload_n 0, 1) := by decide +kernel
theorem dX11_characteristic_53 : decode cX11_characteristic 53 = .ok (.invokevirtual 247, 3) := by decide +kernel
theorem dX11_characteristic_56 : decode cX11_characteristic 56 = .ok (.iconst 0, 1) := by decide +kernel
theorem dX11_characteristic_57 : decode cX11_characteristic 57 = .ok (.istore 4, 2) := by decide +kernel
theorem dX11_characteristic_59 : decode cX11_characteristic 59 = .ok (.iload 4, 2) := by decide +kernel
theorem dX11_characteristic_61 : decode cX11_characteristic 61 = .ok (.aload_n 0, 1) := by decide +kernel
theorem dX11_characteristic_62 : decode cX11_characteristic 62 = .ok (.getfield 235, 3) := by decide +kernel
theorem dX11_characteristic_65 : decode cX11_characteristic 65 = .ok (.if_icmp .ge 78, 3) := by decide +kernel
theorem dX11_characteristic_68 : decode cX11_characteristic 68 = .ok (.iconst 0, 1) := by decide +kernel
theorem dX11_characteristic_69 : decode cX11_characteristic 69 = .ok (.istore 5, 2) := by decide +kernel
theorem dX11_characteristic_71 : decode cX11_characteristic 71 = .ok (.iload 5, 2) := by decide +kernel
theorem dX11_characteristic_73 : decode cX11_characteristic 73 = .ok (.aload_n 0, 1) := by decide +kernel
theorem dX11_characteristic_74 : decode cX11_characteristic 74 = .ok (.getfield 235, 3) := by decide +kernel
theorem dX11_characteristic_77 : decode cX11_characteristic 77 = .ok (.if_icmp .ge 60, 3) := by decide +kernel
theorem dX11_characteristic_80 : decode cX11_characteristic 80 = .ok (.aload_n 0, 1) := by decide +kernel
theorem dX11_characteristic_81 : decode cX11_characteristic 81 = .ok (.getfield 49, 3) := by decide +kernel
theorem dX11_characteristic_84 : decode cX11_characteristic 84 = .ok (.bipush 8, 2) := by decide +kernel
theorem dX11_characteristic_86 : decode cX11_characteristic 86 = .ok (.iload 4, 2) := by decide +kernel
theorem dX11_characteristic_88 : decode cX11_characteristic 88 = .ok (.imul, 1) := by decide +kernel
theorem dX11_characteristic_89 : decode cX11_characteristic 89 = .ok (.iload 5, 2) := by decide +kernel
theorem dX11_characteristic_91 : decode cX11_characteristic 91 = .ok (.iadd, 1) := by decide +kernel
theorem dX11_characteristic_92 : decode cX11_characteristic 92 = .ok (.aload_n 0, 1) := by decide +kernel
theorem dX11_characteristic_93 : decode cX11_characteristic 93 = .ok (.getfield 52, 3) := by decide +kernel
theorem dX11_characteristic_96 : decode cX11_characteristic 96 = .ok (.bipush 8, 2) := by decide +kernel
theorem dX11_characteristic_98 : decode cX11_characteristic 98 = .ok (.iload 4, 2) := by decide +kernel
theorem dX11_characteristic_100 : decode cX11_characteristic 100 = .ok (.imul, 1) := by decide +kernel
theorem dX11_characteristic_101 : decode cX11_characteristic 101 = .ok (.iload 5, 2) := by decide +kernel
theorem dX11_characteristic_103 : decode cX11_characteristic 103 = .ok (.iadd, 1) := by decide +kernel
theorem dX11_characteristic_104 : decode cX11_characteristic 104 = .ok (.laload, 1) := by decide +kernel
theorem dX11_characteristic_105 : decode cX11_characteristic 105 = .ok (.iload 4, 2) := by decide +kernel
theorem dX11_characteristic_107 : decode cX11_characteristic 107 = .ok (.iload 5, 2) := by decide +kernel
theorem dX11_characteristic_109 : decode cX11_characteristic 109 = .ok (.if_icmp .ne 19, 3) := by decide +kernel
theorem dX11_characteristic_112 : decode cX11_characteristic 112 = .ok (.aload_n 0, 1) := by decide +kernel
theorem dX11_characteristic_113 : decode cX11_characteristic 113 = .ok (.getfield 55, 3) := by decide +kernel
theorem dX11_characteristic_116 : decode cX11_characteristic 116 = .ok (.aload_n 0, 1) := by decide +kernel
theorem dX11_characteristic_117 : decode cX11_characteristic 117 = .ok (.getfield 235, 3) := by decide +kernel
theorem dX11_characteristic_120 : decode cX11_characteristic 120 = .ok (.iload_n 3, 1) := by decide +kernel
theorem dX11_characteristic_121 : decode cX11_characteristic 121 = .ok (.isub, 1) := by decide +kernel
theorem dX11_characteristic_122 : decode cX11_characteristic 122 = .ok (.iconst 1, 1) := by decide +kernel
theorem dX11_characteristic_123 : decode cX11_characteristic 123 = .ok (.iadd, 1) := by decide +kernel
theorem dX11_characteristic_124 : decode cX11_characteristic 124 = .ok (.laload, 1) := by decide +kernel
theorem dX11_characteristic_125 : decode cX11_characteristic 125 = .ok (.goto 4, 3) := by decide +kernel
theorem dX11_characteristic_128 : decode cX11_characteristic 128 = .ok (.lconst 0, 1) := by decide +kernel
theorem dX11_characteristic_129 : decode cX11_characteristic 129 = .ok (.ladd, 1) := by decide +kernel
theorem dX11_characteristic_130 : decode cX11_characteristic 130 = .ok (.lastore, 1) := by decide +kernel
theorem dX11_characteristic_131 : decode cX11_characteristic 131 = .ok (.iinc 5 1, 3) := by decide +kernel
theorem dX11_characteristic_134 : decode cX11_characteristic 134 = .ok (.goto (-63), 3) := by decide +kernel
theorem dX11_characteristic_137 : decode cX11_characteristic 137 = .ok (.iinc 4 1, 3) := by decide +kernel
theorem dX11_characteristic_140 : decode cX11_characteristic 140 = .ok (.goto (-81), 3) := by decide +kernel
theorem dX11_characteristic_143 : decode cX11_characteristic 143 = .ok (.aload_n 0, 1) := by decide +kernel
theorem dX11_characteristic_144 : decode cX11_characteristic 144 = .ok (.invokevirtual 247, 3) := by decide +kernel
theorem dX11_characteristic_147 : decode cX11_characteristic 147 = .ok (.lconst 0, 1) := by decide +kernel
theorem dX11_characteristic_148 : decode cX11_characteristic 148 = .ok (.lstore 4, 2) := by decide +kernel
theorem dX11_characteristic_150 : decode cX11_characteristic 150 = .ok (.iconst 0, 1) := by decide +kernel
theorem dX11_characteristic_151 : decode cX11_characteristic 151 = .ok (.istore 6, 2) := by decide +kernel
theorem dX11_characteristic_153 : decode cX11_characteristic 153 = .ok (.iload 6, 2) := by decide +kernel
theorem dX11_characteristic_155 : decode cX11_characteristic 155 = .ok (.aload_n 0, 1) := by decide +kernel
theorem dX11_characteristic_156 : decode cX11_characteristic 156 = .ok (.getfield 235, 3) := by decide +kernel
theorem dX11_characteristic_159 : decode cX11_characteristic 159 = .ok (.if_icmp .ge 24, 3) := by decide +kernel
theorem dX11_characteristic_162 : decode cX11_characteristic 162 = .ok (.lload 4, 2) := by decide +kernel
theorem dX11_characteristic_164 : decode cX11_characteristic 164 = .ok (.aload_n 0, 1) := by decide +kernel
theorem dX11_characteristic_165 : decode cX11_characteristic 165 = .ok (.getfield 52, 3) := by decide +kernel
theorem dX11_characteristic_168 : decode cX11_characteristic 168 = .ok (.bipush 9, 2) := by decide +kernel
theorem dX11_characteristic_170 : decode cX11_characteristic 170 = .ok (.iload 6, 2) := by decide +kernel
theorem dX11_characteristic_172 : decode cX11_characteristic 172 = .ok (.imul, 1) := by decide +kernel
theorem dX11_characteristic_173 : decode cX11_characteristic 173 = .ok (.laload, 1) := by decide +kernel
theorem dX11_characteristic_174 : decode cX11_characteristic 174 = .ok (.ladd, 1) := by decide +kernel
theorem dX11_characteristic_175 : decode cX11_characteristic 175 = .ok (.lstore 4, 2) := by decide +kernel
theorem dX11_characteristic_177 : decode cX11_characteristic 177 = .ok (.iinc 6 1, 3) := by decide +kernel
theorem dX11_characteristic_180 : decode cX11_characteristic 180 = .ok (.goto (-27), 3) := by decide +kernel
theorem dX11_characteristic_183 : decode cX11_characteristic 183 = .ok (.aload_n 0, 1) := by decide +kernel
theorem dX11_characteristic_184 : decode cX11_characteristic 184 = .ok (.getfield 55, 3) := by decide +kernel
theorem dX11_characteristic_187 : decode cX11_characteristic 187 = .ok (.aload_n 0, 1) := by decide +kernel
theorem dX11_characteristic_188 : decode cX11_characteristic 188 = .ok (.getfield 235, 3) := by decide +kernel
theorem dX11_characteristic_191 : decode cX11_characteristic 191 = .ok (.iload_n 3, 1) := by decide +kernel
theorem dX11_characteristic_192 : decode cX11_characteristic 192 = .ok (.isub, 1) := by decide +kernel
theorem dX11_characteristic_193 : decode cX11_characteristic 193 = .ok (.lload 4, 2) := by decide +kernel
theorem dX11_characteristic_195 : decode cX11_characteristic 195 = .ok (.lneg, 1) := by decide +kernel
theorem dX11_characteristic_196 : decode cX11_characteristic 196 = .ok (.iload_n 3, 1) := by decide +kernel
theorem dX11_characteristic_197 : decode cX11_characteristic 197 = .ok (.i2l, 1) := by decide +kernel
theorem dX11_characteristic_198 : decode cX11_characteristic 198 = .ok (.ldiv, 1) := by decide +kernel
theorem dX11_characteristic_199 : decode cX11_characteristic 199 = .ok (.lastore, 1) := by decide +kernel
theorem dX11_characteristic_200 : decode cX11_characteristic 200 = .ok (.iinc 3 1, 3) := by decide +kernel
theorem dX11_characteristic_203 : decode cX11_characteristic 203 = .ok (.goto (-159), 3) := by decide +kernel
theorem dX11_characteristic_206 : decode cX11_characteristic 206 = .ok (.aload_n 0, 1) := by decide +kernel
theorem dX11_characteristic_207 : decode cX11_characteristic 207 = .ok (.getfield 55, 3) := by decide +kernel
theorem dX11_characteristic_210 : decode cX11_characteristic 210 = .ok (.iload_n 2, 1) := by decide +kernel
theorem dX11_characteristic_211 : decode cX11_characteristic 211 = .ok (.laload, 1) := by decide +kernel
theorem dX11_characteristic_212 : decode cX11_characteristic 212 = .ok (.lreturn, 1) := by decide +kernel
theorem dX11_clearSeen_0 : decode cX11_clearSeen 0 = .ok (.iconst 0, 1) := by decide +kernel
theorem dX11_clearSeen_1 : decode cX11_clearSeen 1 = .ok (.istore_n 1, 1) := by decide +kernel
theorem dX11_clearSeen_2 : decode cX11_clearSeen 2 = .ok (.iload_n 1, 1) := by decide +kernel
theorem dX11_clearSeen_3 : decode cX11_clearSeen 3 = .ok (.sipush 256, 3) := by decide +kernel
theorem dX11_clearSeen_6 : decode cX11_clearSeen 6 = .ok (.if_icmp .ge 16, 3) := by decide +kernel
theorem dX11_clearSeen_9 : decode cX11_clearSeen 9 = .ok (.aload_n 0, 1) := by decide +kernel
theorem dX11_clearSeen_10 : decode cX11_clearSeen 10 = .ok (.getfield 67, 3) := by decide +kernel
theorem dX11_clearSeen_13 : decode cX11_clearSeen 13 = .ok (.iload_n 1, 1) := by decide +kernel
theorem dX11_clearSeen_14 : decode cX11_clearSeen 14 = .ok (.iconst 0, 1) := by decide +kernel
theorem dX11_clearSeen_15 : decode cX11_clearSeen 15 = .ok (.bastore, 1) := by decide +kernel
theorem dX11_clearSeen_16 : decode cX11_clearSeen 16 = .ok (.iinc 1 1, 3) := by decide +kernel
theorem dX11_clearSeen_19 : decode cX11_clearSeen 19 = .ok (.goto (-17), 3) := by decide +kernel
theorem dX11_clearSeen_22 : decode cX11_clearSeen 22 = .ok (.aload_n 0, 1) := by decide +kernel
theorem dX11_clearSeen_23 : decode cX11_clearSeen 23 = .ok (.iconst 0, 1) := by decide +kernel
theorem dX11_clearSeen_24 : decode cX11_clearSeen 24 = .ok (.putfield 250, 3) := by decide +kernel
theorem dX11_clearSeen_27 : decode cX11_clearSeen 27 = .ok (.return_, 1) := by decide +kernel
theorem dX11_see_0 : decode cX11_see 0 = .ok (.aload_n 0, 1) := by decide +kernel
theorem dX11_see_1 : decode cX11_see 1 = .ok (.getfield 67, 3) := by decide +kernel
theorem dX11_see_4 : decode cX11_see 4 = .ok (.iload_n 1, 1) := by decide +kernel
theorem dX11_see_5 : decode cX11_see 5 = .ok (.baload, 1) := by decide +kernel
theorem dX11_see_6 : decode cX11_see 6 = .ok (.ifCond .ne 30, 3) := by decide +kernel
theorem dX11_see_9 : decode cX11_see 9 = .ok (.aload_n 0, 1) := by decide +kernel
theorem dX11_see_10 : decode cX11_see 10 = .ok (.getfield 67, 3) := by decide +kernel
theorem dX11_see_13 : decode cX11_see 13 = .ok (.iload_n 1, 1) := by decide +kernel
theorem dX11_see_14 : decode cX11_see 14 = .ok (.iconst 1, 1) := by decide +kernel
theorem dX11_see_15 : decode cX11_see 15 = .ok (.bastore, 1) := by decide +kernel
theorem dX11_see_16 : decode cX11_see 16 = .ok (.aload_n 0, 1) := by decide +kernel
theorem dX11_see_17 : decode cX11_see 17 = .ok (.getfield 71, 3) := by decide +kernel
theorem dX11_see_20 : decode cX11_see 20 = .ok (.aload_n 0, 1) := by decide +kernel
theorem dX11_see_21 : decode cX11_see 21 = .ok (.getfield 250, 3) := by decide +kernel
theorem dX11_see_24 : decode cX11_see 24 = .ok (.iload_n 1, 1) := by decide +kernel
theorem dX11_see_25 : decode cX11_see 25 = .ok (.iastore, 1) := by decide +kernel
theorem dX11_see_26 : decode cX11_see 26 = .ok (.aload_n 0, 1) := by decide +kernel
theorem dX11_see_27 : decode cX11_see 27 = .ok (.dup, 1) := by decide +kernel
theorem dX11_see_28 : decode cX11_see 28 = .ok (.getfield 250, 3) := by decide +kernel
theorem dX11_see_31 : decode cX11_see 31 = .ok (.iconst 1, 1) := by decide +kernel
theorem dX11_see_32 : decode cX11_see 32 = .ok (.iadd, 1) := by decide +kernel
theorem dX11_see_33 : decode cX11_see 33 = .ok (.putfield 250, 3) := by decide +kernel
theorem dX11_see_36 : decode cX11_see 36 = .ok (.return_, 1) := by decide +kernel
theorem dX11_findSets_0 : decode cX11_findSets 0 = .ok (.aload_n 0, 1) := by decide +kernel
theorem dX11_findSets_1 : decode cX11_findSets 1 = .ok (.invokevirtual 253, 3) := by decide +kernel
theorem dX11_findSets_4 : decode cX11_findSets 4 = .ok (.aload_n 0, 1) := by decide +kernel
theorem dX11_findSets_5 : decode cX11_findSets 5 = .ok (.aload_n 0, 1) := by decide +kernel
theorem dX11_findSets_6 : decode cX11_findSets 6 = .ok (.getfield 193, 3) := by decide +kernel
theorem dX11_findSets_9 : decode cX11_findSets 9 = .ok (.invokevirtual 256, 3) := by decide +kernel
theorem dX11_findSets_12 : decode cX11_findSets 12 = .ok (.iconst 0, 1) := by decide +kernel
theorem dX11_findSets_13 : decode cX11_findSets 13 = .ok (.istore_n 1, 1) := by decide +kernel
theorem dX11_findSets_14 : decode cX11_findSets 14 = .ok (.iload_n 1, 1) := by decide +kernel
theorem dX11_findSets_15 : decode cX11_findSets 15 = .ok (.aload_n 0, 1) := by decide +kernel
theorem dX11_findSets_16 : decode cX11_findSets 16 = .ok (.getfield 250, 3) := by decide +kernel
theorem dX11_findSets_19 : decode cX11_findSets 19 = .ok (.if_icmp .ge 47, 3) := by decide +kernel
theorem dX11_findSets_22 : decode cX11_findSets 22 = .ok (.iconst 0, 1) := by decide +kernel
theorem dX11_findSets_23 : decode cX11_findSets 23 = .ok (.istore_n 2, 1) := by decide +kernel
theorem dX11_findSets_24 : decode cX11_findSets 24 = .ok (.iload_n 2, 1) := by decide +kernel
theorem dX11_findSets_25 : decode cX11_findSets 25 = .ok (.iconst 4, 1) := by decide +kernel
theorem dX11_findSets_26 : decode cX11_findSets 26 = .ok (.if_icmp .ge 34, 3) := by decide +kernel
theorem dX11_findSets_29 : decode cX11_findSets 29 = .ok (.aload_n 0, 1) := by decide +kernel
theorem dX11_findSets_30 : decode cX11_findSets 30 = .ok (.getfield 36, 3) := by decide +kernel
theorem dX11_findSets_33 : decode cX11_findSets 33 = .ok (.iconst 4, 1) := by decide +kernel
theorem dX11_findSets_34 : decode cX11_findSets 34 = .ok (.aload_n 0, 1) := by decide +kernel
theorem dX11_findSets_35 : decode cX11_findSets 35 = .ok (.getfield 71, 3) := by decide +kernel
theorem dX11_findSets_38 : decode cX11_findSets 38 = .ok (.iload_n 1, 1) := by decide +kernel
theorem dX11_findSets_39 : decode cX11_findSets 39 = .ok (.iaload, 1) := by decide +kernel
theorem dX11_findSets_40 : decode cX11_findSets 40 = .ok (.imul, 1) := by decide +kernel
theorem dX11_findSets_41 : decode cX11_findSets 41 = .ok (.iload_n 2, 1) := by decide +kernel
theorem dX11_findSets_42 : decode cX11_findSets 42 = .ok (.iadd, 1) := by decide +kernel
theorem dX11_findSets_43 : decode cX11_findSets 43 = .ok (.iaload, 1) := by decide +kernel
theorem dX11_findSets_44 : decode cX11_findSets 44 = .ok (.istore_n 3, 1) := by decide +kernel
theorem dX11_findSets_45 : decode cX11_findSets 45 = .ok (.iload_n 3, 1) := by decide +kernel
theorem dX11_findSets_46 : decode cX11_findSets 46 = .ok (.ifCond .eq 8, 3) := by decide +kernel
theorem dX11_findSets_49 : decode cX11_findSets 49 = .ok (.aload_n 0, 1) := by decide +kernel
theorem dX11_findSets_50 : decode cX11_findSets 50 = .ok (.iload_n 3, 1) := by decide +kernel
theorem dX11_findSets_51 : decode cX11_findSets 51 = .ok (.invokevirtual 256, 3) := by decide +kernel
theorem dX11_findSets_54 : decode cX11_findSets 54 = .ok (.iinc 2 1, 3) := by decide +kernel
theorem dX11_findSets_57 : decode cX11_findSets 57 = .ok (.goto (-33), 3) := by decide +kernel
theorem dX11_findSets_60 : decode cX11_findSets 60 = .ok (.iinc 1 1, 3) := by decide +kernel
theorem dX11_findSets_63 : decode cX11_findSets 63 = .ok (.goto (-49), 3) := by decide +kernel
theorem dX11_findSets_66 : decode cX11_findSets 66 = .ok (.aload_n 0, 1) := by decide +kernel
theorem dX11_findSets_67 : decode cX11_findSets 67 = .ok (.aload_n 0, 1) := by decide +kernel
theorem dX11_findSets_68 : decode cX11_findSets 68 = .ok (.getfield 250, 3) := by decide +kernel
theorem dX11_findSets_71 : decode cX11_findSets 71 = .ok (.putfield 259, 3) := by decide +kernel
theorem dX11_findSets_74 : decode cX11_findSets 74 = .ok (.iconst 0, 1) := by decide +kernel
theorem dX11_findSets_75 : decode cX11_findSets 75 = .ok (.istore_n 1, 1) := by decide +kernel
theorem dX11_findSets_76 : decode cX11_findSets 76 = .ok (.iload_n 1, 1) := by decide +kernel
theorem dX11_findSets_77 : decode cX11_findSets 77 = .ok (.aload_n 0, 1) := by decide +kernel
theorem dX11_findSets_78 : decode cX11_findSets 78 = .ok (.getfield 259, 3) := by decide +kernel
theorem dX11_findSets_81 : decode cX11_findSets 81 = .ok (.if_icmp .ge 21, 3) := by decide +kernel
theorem dX11_findSets_84 : decode cX11_findSets 84 = .ok (.aload_n 0, 1) := by decide +kernel
theorem dX11_findSets_85 : decode cX11_findSets 85 = .ok (.getfield 58, 3) := by decide +kernel
theorem dX11_findSets_88 : decode cX11_findSets 88 = .ok (.iload_n 1, 1) := by decide +kernel
theorem dX11_findSets_89 : decode cX11_findSets 89 = .ok (.aload_n 0, 1) := by decide +kernel
theorem dX11_findSets_90 : decode cX11_findSets 90 = .ok (.getfield 71, 3) := by decide +kernel
theorem dX11_findSets_93 : decode cX11_findSets 93 = .ok (.iload_n 1, 1) := by decide +kernel
theorem dX11_findSets_94 : decode cX11_findSets 94 = .ok (.iaload, 1) := by decide +kernel
theorem dX11_findSets_95 : decode cX11_findSets 95 = .ok (.iastore, 1) := by decide +kernel
theorem dX11_findSets_96 : decode cX11_findSets 96 = .ok (.iinc 1 1, 3) := by decide +kernel
theorem dX11_findSets_99 : decode cX11_findSets 99 = .ok (.goto (-23), 3) := by decide +kernel
theorem dX11_findSets_102 : decode cX11_findSets 102 = .ok (.return_, 1) := by decide +kernel
theorem dX11_isAlike_0 : decode cX11_isAlike 0 = .ok (.aload_n 0, 1) := by decide +kernel
theorem dX11_isAlike_1 : decode cX11_isAlike 1 = .ok (.getfield 61, 3) := by decide +kernel
theorem dX11_isAlike_4 : decode cX11_isAlike 4 = .ok (.iload_n 1, 1) := by decide +kernel
theorem dX11_isAlike_5 : decode cX11_isAlike 5 = .ok (.iaload, 1) := by decide +kernel
theorem dX11_isAlike_6 : decode cX11_isAlike 6 = .ok (.aload_n 0, 1) := by decide +kernel
theorem dX11_isAlike_7 : decode cX11_isAlike 7 = .ok (.getfield 61, 3) := by decide +kernel
theorem dX11_isAlike_10 : decode cX11_isAlike 10 = .ok (.iload_n 2, 1) := by decide +kernel
theorem dX11_isAlike_11 : decode cX11_isAlike 11 = .ok (.iaload, 1) := by decide +kernel
theorem dX11_isAlike_12 : decode cX11_isAlike 12 = .ok (.if_icmp .ne 7, 3) := by decide +kernel
theorem dX11_isAlike_15 : decode cX11_isAlike 15 = .ok (.iconst 1, 1) := by decide +kernel
theorem dX11_isAlike_16 : decode cX11_isAlike 16 = .ok (.goto 4, 3) := by decide +kernel
theorem dX11_isAlike_19 : decode cX11_isAlike 19 = .ok (.iconst 0, 1) := by decide +kernel
theorem dX11_isAlike_20 : decode cX11_isAlike 20 = .ok (.istore_n 3, 1) := by decide +kernel
theorem dX11_isAlike_21 : decode cX11_isAlike 21 = .ok (.iconst 0, 1) := by decide +kernel
theorem dX11_isAlike_22 : decode cX11_isAlike 22 = .ok (.istore 4, 2) := by decide +kernel
theorem dX11_isAlike_24 : decode cX11_isAlike 24 = .ok (.iload 4, 2) := by decide +kernel
theorem dX11_isAlike_26 : decode cX11_isAlike 26 = .ok (.iconst 4, 1) := by decide +kernel
theorem dX11_isAlike_27 : decode cX11_isAlike 27 = .ok (.if_icmp .ge 54, 3) := by decide +kernel
theorem dX11_isAlike_30 : decode cX11_isAlike 30 = .ok (.iload_n 3, 1) := by decide +kernel
theorem dX11_isAlike_31 : decode cX11_isAlike 31 = .ok (.ifCond .eq 50, 3) := by decide +kernel
theorem dX11_isAlike_34 : decode cX11_isAlike 34 = .ok (.aload_n 0, 1) := by decide +kernel
theorem dX11_isAlike_35 : decode cX11_isAlike 35 = .ok (.getfield 61, 3) := by decide +kernel
theorem dX11_isAlike_38 : decode cX11_isAlike 38 = .ok (.aload_n 0, 1) := by decide +kernel
theorem dX11_isAlike_39 : decode cX11_isAlike 39 = .ok (.getfield 36, 3) := by decide +kernel
theorem dX11_isAlike_42 : decode cX11_isAlike 42 = .ok (.iconst 4, 1) := by decide +kernel
theorem dX11_isAlike_43 : decode cX11_isAlike 43 = .ok (.iload_n 1, 1) := by decide +kernel
theorem dX11_isAlike_44 : decode cX11_isAlike 44 = .ok (.imul, 1) := by decide +kernel
theorem dX11_isAlike_45 : decode cX11_isAlike 45 = .ok (.iload 4, 2) := by decide +kernel
theorem dX11_isAlike_47 : decode cX11_isAlike 47 = .ok (.iadd, 1) := by decide +kernel
theorem dX11_isAlike_48 : decode cX11_isAlike 48 = .ok (.iaload, 1) := by decide +kernel
theorem dX11_isAlike_49 : decode cX11_isAlike 49 = .ok (.iaload, 1) := by decide +kernel
theorem dX11_isAlike_50 : decode cX11_isAlike 50 = .ok (.aload_n 0, 1) := by decide +kernel
theorem dX11_isAlike_51 : decode cX11_isAlike 51 = .ok (.getfield 61, 3) := by decide +kernel
theorem dX11_isAlike_54 : decode cX11_isAlike 54 = .ok (.aload_n 0, 1) := by decide +kernel
theorem dX11_isAlike_55 : decode cX11_isAlike 55 = .ok (.getfield 36, 3) := by decide +kernel
theorem dX11_isAlike_58 : decode cX11_isAlike 58 = .ok (.iconst 4, 1) := by decide +kernel
theorem dX11_isAlike_59 : decode cX11_isAlike 59 = .ok (.iload_n 2, 1) := by decide +kernel
theorem dX11_isAlike_60 : decode cX11_isAlike 60 = .ok (.imul, 1) := by decide +kernel
theorem dX11_isAlike_61 : decode cX11_isAlike 61 = .ok (.iload 4, 2) := by decide +kernel
theorem dX11_isAlike_63 : decode cX11_isAlike 63 = .ok (.iadd, 1) := by decide +kernel
theorem dX11_isAlike_64 : decode cX11_isAlike 64 = .ok (.iaload, 1) := by decide +kernel
theorem dX11_isAlike_65 : decode cX11_isAlike 65 = .ok (.iaload, 1) := by decide +kernel
theorem dX11_isAlike_66 : decode cX11_isAlike 66 = .ok (.if_icmp .ne 7, 3) := by decide +kernel
theorem dX11_isAlike_69 : decode cX11_isAlike 69 = .ok (.iconst 1, 1) := by decide +kernel
theorem dX11_isAlike_70 : decode cX11_isAlike 70 = .ok (.goto 4, 3) := by decide +kernel
theorem dX11_isAlike_73 : decode cX11_isAlike 73 = .ok (.iconst 0, 1) := by decide +kernel
theorem dX11_isAlike_74 : decode cX11_isAlike 74 = .ok (.istore_n 3, 1) := by decide +kernel
theorem dX11_isAlike_75 : decode cX11_isAlike 75 = .ok (.iinc 4 1, 3) := by decide +kernel
theorem dX11_isAlike_78 : decode cX11_isAlike 78 = .ok (.goto (-54), 3) := by decide +kernel
theorem dX11_isAlike_81 : decode cX11_isAlike 81 = .ok (.iload_n 3, 1) := by decide +kernel
theorem dX11_isAlike_82 : decode cX11_isAlike 82 = .ok (.ireturn, 1) := by decide +kernel
theorem dX11_classify_0 : decode cX11_classify 0 = .ok (.iconst 0, 1) := by decide +kernel
theorem dX11_classify_1 : decode cX11_classify 1 = .ok (.istore_n 1, 1) := by decide +kernel
theorem dX11_classify_2 : decode cX11_classify 2 = .ok (.iload_n 1, 1) := by decide +kernel
theorem dX11_classify_3 : decode cX11_classify 3 = .ok (.sipush 256, 3) := by decide +kernel
theorem dX11_classify_6 : decode cX11_classify 6 = .ok (.if_icmp .ge 24, 3) := by decide +kernel
theorem dX11_classify_9 : decode cX11_classify 9 = .ok (.aload_n 0, 1) := by decide +kernel
theorem dX11_classify_10 : decode cX11_classify 10 = .ok (.getfield 61, 3) := by decide +kernel
theorem dX11_classify_13 : decode cX11_classify 13 = .ok (.iload_n 1, 1) := by decide +kernel
theorem dX11_classify_14 : decode cX11_classify 14 = .ok (.iload_n 1, 1) := by decide +kernel
theorem dX11_classify_15 : decode cX11_classify 15 = .ok (.ifCond .ne 7, 3) := by decide +kernel
theorem dX11_classify_18 : decode cX11_classify 18 = .ok (.iconst (-1), 1) := by decide +kernel
theorem dX11_classify_19 : decode cX11_classify 19 = .ok (.goto 4, 3) := by decide +kernel
theorem dX11_classify_22 : decode cX11_classify 22 = .ok (.iconst 0, 1) := by decide +kernel
theorem dX11_classify_23 : decode cX11_classify 23 = .ok (.iastore, 1) := by decide +kernel
theorem dX11_classify_24 : decode cX11_classify 24 = .ok (.iinc 1 1, 3) := by decide +kernel
theorem dX11_classify_27 : decode cX11_classify 27 = .ok (.goto (-25), 3) := by decide +kernel
theorem dX11_classify_30 : decode cX11_classify 30 = .ok (.iconst 1, 1) := by decide +kernel
theorem dX11_classify_31 : decode cX11_classify 31 = .ok (.istore_n 1, 1) := by decide +kernel
theorem dX11_classify_32 : decode cX11_classify 32 = .ok (.iload_n 1, 1) := by decide +kernel
theorem dX11_classify_33 : decode cX11_classify 33 = .ok (.ifCond .eq 121, 3) := by decide +kernel
theorem dX11_classify_36 : decode cX11_classify 36 = .ok (.iconst 0, 1) := by decide +kernel
theorem dX11_classify_37 : decode cX11_classify 37 = .ok (.istore_n 1, 1) := by decide +kernel
theorem dX11_classify_38 : decode cX11_classify 38 = .ok (.iconst 0, 1) := by decide +kernel
theorem dX11_classify_39 : decode cX11_classify 39 = .ok (.istore_n 2, 1) := by decide +kernel
theorem dX11_classify_40 : decode cX11_classify 40 = .ok (.iload_n 2, 1) := by decide +kernel
theorem dX11_classify_41 : decode cX11_classify 41 = .ok (.aload_n 0, 1) := by decide +kernel
theorem dX11_classify_42 : decode cX11_classify 42 = .ok (.getfield 259, 3) := by decide +kernel
theorem dX11_classify_45 : decode cX11_classify 45 = .ok (.if_icmp .ge 43, 3) := by decide +kernel
theorem dX11_classify_48 : decode cX11_classify 48 = .ok (.iconst 0, 1) := by decide +kernel
theorem dX11_classify_49 : decode cX11_classify 49 = .ok (.istore_n 3, 1) := by decide +kernel
theorem dX11_classify_50 : decode cX11_classify 50 = .ok (.aload_n 0, 1) := by decide +kernel
theorem dX11_classify_51 : decode cX11_classify 51 = .ok (.aload_n 0, 1) := by decide +kernel
theorem dX11_classify_52 : decode cX11_classify 52 = .ok (.getfield 58, 3) := by decide +kernel
theorem dX11_classify_55 : decode cX11_classify 55 = .ok (.iload_n 2, 1) := by decide +kernel
theorem dX11_classify_56 : decode cX11_classify 56 = .ok (.iaload, 1) := by decide +kernel
theorem dX11_classify_57 : decode cX11_classify 57 = .ok (.aload_n 0, 1) := by decide +kernel
theorem dX11_classify_58 : decode cX11_classify 58 = .ok (.getfield 58, 3) := by decide +kernel
theorem dX11_classify_61 : decode cX11_classify 61 = .ok (.iload_n 3, 1) := by decide +kernel
theorem dX11_classify_62 : decode cX11_classify 62 = .ok (.iaload, 1) := by decide +kernel
theorem dX11_classify_63 : decode cX11_classify 63 = .ok (.invokevirtual 262, 3) := by decide +kernel
theorem dX11_classify_66 : decode cX11_classify 66 = .ok (.ifCond .ne 9, 3) := by decide +kernel
theorem dX11_classify_69 : decode cX11_classify 69 = .ok (.iinc 3 1, 3) := by decide +kernel
theorem dX11_classify_72 : decode cX11_classify 72 = .ok (.goto (-22), 3) := by decide +kernel
theorem dX11_classify_75 : decode cX11_classify 75 = .ok (.aload_n 0, 1) := by decide +kernel
theorem dX11_classify_76 : decode cX11_classify 76 = .ok (.getfield 64, 3) := by decide +kernel
theorem dX11_classify_79 : decode cX11_classify 79 = .ok (.iload_n 2, 1) := by decide +kernel
theorem dX11_classify_80 : decode cX11_classify 80 = .ok (.iload_n 3, 1) := by decide +kernel
theorem dX11_classify_81 : decode cX11_classify 81 = .ok (.iastore, 1) := by decide +kernel
theorem dX11_classify_82 : decode cX11_classify 82 = .ok (.iinc 2 1, 3) := by decide +kernel
theorem dX11_classify_85 : decode cX11_classify 85 = .ok (.goto (-45), 3) := by decide +kernel
theorem dX11_classify_88 : decode cX11_classify 88 = .ok (.iconst 0, 1) := by decide +kernel
theorem dX11_classify_89 : decode cX11_classify 89 = .ok (.istore_n 2, 1) := by decide +kernel
theorem dX11_classify_90 : decode cX11_classify 90 = .ok (.iload_n 2, 1) := by decide +kernel
theorem dX11_classify_91 : decode cX11_classify 91 = .ok (.aload_n 0, 1) := by decide +kernel
theorem dX11_classify_92 : decode cX11_classify 92 = .ok (.getfield 259, 3) := by decide +kernel
theorem dX11_classify_95 : decode cX11_classify 95 = .ok (.if_icmp .ge 56, 3) := by decide +kernel
theorem dX11_classify_98 : decode cX11_classify 98 = .ok (.iload_n 1, 1) := by decide +kernel
theorem dX11_classify_99 : decode cX11_classify 99 = .ok (.ifCond .ne 23, 3) := by decide +kernel
theorem dX11_classify_102 : decode cX11_classify 102 = .ok (.aload_n 0, 1) := by decide +kernel
theorem dX11_classify_103 : decode cX11_classify 103 = .ok (.getfield 61, 3) := by decide +kernel
theorem dX11_classify_106 : decode cX11_classify 106 = .ok (.aload_n 0, 1) := by decide +kernel
theorem dX11_classify_107 : decode cX11_classify 107 = .ok (.getfield 58, 3) := by decide +kernel
theorem dX11_classify_110 : decode cX11_classify 110 = .ok (.iload_n 2, 1) := by decide +kernel
theorem dX11_classify_111 : decode cX11_classify 111 = .ok (.iaload, 1) := by decide +kernel
theorem dX11_classify_112 : decode cX11_classify 112 = .ok (.iaload, 1) := by decide +kernel
theorem dX11_classify_113 : decode cX11_classify 113 = .ok (.aload_n 0, 1) := by decide +kernel
theorem dX11_classify_114 : decode cX11_classify 114 = .ok (.getfield 64, 3) := by decide +kernel
theorem dX11_classify_117 : decode cX11_classify 117 = .ok (.iload_n 2, 1) := by decide +kernel
theorem dX11_classify_118 : decode cX11_classify 118 = .ok (.iaload, 1) := by decide +kernel
theorem dX11_classify_119 : decode cX11_classify 119 = .ok (.if_icmp .eq 7, 3) := by decide +kernel
theorem dX11_classify_122 : decode cX11_classify 122 = .ok (.iconst 1, 1) := by decide +kernel
theorem dX11_classify_123 : decode cX11_classify 123 = .ok (.goto 4, 3) := by decide +kernel
theorem dX11_classify_126 : decode cX11_classify 126 = .ok (.iconst 0, 1) := by decide +kernel
theorem dX11_classify_127 : decode cX11_classify 127 = .ok (.istore_n 1, 1) := by decide +kernel
theorem dX11_classify_128 : decode cX11_classify 128 = .ok (.aload_n 0, 1) := by decide +kernel
theorem dX11_classify_129 : decode cX11_classify 129 = .ok (.getfield 61, 3) := by decide +kernel
theorem dX11_classify_132 : decode cX11_classify 132 = .ok (.aload_n 0, 1) := by decide +kernel
theorem dX11_classify_133 : decode cX11_classify 133 = .ok (.getfield 58, 3) := by decide +kernel
theorem dX11_classify_136 : decode cX11_classify 136 = .ok (.iload_n 2, 1) := by decide +kernel
theorem dX11_classify_137 : decode cX11_classify 137 = .ok (.iaload, 1) := by decide +kernel
theorem dX11_classify_138 : decode cX11_classify 138 = .ok (.aload_n 0, 1) := by decide +kernel
theorem dX11_classify_139 : decode cX11_classify 139 = .ok (.getfield 64, 3) := by decide +kernel
theorem dX11_classify_142 : decode cX11_classify 142 = .ok (.iload_n 2, 1) := by decide +kernel
theorem dX11_classify_143 : decode cX11_classify 143 = .ok (.iaload, 1) := by decide +kernel
theorem dX11_classify_144 : decode cX11_classify 144 = .ok (.iastore, 1) := by decide +kernel
theorem dX11_classify_145 : decode cX11_classify 145 = .ok (.iinc 2 1, 3) := by decide +kernel
theorem dX11_classify_148 : decode cX11_classify 148 = .ok (.goto (-58), 3) := by decide +kernel
theorem dX11_classify_151 : decode cX11_classify 151 = .ok (.goto (-119), 3) := by decide +kernel
theorem dX11_classify_154 : decode cX11_classify 154 = .ok (.return_, 1) := by decide +kernel
theorem dX11_seeFrom_0 : decode cX11_seeFrom 0 = .ok (.aload_n 0, 1) := by decide +kernel
theorem dX11_seeFrom_1 : decode cX11_seeFrom 1 = .ok (.invokevirtual 253, 3) := by decide +kernel
theorem dX11_seeFrom_4 : decode cX11_seeFrom 4 = .ok (.aload_n 0, 1) := by decide +kernel
theorem dX11_seeFrom_5 : decode cX11_seeFrom 5 = .ok (.iload_n 1, 1) := by decide +kernel
theorem dX11_seeFrom_6 : decode cX11_seeFrom 6 = .ok (.invokevirtual 256, 3) := by decide +kernel
theorem dX11_seeFrom_9 : decode cX11_seeFrom 9 = .ok (.iconst 0, 1) := by decide +kernel
theorem dX11_seeFrom_10 : decode cX11_seeFrom 10 = .ok (.istore_n 2, 1) := by decide +kernel
theorem dX11_seeFrom_11 : decode cX11_seeFrom 11 = .ok (.iload_n 2, 1) := by decide +kernel
theorem dX11_seeFrom_12 : decode cX11_seeFrom 12 = .ok (.aload_n 0, 1) := by decide +kernel
theorem dX11_seeFrom_13 : decode cX11_seeFrom 13 = .ok (.getfield 250, 3) := by decide +kernel
theorem dX11_seeFrom_16 : decode cX11_seeFrom 16 = .ok (.if_icmp .ge 61, 3) := by decide +kernel
theorem dX11_seeFrom_19 : decode cX11_seeFrom 19 = .ok (.iconst 0, 1) := by decide +kernel
theorem dX11_seeFrom_20 : decode cX11_seeFrom 20 = .ok (.istore_n 3, 1) := by decide +kernel
theorem dX11_seeFrom_21 : decode cX11_seeFrom 21 = .ok (.iload_n 3, 1) := by decide +kernel
theorem dX11_seeFrom_22 : decode cX11_seeFrom 22 = .ok (.iconst 4, 1) := by decide +kernel
theorem dX11_seeFrom_23 : decode cX11_seeFrom 23 = .ok (.if_icmp .ge 48, 3) := by decide +kernel
theorem dX11_seeFrom_26 : decode cX11_seeFrom 26 = .ok (.aload_n 0, 1) := by decide +kernel
theorem dX11_seeFrom_27 : decode cX11_seeFrom 27 = .ok (.getfield 61, 3) := by decide +kernel
theorem dX11_seeFrom_30 : decode cX11_seeFrom 30 = .ok (.aload_n 0, 1) := by decide +kernel
theorem dX11_seeFrom_31 : decode cX11_seeFrom 31 = .ok (.getfield 36, 3) := by decide +kernel
theorem dX11_seeFrom_34 : decode cX11_seeFrom 34 = .ok (.iconst 4, 1) := by decide +kernel
theorem dX11_seeFrom_35 : decode cX11_seeFrom 35 = .ok (.aload_n 0, 1) := by decide +kernel
theorem dX11_seeFrom_36 : decode cX11_seeFrom 36 = .ok (.getfield 58, 3) := by decide +kernel
theorem dX11_seeFrom_39 : decode cX11_seeFrom 39 = .ok (.aload_n 0, 1) := by decide +kernel
theorem dX11_seeFrom_40 : decode cX11_seeFrom 40 = .ok (.getfield 71, 3) := by decide +kernel
theorem dX11_seeFrom_43 : decode cX11_seeFrom 43 = .ok (.iload_n 2, 1) := by decide +kernel
theorem dX11_seeFrom_44 : decode cX11_seeFrom 44 = .ok (.iaload, 1) := by decide +kernel
theorem dX11_seeFrom_45 : decode cX11_seeFrom 45 = .ok (.iaload, 1) := by decide +kernel
theorem dX11_seeFrom_46 : decode cX11_seeFrom 46 = .ok (.imul, 1) := by decide +kernel
theorem dX11_seeFrom_47 : decode cX11_seeFrom 47 = .ok (.iload_n 3, 1) := by decide +kernel
theorem dX11_seeFrom_48 : decode cX11_seeFrom 48 = .ok (.iadd, 1) := by decide +kernel
theorem dX11_seeFrom_49 : decode cX11_seeFrom 49 = .ok (.iaload, 1) := by decide +kernel
theorem dX11_seeFrom_50 : decode cX11_seeFrom 50 = .ok (.iaload, 1) := by decide +kernel
theorem dX11_seeFrom_51 : decode cX11_seeFrom 51 = .ok (.istore 4, 2) := by decide +kernel
theorem dX11_seeFrom_53 : decode cX11_seeFrom 53 = .ok (.iload 4, 2) := by decide +kernel
theorem dX11_seeFrom_55 : decode cX11_seeFrom 55 = .ok (.iconst (-1), 1) := by decide +kernel
theorem dX11_seeFrom_56 : decode cX11_seeFrom 56 = .ok (.if_icmp .eq 9, 3) := by decide +kernel
theorem dX11_seeFrom_59 : decode cX11_seeFrom 59 = .ok (.aload_n 0, 1) := by decide +kernel
theorem dX11_seeFrom_60 : decode cX11_seeFrom 60 = .ok (.iload 4, 2) := by decide +kernel
theorem dX11_seeFrom_62 : decode cX11_seeFrom 62 = .ok (.invokevirtual 256, 3) := by decide +kernel
theorem dX11_seeFrom_65 : decode cX11_seeFrom 65 = .ok (.iinc 3 1, 3) := by decide +kernel
theorem dX11_seeFrom_68 : decode cX11_seeFrom 68 = .ok (.goto (-47), 3) := by decide +kernel
theorem dX11_seeFrom_71 : decode cX11_seeFrom 71 = .ok (.iinc 2 1, 3) := by decide +kernel
theorem dX11_seeFrom_74 : decode cX11_seeFrom 74 = .ok (.goto (-63), 3) := by decide +kernel
theorem dX11_seeFrom_77 : decode cX11_seeFrom 77 = .ok (.return_, 1) := by decide +kernel
theorem dX11_findMembers_0 : decode cX11_findMembers 0 = .ok (.aload_n 0, 1) := by decide +kernel
theorem dX11_findMembers_1 : decode cX11_findMembers 1 = .ok (.iload_n 1, 1) := by decide +kernel
theorem dX11_findMembers_2 : decode cX11_findMembers 2 = .ok (.invokevirtual 186, 3) := by decide +kernel
theorem dX11_findMembers_5 : decode cX11_findMembers 5 = .ok (.ifCond .ne 6, 3) := by decide +kernel
theorem dX11_findMembers_8 : decode cX11_findMembers 8 = .ok (.bipush (-4), 2) := by decide +kernel
theorem dX11_findMembers_10 : decode cX11_findMembers 10 = .ok (.ireturn, 1) := by decide +kernel
theorem dX11_findMembers_11 : decode cX11_findMembers 11 = .ok (.aload_n 0, 1) := by decide +kernel
theorem dX11_findMembers_12 : decode cX11_findMembers 12 = .ok (.iload_n 1, 1) := by decide +kernel
theorem dX11_findMembers_13 : decode cX11_findMembers 13 = .ok (.invokevirtual 201, 3) := by decide +kernel
theorem dX11_findMembers_16 : decode cX11_findMembers 16 = .ok (.aload_n 0, 1) := by decide +kernel
theorem dX11_findMembers_17 : decode cX11_findMembers 17 = .ok (.invokevirtual 265, 3) := by decide +kernel
theorem dX11_findMembers_20 : decode cX11_findMembers 20 = .ok (.aload_n 0, 1) := by decide +kernel
theorem dX11_findMembers_21 : decode cX11_findMembers 21 = .ok (.invokevirtual 268, 3) := by decide +kernel
theorem dX11_findMembers_24 : decode cX11_findMembers 24 = .ok (.iconst (-1), 1) := by decide +kernel
theorem dX11_findMembers_25 : decode cX11_findMembers 25 = .ok (.istore_n 2, 1) := by decide +kernel
theorem dX11_findMembers_26 : decode cX11_findMembers 26 = .ok (.iconst 0, 1) := by decide +kernel
theorem dX11_findMembers_27 : decode cX11_findMembers 27 = .ok (.istore_n 3, 1) := by decide +kernel
theorem dX11_findMembers_28 : decode cX11_findMembers 28 = .ok (.iconst 0, 1) := by decide +kernel
theorem dX11_findMembers_29 : decode cX11_findMembers 29 = .ok (.istore 4, 2) := by decide +kernel
theorem dX11_findMembers_31 : decode cX11_findMembers 31 = .ok (.iload 4, 2) := by decide +kernel
theorem dX11_findMembers_33 : decode cX11_findMembers 33 = .ok (.aload_n 0, 1) := by decide +kernel
theorem dX11_findMembers_34 : decode cX11_findMembers 34 = .ok (.getfield 259, 3) := by decide +kernel
theorem dX11_findMembers_37 : decode cX11_findMembers 37 = .ok (.if_icmp .ge 53, 3) := by decide +kernel
theorem dX11_findMembers_40 : decode cX11_findMembers 40 = .ok (.aload_n 0, 1) := by decide +kernel
theorem dX11_findMembers_41 : decode cX11_findMembers 41 = .ok (.getfield 61, 3) := by decide +kernel
theorem dX11_findMembers_44 : decode cX11_findMembers 44 = .ok (.aload_n 0, 1) := by decide +kernel
theorem dX11_findMembers_45 : decode cX11_findMembers 45 = .ok (.getfield 58, 3) := by decide +kernel
theorem dX11_findMembers_48 : decode cX11_findMembers 48 = .ok (.iload 4, 2) := by decide +kernel
theorem dX11_findMembers_50 : decode cX11_findMembers 50 = .ok (.iaload, 1) := by decide +kernel
theorem dX11_findMembers_51 : decode cX11_findMembers 51 = .ok (.iaload, 1) := by decide +kernel
theorem dX11_findMembers_52 : decode cX11_findMembers 52 = .ok (.iload 4, 2) := by decide +kernel
theorem dX11_findMembers_54 : decode cX11_findMembers 54 = .ok (.if_icmp .ne 30, 3) := by decide +kernel
theorem dX11_findMembers_57 : decode cX11_findMembers 57 = .ok (.aload_n 0, 1) := by decide +kernel
theorem dX11_findMembers_58 : decode cX11_findMembers 58 = .ok (.iload 4, 2) := by decide +kernel
theorem dX11_findMembers_60 : decode cX11_findMembers 60 = .ok (.invokevirtual 271, 3) := by decide +kernel
theorem dX11_findMembers_63 : decode cX11_findMembers 63 = .ok (.iload_n 2, 1) := by decide +kernel
theorem dX11_findMembers_64 : decode cX11_findMembers 64 = .ok (.iconst (-1), 1) := by decide +kernel
theorem dX11_findMembers_65 : decode cX11_findMembers 65 = .ok (.if_icmp .eq 11, 3) := by decide +kernel
theorem dX11_findMembers_68 : decode cX11_findMembers 68 = .ok (.aload_n 0, 1) := by decide +kernel
theorem dX11_findMembers_69 : decode cX11_findMembers 69 = .ok (.getfield 250, 3) := by decide +kernel
theorem dX11_findMembers_72 : decode cX11_findMembers 72 = .ok (.iload_n 3, 1) := by decide +kernel
theorem dX11_findMembers_73 : decode cX11_findMembers 73 = .ok (.if_icmp .ge 11, 3) := by decide +kernel
theorem dX11_findMembers_76 : decode cX11_findMembers 76 = .ok (.iload 4, 2) := by decide +kernel
theorem dX11_findMembers_78 : decode cX11_findMembers 78 = .ok (.istore_n 2, 1) := by decide +kernel
theorem dX11_findMembers_79 : decode cX11_findMembers 79 = .ok (.aload_n 0, 1) := by decide +kernel
theorem dX11_findMembers_80 : decode cX11_findMembers 80 = .ok (.getfield 250, 3) := by decide +kernel
theorem dX11_findMembers_83 : decode cX11_findMembers 83 = .ok (.istore_n 3, 1) := by decide +kernel
theorem dX11_findMembers_84 : decode cX11_findMembers 84 = .ok (.iinc 4 1, 3) := by decide +kernel
theorem dX11_findMembers_87 : decode cX11_findMembers 87 = .ok (.goto (-56), 3) := by decide +kernel
theorem dX11_findMembers_90 : decode cX11_findMembers 90 = .ok (.iload_n 3, 1) := by decide +kernel
theorem dX11_findMembers_91 : decode cX11_findMembers 91 = .ok (.bipush 8, 2) := by decide +kernel
theorem dX11_findMembers_93 : decode cX11_findMembers 93 = .ok (.if_icmp .le 6, 3) := by decide +kernel
theorem dX11_findMembers_96 : decode cX11_findMembers 96 = .ok (.bipush (-5), 2) := by decide +kernel
theorem dX11_findMembers_98 : decode cX11_findMembers 98 = .ok (.ireturn, 1) := by decide +kernel
theorem dX11_findMembers_99 : decode cX11_findMembers 99 = .ok (.aload_n 0, 1) := by decide +kernel
theorem dX11_findMembers_100 : decode cX11_findMembers 100 = .ok (.iload_n 2, 1) := by decide +kernel
theorem dX11_findMembers_101 : decode cX11_findMembers 101 = .ok (.invokevirtual 271, 3) := by decide +kernel
theorem dX11_findMembers_104 : decode cX11_findMembers 104 = .ok (.aload_n 0, 1) := by decide +kernel
theorem dX11_findMembers_105 : decode cX11_findMembers 105 = .ok (.aload_n 0, 1) := by decide +kernel
theorem dX11_findMembers_106 : decode cX11_findMembers 106 = .ok (.getfield 250, 3) := by decide +kernel
theorem dX11_findMembers_109 : decode cX11_findMembers 109 = .ok (.putfield 274, 3) := by decide +kernel
theorem dX11_findMembers_112 : decode cX11_findMembers 112 = .ok (.iconst 0, 1) := by decide +kernel
theorem dX11_findMembers_113 : decode cX11_findMembers 113 = .ok (.istore 4, 2) := by decide +kernel
theorem dX11_findMembers_115 : decode cX11_findMembers 115 = .ok (.iload 4, 2) := by decide +kernel
theorem dX11_findMembers_117 : decode cX11_findMembers 117 = .ok (.aload_n 0, 1) := by decide +kernel
theorem dX11_findMembers_118 : decode cX11_findMembers 118 = .ok (.getfield 274, 3) := by decide +kernel
theorem dX11_findMembers_121 : decode cX11_findMembers 121 = .ok (.if_icmp .ge 23, 3) := by decide +kernel
theorem dX11_findMembers_124 : decode cX11_findMembers 124 = .ok (.aload_n 0, 1) := by decide +kernel
theorem dX11_findMembers_125 : decode cX11_findMembers 125 = .ok (.getfield 74, 3) := by decide +kernel
theorem dX11_findMembers_128 : decode cX11_findMembers 128 = .ok (.iload 4, 2) := by decide +kernel
theorem dX11_findMembers_130 : decode cX11_findMembers 130 = .ok (.aload_n 0, 1) := by decide +kernel
theorem dX11_findMembers_131 : decode cX11_findMembers 131 = .ok (.getfield 71, 3) := by decide +kernel
theorem dX11_findMembers_134 : decode cX11_findMembers 134 = .ok (.iload 4, 2) := by decide +kernel
theorem dX11_findMembers_136 : decode cX11_findMembers 136 = .ok (.iaload, 1) := by decide +kernel
theorem dX11_findMembers_137 : decode cX11_findMembers 137 = .ok (.iastore, 1) := by decide +kernel
theorem dX11_findMembers_138 : decode cX11_findMembers 138 = .ok (.iinc 4 1, 3) := by decide +kernel
theorem dX11_findMembers_141 : decode cX11_findMembers 141 = .ok (.goto (-26), 3) := by decide +kernel
theorem dX11_findMembers_144 : decode cX11_findMembers 144 = .ok (.iconst 0, 1) := by decide +kernel
theorem dX11_findMembers_145 : decode cX11_findMembers 145 = .ok (.istore 4, 2) := by decide +kernel
theorem dX11_findMembers_147 : decode cX11_findMembers 147 = .ok (.iload 4, 2) := by decide +kernel
theorem dX11_findMembers_149 : decode cX11_findMembers 149 = .ok (.aload_n 0, 1) := by decide +kernel
theorem dX11_findMembers_150 : decode cX11_findMembers 150 = .ok (.getfield 274, 3) := by decide +kernel
theorem dX11_findMembers_153 : decode cX11_findMembers 153 = .ok (.if_icmp .ge 67, 3) := by decide +kernel
theorem dX11_findMembers_156 : decode cX11_findMembers 156 = .ok (.iconst 0, 1) := by decide +kernel
theorem dX11_findMembers_157 : decode cX11_findMembers 157 = .ok (.istore 5, 2) := by decide +kernel
theorem dX11_findMembers_159 : decode cX11_findMembers 159 = .ok (.iload 5, 2) := by decide +kernel
theorem dX11_findMembers_161 : decode cX11_findMembers 161 = .ok (.iconst 4, 1) := by decide +kernel
theorem dX11_findMembers_162 : decode cX11_findMembers 162 = .ok (.if_icmp .ge 52, 3) := by decide +kernel
theorem dX11_findMembers_165 : decode cX11_findMembers 165 = .ok (.aload_n 0, 1) := by decide +kernel
theorem dX11_findMembers_166 : decode cX11_findMembers 166 = .ok (.getfield 77, 3) := by decide +kernel
theorem dX11_findMembers_169 : decode cX11_findMembers 169 = .ok (.iconst 4, 1) := by decide +kernel
theorem dX11_findMembers_170 : decode cX11_findMembers 170 = .ok (.iload 4, 2) := by decide +kernel
theorem dX11_findMembers_172 : decode cX11_findMembers 172 = .ok (.imul, 1) := by decide +kernel
theorem dX11_findMembers_173 : decode cX11_findMembers 173 = .ok (.iload 5, 2) := by decide +kernel
theorem dX11_findMembers_175 : decode cX11_findMembers 175 = .ok (.iadd, 1) := by decide +kernel
theorem dX11_findMembers_176 : decode cX11_findMembers 176 = .ok (.aload_n 0, 1) := by decide +kernel
theorem dX11_findMembers_177 : decode cX11_findMembers 177 = .ok (.aload_n 0, 1) := by decide +kernel
theorem dX11_findMembers_178 : decode cX11_findMembers 178 = .ok (.getfield 61, 3) := by decide +kernel
theorem dX11_findMembers_181 : decode cX11_findMembers 181 = .ok (.aload_n 0, 1) := by decide +kernel
theorem dX11_findMembers_182 : decode cX11_findMembers 182 = .ok (.getfield 36, 3) := by decide +kernel
theorem dX11_findMembers_185 : decode cX11_findMembers 185 = .ok (.iconst 4, 1) := by decide +kernel
theorem dX11_findMembers_186 : decode cX11_findMembers 186 = .ok (.aload_n 0, 1) := by decide +kernel
theorem dX11_findMembers_187 : decode cX11_findMembers 187 = .ok (.getfield 58, 3) := by decide +kernel
theorem dX11_findMembers_190 : decode cX11_findMembers 190 = .ok (.aload_n 0, 1) := by decide +kernel
theorem dX11_findMembers_191 : decode cX11_findMembers 191 = .ok (.getfield 74, 3) := by decide +kernel
theorem dX11_findMembers_194 : decode cX11_findMembers 194 = .ok (.iload 4, 2) := by decide +kernel
theorem dX11_findMembers_196 : decode cX11_findMembers 196 = .ok (.iaload, 1) := by decide +kernel
theorem dX11_findMembers_197 : decode cX11_findMembers 197 = .ok (.iaload, 1) := by decide +kernel
theorem dX11_findMembers_198 : decode cX11_findMembers 198 = .ok (.imul, 1) := by decide +kernel
theorem dX11_findMembers_199 : decode cX11_findMembers 199 = .ok (.iload 5, 2) := by decide +kernel
theorem dX11_findMembers_201 : decode cX11_findMembers 201 = .ok (.iadd, 1) := by decide +kernel
theorem dX11_findMembers_202 : decode cX11_findMembers 202 = .ok (.iaload, 1) := by decide +kernel
theorem dX11_findMembers_203 : decode cX11_findMembers 203 = .ok (.iaload, 1) := by decide +kernel
theorem dX11_findMembers_204 : decode cX11_findMembers 204 = .ok (.invokevirtual 277, 3) := by decide +kernel
theorem dX11_findMembers_207 : decode cX11_findMembers 207 = .ok (.iastore, 1) := by decide +kernel
theorem dX11_findMembers_208 : decode cX11_findMembers 208 = .ok (.iinc 5 1, 3) := by decide +kernel
theorem dX11_findMembers_211 : decode cX11_findMembers 211 = .ok (.goto (-52), 3) := by decide +kernel
theorem dX11_findMembers_214 : decode cX11_findMembers 214 = .ok (.iinc 4 1, 3) := by decide +kernel
theorem dX11_findMembers_217 : decode cX11_findMembers 217 = .ok (.goto (-70), 3) := by decide +kernel
theorem dX11_findMembers_220 : decode cX11_findMembers 220 = .ok (.iconst 0, 1) := by decide +kernel
theorem dX11_findMembers_221 : decode cX11_findMembers 221 = .ok (.ireturn, 1) := by decide +kernel
theorem dX11_memberOf_0 : decode cX11_memberOf 0 = .ok (.iconst 0, 1) := by decide +kernel
theorem dX11_memberOf_1 : decode cX11_memberOf 1 = .ok (.istore_n 2, 1) := by decide +kernel
theorem dX11_memberOf_2 : decode cX11_memberOf 2 = .ok (.iload_n 2, 1) := by decide +kernel
theorem dX11_memberOf_3 : decode cX11_memberOf 3 = .ok (.aload_n 0, 1) := by decide +kernel
theorem dX11_memberOf_4 : decode cX11_memberOf 4 = .ok (.getfield 274, 3) := by decide +kernel
theorem dX11_memberOf_7 : decode cX11_memberOf 7 = .ok (.if_icmp .ge 21, 3) := by decide +kernel
theorem dX11_memberOf_10 : decode cX11_memberOf 10 = .ok (.aload_n 0, 1) := by decide +kernel
theorem dX11_memberOf_11 : decode cX11_memberOf 11 = .ok (.getfield 74, 3) := by decide +kernel
theorem dX11_memberOf_14 : decode cX11_memberOf 14 = .ok (.iload_n 2, 1) := by decide +kernel
theorem dX11_memberOf_15 : decode cX11_memberOf 15 = .ok (.iaload, 1) := by decide +kernel
theorem dX11_memberOf_16 : decode cX11_memberOf 16 = .ok (.iload_n 1, 1) := by decide +kernel
theorem dX11_memberOf_17 : decode cX11_memberOf 17 = .ok (.if_icmp .ne 5, 3) := by decide +kernel
theorem dX11_memberOf_20 : decode cX11_memberOf 20 = .ok (.iload_n 2, 1) := by decide +kernel
theorem dX11_memberOf_21 : decode cX11_memberOf 21 = .ok (.ireturn, 1) := by decide +kernel
theorem dX11_memberOf_22 : decode cX11_memberOf 22 = .ok (.iinc 2 1, 3) := by decide +kernel
theorem dX11_memberOf_25 : decode cX11_memberOf 25 = .ok (.goto (-23), 3) := by decide +kernel
theorem dX11_memberOf_28 : decode cX11_memberOf 28 = .ok (.iconst (-1), 1) := by decide +kernel
theorem dX11_memberOf_29 : decode cX11_memberOf 29 = .ok (.ireturn, 1) := by decide +kernel
theorem dX11_led_0 : decode cX11_led 0 = .ok (.iconst 0, 1) := by decide +kernel
theorem dX11_led_1 : decode cX11_led 1 = .ok (.istore_n 3, 1) := by decide +kernel
theorem dX11_led_2 : decode cX11_led 2 = .ok (.iconst 0, 1) := by decide +kernel
theorem dX11_led_3 : decode cX11_led 3 = .ok (.istore 4, 2) := by decide +kernel
theorem dX11_led_5 : decode cX11_led 5 = .ok (.iload 4, 2) := by decide +kernel
theorem dX11_led_7 : decode cX11_led 7 = .ok (.aload_n 0, 1) := by decide +kernel
theorem dX11_led_8 : decode cX11_led 8 = .ok (.getfield 274, 3) := by decide +kernel
theorem dX11_led_11 : decode cX11_led 11 = .ok (.if_icmp .ge 54, 3) := by decide +kernel
theorem dX11_led_14 : decode cX11_led 14 = .ok (.iload_n 3, 1) := by decide +kernel
theorem dX11_led_15 : decode cX11_led 15 = .ok (.iload_n 1, 1) := by decide +kernel
theorem dX11_led_16 : decode cX11_led 16 = .ok (.iload 4, 2) := by decide +kernel
theorem dX11_led_18 : decode cX11_led 18 = .ok (.ishr, 1) := by decide +kernel
theorem dX11_led_19 : decode cX11_led 19 = .ok (.iconst 1, 1) := by decide +kernel
theorem dX11_led_20 : decode cX11_led 20 = .ok (.iand, 1) := by decide +kernel
theorem dX11_led_21 : decode cX11_led 21 = .ok (.iconst 1, 1) := by decide +kernel
theorem dX11_led_22 : decode cX11_led 22 = .ok (.if_icmp .ne 34, 3) := by decide +kernel
theorem dX11_led_25 : decode cX11_led 25 = .ok (.aload_n 0, 1) := by decide +kernel
theorem dX11_led_26 : decode cX11_led 26 = .ok (.getfield 77, 3) := by decide +kernel
theorem dX11_led_29 : decode cX11_led 29 = .ok (.iconst 4, 1) := by decide +kernel
theorem dX11_led_30 : decode cX11_led 30 = .ok (.iload 4, 2) := by decide +kernel
theorem dX11_led_32 : decode cX11_led 32 = .ok (.imul, 1) := by decide +kernel
theorem dX11_led_33 : decode cX11_led 33 = .ok (.iload_n 2, 1) := by decide +kernel
theorem dX11_led_34 : decode cX11_led 34 = .ok (.iadd, 1) := by decide +kernel
theorem dX11_led_35 : decode cX11_led 35 = .ok (.iaload, 1) := by decide +kernel
theorem dX11_led_36 : decode cX11_led 36 = .ok (.iconst (-1), 1) := by decide +kernel
theorem dX11_led_37 : decode cX11_led 37 = .ok (.if_icmp .eq 19, 3) := by decide +kernel
theorem dX11_led_40 : decode cX11_led 40 = .ok (.iconst 1, 1) := by decide +kernel
theorem dX11_led_41 : decode cX11_led 41 = .ok (.aload_n 0, 1) := by decide +kernel
theorem dX11_led_42 : decode cX11_led 42 = .ok (.getfield 77, 3) := by decide +kernel
theorem dX11_led_45 : decode cX11_led 45 = .ok (.iconst 4, 1) := by decide +kernel
theorem dX11_led_46 : decode cX11_led 46 = .ok (.iload 4, 2) := by decide +kernel
theorem dX11_led_48 : decode cX11_led 48 = .ok (.imul, 1) := by decide +kernel
theorem dX11_led_49 : decode cX11_led 49 = .ok (.iload_n 2, 1) := by decide +kernel
theorem dX11_led_50 : decode cX11_led 50 = .ok (.iadd, 1) := by decide +kernel
theorem dX11_led_51 : decode cX11_led 51 = .ok (.iaload, 1) := by decide +kernel
theorem dX11_led_52 : decode cX11_led 52 = .ok (.ishl, 1) := by decide +kernel
theorem dX11_led_53 : decode cX11_led 53 = .ok (.goto 4, 3) := by decide +kernel
theorem dX11_led_56 : decode cX11_led 56 = .ok (.iconst 0, 1) := by decide +kernel
theorem dX11_led_57 : decode cX11_led 57 = .ok (.ior, 1) := by decide +kernel
theorem dX11_led_58 : decode cX11_led 58 = .ok (.istore_n 3, 1) := by decide +kernel
theorem dX11_led_59 : decode cX11_led 59 = .ok (.iinc 4 1, 3) := by decide +kernel
theorem dX11_led_62 : decode cX11_led 62 = .ok (.goto (-57), 3) := by decide +kernel
theorem dX11_led_65 : decode cX11_led 65 = .ok (.iload_n 3, 1) := by decide +kernel
theorem dX11_led_66 : decode cX11_led 66 = .ok (.ireturn, 1) := by decide +kernel
theorem dX11_findReset_0 : decode cX11_findReset 0 = .ok (.iconst 1, 1) := by decide +kernel
theorem dX11_findReset_1 : decode cX11_findReset 1 = .ok (.aload_n 0, 1) := by decide +kernel
theorem dX11_findReset_2 : decode cX11_findReset 2 = .ok (.getfield 274, 3) := by decide +kernel
theorem dX11_findReset_5 : decode cX11_findReset 5 = .ok (.ishl, 1) := by decide +kernel
theorem dX11_findReset_6 : decode cX11_findReset 6 = .ok (.iconst 1, 1) := by decide +kernel
theorem dX11_findReset_7 : decode cX11_findReset 7 = .ok (.isub, 1) := by decide +kernel
theorem dX11_findReset_8 : decode cX11_findReset 8 = .ok (.istore_n 1, 1) := by decide +kernel
theorem dX11_findReset_9 : decode cX11_findReset 9 = .ok (.aload_n 0, 1) := by decide +kernel
theorem dX11_findReset_10 : decode cX11_findReset 10 = .ok (.invokevirtual 253, 3) := by decide +kernel
theorem dX11_findReset_13 : decode cX11_findReset 13 = .ok (.aload_n 0, 1) := by decide +kernel
theorem dX11_findReset_14 : decode cX11_findReset 14 = .ok (.iload_n 1, 1) := by decide +kernel
theorem dX11_findReset_15 : decode cX11_findReset 15 = .ok (.invokevirtual 256, 3) := by decide +kernel
theorem dX11_findReset_18 : decode cX11_findReset 18 = .ok (.iload_n 1, 1) := by decide +kernel
theorem dX11_findReset_19 : decode cX11_findReset 19 = .ok (.invokestatic 122, 3) := by decide +kernel
theorem dX11_findReset_22 : decode cX11_findReset 22 = .ok (.iconst 1, 1) := by decide +kernel
theorem dX11_findReset_23 : decode cX11_findReset 23 = .ok (.if_icmp .ne 7, 3) := by decide +kernel
theorem dX11_findReset_26 : decode cX11_findReset 26 = .ok (.iload_n 1, 1) := by decide +kernel
theorem dX11_findReset_27 : decode cX11_findReset 27 = .ok (.goto 4, 3) := by decide +kernel
theorem dX11_findReset_30 : decode cX11_findReset 30 = .ok (.iconst 0, 1) := by decide +kernel
theorem dX11_findReset_31 : decode cX11_findReset 31 = .ok (.istore_n 2, 1) := by decide +kernel
theorem dX11_findReset_32 : decode cX11_findReset 32 = .ok (.iconst 0, 1) := by decide +kernel
theorem dX11_findReset_33 : decode cX11_findReset 33 = .ok (.istore_n 3, 1) := by decide +kernel
theorem dX11_findReset_34 : decode cX11_findReset 34 = .ok (.iload_n 2, 1) := by decide +kernel
theorem dX11_findReset_35 : decode cX11_findReset 35 = .ok (.ifCond .ne 101, 3) := by decide +kernel
theorem dX11_findReset_38 : decode cX11_findReset 38 = .ok (.iconst 0, 1) := by decide +kernel
theorem dX11_findReset_39 : decode cX11_findReset 39 = .ok (.istore 4, 2) := by decide +kernel
theorem dX11_findReset_41 : decode cX11_findReset 41 = .ok (.iload 4, 2) := by decide +kernel
theorem dX11_findReset_43 : decode cX11_findReset 43 = .ok (.iconst 4, 1) := by decide +kernel
theorem dX11_findReset_44 : decode cX11_findReset 44 = .ok (.if_icmp .ge 86, 3) := by decide +kernel
theorem dX11_findReset_47 : decode cX11_findReset 47 = .ok (.iload_n 2, 1) := by decide +kernel
theorem dX11_findReset_48 : decode cX11_findReset 48 = .ok (.ifCond .ne 82, 3) := by decide +kernel
theorem dX11_findReset_51 : decode cX11_findReset 51 = .ok (.aload_n 0, 1) := by decide +kernel
theorem dX11_findReset_52 : decode cX11_findReset 52 = .ok (.aload_n 0, 1) := by decide +kernel
theorem dX11_findReset_53 : decode cX11_findReset 53 = .ok (.getfield 71, 3) := by decide +kernel
theorem dX11_findReset_56 : decode cX11_findReset 56 = .ok (.iload_n 3, 1) := by decide +kernel
theorem dX11_findReset_57 : decode cX11_findReset 57 = .ok (.iaload, 1) := by decide +kernel
theorem dX11_findReset_58 : decode cX11_findReset 58 = .ok (.iload 4, 2) := by decide +kernel
theorem dX11_findReset_60 : decode cX11_findReset 60 = .ok (.invokevirtual 280, 3) := by decide +kernel
theorem dX11_findReset_63 : decode cX11_findReset 63 = .ok (.istore 5, 2) := by decide +kernel
theorem dX11_findReset_65 : decode cX11_findReset 65 = .ok (.iload 5, 2) := by decide +kernel
theorem dX11_findReset_67 : decode cX11_findReset 67 = .ok (.ifCond .eq 57, 3) := by decide +kernel
theorem dX11_findReset_70 : decode cX11_findReset 70 = .ok (.aload_n 0, 1) := by decide +kernel
theorem dX11_findReset_71 : decode cX11_findReset 71 = .ok (.getfield 67, 3) := by decide +kernel
theorem dX11_findReset_74 : decode cX11_findReset 74 = .ok (.iload 5, 2) := by decide +kernel
theorem dX11_findReset_76 : decode cX11_findReset 76 = .ok (.baload, 1) := by decide +kernel
theorem dX11_findReset_77 : decode cX11_findReset 77 = .ok (.ifCond .ne 47, 3) := by decide +kernel
theorem dX11_findReset_80 : decode cX11_findReset 80 = .ok (.aload_n 0, 1) := by decide +kernel
theorem dX11_findReset_81 : decode cX11_findReset 81 = .ok (.getfield 80, 3) := by decide +kernel
theorem dX11_findReset_84 : decode cX11_findReset 84 = .ok (.iload 5, 2) := by decide +kernel
theorem dX11_findReset_86 : decode cX11_findReset 86 = .ok (.aload_n 0, 1) := by decide +kernel
theorem dX11_findReset_87 : decode cX11_findReset 87 = .ok (.getfield 71, 3) := by decide +kernel
theorem dX11_findReset_90 : decode cX11_findReset 90 = .ok (.iload_n 3, 1) := by decide +kernel
theorem dX11_findReset_91 : decode cX11_findReset 91 = .ok (.iaload, 1) := by decide +kernel
theorem dX11_findReset_92 : decode cX11_findReset 92 = .ok (.iastore, 1) := by decide +kernel
theorem dX11_findReset_93 : decode cX11_findReset 93 = .ok (.aload_n 0, 1) := by decide +kernel
theorem dX11_findReset_94 : decode cX11_findReset 94 = .ok (.getfield 83, 3) := by decide +kernel
theorem dX11_findReset_97 : decode cX11_findReset 97 = .ok (.iload 5, 2) := by decide +kernel
theorem dX11_findReset_99 : decode cX11_findReset 99 = .ok (.iload 4, 2) := by decide +kernel
theorem dX11_findReset_101 : decode cX11_findReset 101 = .ok (.iastore, 1) := by decide +kernel
theorem dX11_findReset_102 : decode cX11_findReset 102 = .ok (.aload_n 0, 1) := by decide +kernel
theorem dX11_findReset_103 : decode cX11_findReset 103 = .ok (.iload 5, 2) := by decide +kernel
theorem dX11_findReset_105 : decode cX11_findReset 105 = .ok (.invokevirtual 256, 3) := by decide +kernel
theorem dX11_findReset_108 : decode cX11_findReset 108 = .ok (.iload 5, 2) := by decide +kernel
theorem dX11_findReset_110 : decode cX11_findReset 110 = .ok (.invokestatic 122, 3) := by decide +kernel
theorem dX11_findReset_113 : decode cX11_findReset 113 = .ok (.iconst 1, 1) := by decide +kernel
theorem dX11_findReset_114 : decode cX11_findReset 114 = .ok (.if_icmp .ne 8, 3) := by decide +kernel
theorem dX11_findReset_117 : decode cX11_findReset 117 = .ok (.iload 5, 2) := by decide +kernel
theorem dX11_findReset_119 : decode cX11_findReset 119 = .ok (.goto 4, 3) := by decide +kernel
theorem dX11_findReset_122 : decode cX11_findReset 122 = .ok (.iconst 0, 1) := by decide +kernel
theorem dX11_findReset_123 : decode cX11_findReset 123 = .ok (.istore_n 2, 1) := by decide +kernel
theorem dX11_findReset_124 : decode cX11_findReset 124 = .ok (.iinc 4 1, 3) := by decide +kernel
theorem dX11_findReset_127 : decode cX11_findReset 127 = .ok (.goto (-86), 3) := by decide +kernel
theorem dX11_findReset_130 : decode cX11_findReset 130 = .ok (.iinc 3 1, 3) := by decide +kernel
theorem dX11_findReset_133 : decode cX11_findReset 133 = .ok (.goto (-99), 3) := by decide +kernel
theorem dX11_findReset_136 : decode cX11_findReset 136 = .ok (.aload_n 0, 1) := by decide +kernel
theorem dX11_findReset_137 : decode cX11_findReset 137 = .ok (.iconst 0, 1) := by decide +kernel
theorem dX11_findReset_138 : decode cX11_findReset 138 = .ok (.putfield 167, 3) := by decide +kernel
theorem dX11_findReset_141 : decode cX11_findReset 141 = .ok (.iload_n 2, 1) := by decide +kernel
theorem dX11_findReset_142 : decode cX11_findReset 142 = .ok (.istore_n 3, 1) := by decide +kernel
theorem dX11_findReset_143 : decode cX11_findReset 143 = .ok (.iload_n 3, 1) := by decide +kernel
theorem dX11_findReset_144 : decode cX11_findReset 144 = .ok (.iload_n 1, 1) := by decide +kernel
theorem dX11_findReset_145 : decode cX11_findReset 145 = .ok (.if_icmp .eq 23, 3) := by decide +kernel
theorem dX11_findReset_148 : decode cX11_findReset 148 = .ok (.aload_n 0, 1) := by decide +kernel
theorem dX11_findReset_149 : decode cX11_findReset 149 = .ok (.dup, 1) := by decide +kernel
theorem dX11_findReset_150 : decode cX11_findReset 150 = .ok (.getfield 167, 3) := by decide +kernel
theorem dX11_findReset_153 : decode cX11_findReset 153 = .ok (.iconst 1, 1) := by decide +kernel
theorem dX11_findReset_154 : decode cX11_findReset 154 = .ok (.iadd, 1) := by decide +kernel
theorem dX11_findReset_155 : decode cX11_findReset 155 = .ok (.putfield 167, 3) := by decide +kernel
theorem dX11_findReset_158 : decode cX11_findReset 158 = .ok (.aload_n 0, 1) := by decide +kernel
theorem dX11_findReset_159 : decode cX11_findReset 159 = .ok (.getfield 80, 3) := by decide +kernel
theorem dX11_findReset_162 : decode cX11_findReset 162 = .ok (.iload_n 3, 1) := by decide +kernel
theorem dX11_findReset_163 : decode cX11_findReset 163 = .ok (.iaload, 1) := by decide +kernel
theorem dX11_findReset_164 : decode cX11_findReset 164 = .ok (.istore_n 3, 1) := by decide +kernel
theorem dX11_findReset_165 : decode cX11_findReset 165 = .ok (.goto (-22), 3) := by decide +kernel
theorem dX11_findReset_168 : decode cX11_findReset 168 = .ok (.aload_n 0, 1) := by decide +kernel
theorem dX11_findReset_169 : decode cX11_findReset 169 = .ok (.getfield 167, 3) := by decide +kernel
theorem dX11_findReset_172 : decode cX11_findReset 172 = .ok (.iconst 1, 1) := by decide +kernel
theorem dX11_findReset_173 : decode cX11_findReset 173 = .ok (.isub, 1) := by decide +kernel
theorem dX11_findReset_174 : decode cX11_findReset 174 = .ok (.istore_n 3, 1) := by decide +kernel
theorem dX11_findReset_175 : decode cX11_findReset 175 = .ok (.iload_n 2, 1) := by decide +kernel
theorem dX11_findReset_176 : decode cX11_findReset 176 = .ok (.istore 4, 2) := by decide +kernel
theorem dX11_findReset_178 : decode cX11_findReset 178 = .ok (.iload 4, 2) := by decide +kernel
theorem dX11_findReset_180 : decode cX11_findReset 180 = .ok (.iload_n 1, 1) := by decide +kernel
theorem dX11_findReset_181 : decode cX11_findReset 181 = .ok (.if_icmp .eq 31, 3) := by decide +kernel
theorem dX11_findReset_184 : decode cX11_findReset 184 = .ok (.aload_n 0, 1) := by decide +kernel
theorem dX11_findReset_185 : decode cX11_findReset 185 = .ok (.getfield 33, 3) := by decide +kernel
theorem dX11_findReset_188 : decode cX11_findReset 188 = .ok (.iload_n 3, 1) := by decide +kernel
theorem dX11_findReset_189 : decode cX11_findReset 189 = .ok (.aload_n 0, 1) := by decide +kernel
theorem dX11_findReset_190 : decode cX11_findReset 190 = .ok (.getfield 83, 3) := by decide +kernel
theorem dX11_findReset_193 : decode cX11_findReset 193 = .ok (.iload 4, 2) := by decide +kernel
theorem dX11_findReset_195 : decode cX11_findReset 195 = .ok (.iaload, 1) := by decide +kernel
theorem dX11_findReset_196 : decode cX11_findReset 196 = .ok (.iastore, 1) := by decide +kernel
theorem dX11_findReset_197 : decode cX11_findReset 197 = .ok (.iinc 3 (-1), 3) := by decide +kernel
theorem dX11_findReset_200 : decode cX11_findReset 200 = .ok (.aload_n 0, 1) := by decide +kernel
theorem dX11_findReset_201 : decode cX11_findReset 201 = .ok (.getfield 80, 3) := by decide +kernel
theorem dX11_findReset_204 : decode cX11_findReset 204 = .ok (.iload 4, 2) := by decide +kernel
theorem dX11_findReset_206 : decode cX11_findReset 206 = .ok (.iaload, 1) := by decide +kernel
theorem dX11_findReset_207 : decode cX11_findReset 207 = .ok (.istore 4, 2) := by decide +kernel
theorem dX11_findReset_209 : decode cX11_findReset 209 = .ok (.goto (-31), 3) := by decide +kernel
theorem dX11_findReset_212 : decode cX11_findReset 212 = .ok (.iload_n 2, 1) := by decide +kernel
theorem dX11_findReset_213 : decode cX11_findReset 213 = .ok (.invokestatic 283, 3) := by decide +kernel
theorem dX11_findReset_216 : decode cX11_findReset 216 = .ok (.ireturn, 1) := by decide +kernel
theorem dX11_findCover_0 : decode cX11_findCover 0 = .ok (.aload_n 0, 1) := by decide +kernel
theorem dX11_findCover_1 : decode cX11_findCover 1 = .ok (.iload_n 1, 1) := by decide +kernel
theorem dX11_findCover_2 : decode cX11_findCover 2 = .ok (.invokevirtual 286, 3) := by decide +kernel
theorem dX11_findCover_5 : decode cX11_findCover 5 = .ok (.istore_n 2, 1) := by decide +kernel
theorem dX11_findCover_6 : decode cX11_findCover 6 = .ok (.iload_n 2, 1) := by decide +kernel
theorem dX11_findCover_7 : decode cX11_findCover 7 = .ok (.ifCond .eq 5, 3) := by decide +kernel
theorem dX11_findCover_10 : decode cX11_findCover 10 = .ok (.iload_n 2, 1) := by decide +kernel
theorem dX11_findCover_11 : decode cX11_findCover 11 = .ok (.ireturn, 1) := by decide +kernel
theorem dX11_findCover_12 : decode cX11_findCover 12 = .ok (.aload_n 0, 1) := by decide +kernel
theorem dX11_findCover_13 : decode cX11_findCover 13 = .ok (.invokevirtual 253, 3) := by decide +kernel
theorem dX11_findCover_16 : decode cX11_findCover 16 = .ok (.aload_n 0, 1) := by decide +kernel
theorem dX11_findCover_17 : decode cX11_findCover 17 = .ok (.aload_n 0, 1) := by decide +kernel
theorem dX11_findCover_18 : decode cX11_findCover 18 = .ok (.invokevirtual 289, 3) := by decide +kernel
theorem dX11_findCover_21 : decode cX11_findCover 21 = .ok (.invokevirtual 256, 3) := by decide +kernel
theorem dX11_findCover_24 : decode cX11_findCover 24 = .ok (.iconst 0, 1) := by decide +kernel
theorem dX11_findCover_25 : decode cX11_findCover 25 = .ok (.istore_n 3, 1) := by decide +kernel
theorem dX11_findCover_26 : decode cX11_findCover 26 = .ok (.iload_n 3, 1) := by decide +kernel
theorem dX11_findCover_27 : decode cX11_findCover 27 = .ok (.aload_n 0, 1) := by decide +kernel
theorem dX11_findCover_28 : decode cX11_findCover 28 = .ok (.getfield 250, 3) := by decide +kernel
theorem dX11_findCover_31 : decode cX11_findCover 31 = .ok (.if_icmp .ge 66, 3) := by decide +kernel
theorem dX11_findCover_34 : decode cX11_findCover 34 = .ok (.aload_n 0, 1) := by decide +kernel
theorem dX11_findCover_35 : decode cX11_findCover 35 = .ok (.getfield 86, 3) := by decide +kernel
theorem dX11_findCover_38 : decode cX11_findCover 38 = .ok (.aload_n 0, 1) := by decide +kernel
theorem dX11_findCover_39 : decode cX11_findCover 39 = .ok (.getfield 71, 3) := by decide +kernel
theorem dX11_findCover_42 : decode cX11_findCover 42 = .ok (.iload_n 3, 1) := by decide +kernel
theorem dX11_findCover_43 : decode cX11_findCover 43 = .ok (.iaload, 1) := by decide +kernel
theorem dX11_findCover_44 : decode cX11_findCover 44 = .ok (.iload_n 3, 1) := by decide +kernel
theorem dX11_findCover_45 : decode cX11_findCover 45 = .ok (.iastore, 1) := by decide +kernel
theorem dX11_findCover_46 : decode cX11_findCover 46 = .ok (.iconst 0, 1) := by decide +kernel
theorem dX11_findCover_47 : decode cX11_findCover 47 = .ok (.istore 4, 2) := by decide +kernel
theorem dX11_findCover_49 : decode cX11_findCover 49 = .ok (.iload 4, 2) := by decide +kernel
theorem dX11_findCover_51 : decode cX11_findCover 51 = .ok (.iconst 4, 1) := by decide +kernel
theorem dX11_findCover_52 : decode cX11_findCover 52 = .ok (.if_icmp .ge 39, 3) := by decide +kernel
theorem dX11_findCover_55 : decode cX11_findCover 55 = .ok (.aload_n 0, 1) := by decide +kernel
theorem dX11_findCover_56 : decode cX11_findCover 56 = .ok (.getfield 77, 3) := by decide +kernel
theorem dX11_findCover_59 : decode cX11_findCover 59 = .ok (.iconst 4, 1) := by decide +kernel
theorem dX11_findCover_60 : decode cX11_findCover 60 = .ok (.aload_n 0, 1) := by decide +kernel
theorem dX11_findCover_61 : decode cX11_findCover 61 = .ok (.getfield 71, 3) := by decide +kernel
theorem dX11_findCover_64 : decode cX11_findCover 64 = .ok (.iload_n 3, 1) := by decide +kernel
theorem dX11_findCover_65 : decode cX11_findCover 65 = .ok (.iaload, 1) := by decide +kernel
theorem dX11_findCover_66 : decode cX11_findCover 66 = .ok (.imul, 1) := by decide +kernel
theorem dX11_findCover_67 : decode cX11_findCover 67 = .ok (.iload 4, 2) := by decide +kernel
theorem dX11_findCover_69 : decode cX11_findCover 69 = .ok (.iadd, 1) := by decide +kernel
theorem dX11_findCover_70 : decode cX11_findCover 70 = .ok (.iaload, 1) := by decide +kernel
theorem dX11_findCover_71 : decode cX11_findCover 71 = .ok (.istore 5, 2) := by decide +kernel
theorem dX11_findCover_73 : decode cX11_findCover 73 = .ok (.iload 5, 2) := by decide +kernel
theorem dX11_findCover_75 : decode cX11_findCover 75 = .ok (.iconst (-1), 1) := by decide +kernel
theorem dX11_findCover_76 : decode cX11_findCover 76 = .ok (.if_icmp .eq 9, 3) := by decide +kernel
theorem dX11_findCover_79 : decode cX11_findCover 79 = .ok (.aload_n 0, 1) := by decide +kernel
theorem dX11_findCover_80 : decode cX11_findCover 80 = .ok (.iload 5, 2) := by decide +kernel
theorem dX11_findCover_82 : decode cX11_findCover 82 = .ok (.invokevirtual 256, 3) := by decide +kernel
theorem dX11_findCover_85 : decode cX11_findCover 85 = .ok (.iinc 4 1, 3) := by decide +kernel
theorem dX11_findCover_88 : decode cX11_findCover 88 = .ok (.goto (-39), 3) := by decide +kernel
theorem dX11_findCover_91 : decode cX11_findCover 91 = .ok (.iinc 3 1, 3) := by decide +kernel
theorem dX11_findCover_94 : decode cX11_findCover 94 = .ok (.goto (-68), 3) := by decide +kernel
theorem dX11_findCover_97 : decode cX11_findCover 97 = .ok (.iconst 0, 1) := by decide +kernel
theorem dX11_findCover_98 : decode cX11_findCover 98 = .ok (.istore_n 3, 1) := by decide +kernel
theorem dX11_findCover_99 : decode cX11_findCover 99 = .ok (.iload_n 3, 1) := by decide +kernel
theorem dX11_findCover_100 : decode cX11_findCover 100 = .ok (.aload_n 0, 1) := by decide +kernel
theorem dX11_findCover_101 : decode cX11_findCover 101 = .ok (.getfield 274, 3) := by decide +kernel
theorem dX11_findCover_104 : decode cX11_findCover 104 = .ok (.if_icmp .ge 70, 3) := by decide +kernel
theorem dX11_findCover_107 : decode cX11_findCover 107 = .ok (.iconst 0, 1) := by decide +kernel
theorem dX11_findCover_108 : decode cX11_findCover 108 = .ok (.istore 4, 2) := by decide +kernel
theorem dX11_findCover_110 : decode cX11_findCover 110 = .ok (.iload 4, 2) := by decide +kernel
theorem dX11_findCover_112 : decode cX11_findCover 112 = .ok (.iconst 4, 1) := by decide +kernel
theorem dX11_findCover_113 : decode cX11_findCover 113 = .ok (.if_icmp .ge 55, 3) := by decide +kernel
theorem dX11_findCover_116 : decode cX11_findCover 116 = .ok (.aload_n 0, 1) := by decide +kernel
theorem dX11_findCover_117 : decode cX11_findCover 117 = .ok (.getfield 77, 3) := by decide +kernel
theorem dX11_findCover_120 : decode cX11_findCover 120 = .ok (.iconst 4, 1) := by decide +kernel
theorem dX11_findCover_121 : decode cX11_findCover 121 = .ok (.iload_n 3, 1) := by decide +kernel
theorem dX11_findCover_122 : decode cX11_findCover 122 = .ok (.imul, 1) := by decide +kernel
theorem dX11_findCover_123 : decode cX11_findCover 123 = .ok (.iload 4, 2) := by decide +kernel
theorem dX11_findCover_125 : decode cX11_findCover 125 = .ok (.iadd, 1) := by decide +kernel
theorem dX11_findCover_126 : decode cX11_findCover 126 = .ok (.iaload, 1) := by decide +kernel
theorem dX11_findCover_127 : decode cX11_findCover 127 = .ok (.istore 5, 2) := by decide +kernel
theorem dX11_findCover_129 : decode cX11_findCover 129 = .ok (.aload_n 0, 1) := by decide +kernel
theorem dX11_findCover_130 : decode cX11_findCover 130 = .ok (.getfield 89, 3) := by decide +kernel
theorem dX11_findCover_133 : decode cX11_findCover 133 = .ok (.iconst 4, 1) := by decide +kernel
theorem dX11_findCover_134 : decode cX11_findCover 134 = .ok (.aload_n 0, 1) := by decide +kernel
theorem dX11_findCover_135 : decode cX11_findCover 135 = .ok (.getfield 86, 3) := by decide +kernel
theorem dX11_findCover_138 : decode cX11_findCover 138 = .ok (.iload_n 3, 1) := by decide +kernel
theorem dX11_findCover_139 : decode cX11_findCover 139 = .ok (.iaload, 1) := by decide +kernel
theorem dX11_findCover_140 : decode cX11_findCover 140 = .ok (.imul, 1) := by decide +kernel
theorem dX11_findCover_141 : decode cX11_findCover 141 = .ok (.iload 4, 2) := by decide +kernel
theorem dX11_findCover_143 : decode cX11_findCover 143 = .ok (.iadd, 1) := by decide +kernel
theorem dX11_findCover_144 : decode cX11_findCover 144 = .ok (.iload 5, 2) := by decide +kernel
theorem dX11_findCover_146 : decode cX11_findCover 146 = .ok (.iconst (-1), 1) := by decide +kernel
theorem dX11_findCover_147 : decode cX11_findCover 147 = .ok (.if_icmp .ne 7, 3) := by decide +kernel
theorem dX11_findCover_150 : decode cX11_findCover 150 = .ok (.iconst (-1), 1) := by decide +kernel
theorem dX11_findCover_151 : decode cX11_findCover 151 = .ok (.goto 10, 3) := by decide +kernel
theorem dX11_findCover_154 : decode cX11_findCover 154 = .ok (.aload_n 0, 1) := by decide +kernel
theorem dX11_findCover_155 : decode cX11_findCover 155 = .ok (.getfield 86, 3) := by decide +kernel
theorem dX11_findCover_158 : decode cX11_findCover 158 = .ok (.iload 5, 2) := by decide +kernel
theorem dX11_findCover_160 : decode cX11_findCover 160 = .ok (.iaload, 1) := by decide +kernel
theorem dX11_findCover_161 : decode cX11_findCover 161 = .ok (.iastore, 1) := by decide +kernel
theorem dX11_findCover_162 : decode cX11_findCover 162 = .ok (.iinc 4 1, 3) := by decide +kernel
theorem dX11_findCover_165 : decode cX11_findCover 165 = .ok (.goto (-55), 3) := by decide +kernel
theorem dX11_findCover_168 : decode cX11_findCover 168 = .ok (.iinc 3 1, 3) := by decide +kernel
theorem dX11_findCover_171 : decode cX11_findCover 171 = .ok (.goto (-72), 3) := by decide +kernel
theorem dX11_findCover_174 : decode cX11_findCover 174 = .ok (.iconst 0, 1) := by decide +kernel
theorem dX11_findCover_175 : decode cX11_findCover 175 = .ok (.ireturn, 1) := by decide +kernel
theorem dX11_resetEnd_0 : decode cX11_resetEnd 0 = .ok (.aload_n 0, 1) := by decide +kernel
theorem dX11_resetEnd_1 : decode cX11_resetEnd 1 = .ok (.invokevirtual 292, 3) := by decide +kernel
theorem dX11_resetEnd_4 : decode cX11_resetEnd 4 = .ok (.istore_n 1, 1) := by decide +kernel
theorem dX11_resetEnd_5 : decode cX11_resetEnd 5 = .ok (.aload_n 0, 1) := by decide +kernel
theorem dX11_resetEnd_6 : decode cX11_resetEnd 6 = .ok (.invokevirtual 253, 3) := by decide +kernel
theorem dX11_resetEnd_9 : decode cX11_resetEnd 9 = .ok (.iload_n 1, 1) := by decide +kernel
theorem dX11_resetEnd_10 : decode cX11_resetEnd 10 = .ok (.ireturn, 1) := by decide +kernel
theorem dX11_cover_0 : decode cX11_cover 0 = .ok (.iload_n 1, 1) := by decide +kernel
theorem dX11_cover_1 : decode cX11_cover 1 = .ok (.invokestatic 135, 3) := by decide +kernel
theorem dX11_cover_4 : decode cX11_cover 4 = .ok (.ifCond .eq 10, 3) := by decide +kernel
theorem dX11_cover_7 : decode cX11_cover 7 = .ok (.iload_n 2, 1) := by decide +kernel
theorem dX11_cover_8 : decode cX11_cover 8 = .ok (.invokestatic 135, 3) := by decide +kernel
theorem dX11_cover_11 : decode cX11_cover 11 = .ok (.ifCond .ne 6, 3) := by decide +kernel
theorem dX11_cover_14 : decode cX11_cover 14 = .ok (.bipush (-2), 2) := by decide +kernel
theorem dX11_cover_16 : decode cX11_cover 16 = .ok (.ireturn, 1) := by decide +kernel
theorem dX11_cover_17 : decode cX11_cover 17 = .ok (.aload_n 0, 1) := by decide +kernel
theorem dX11_cover_18 : decode cX11_cover 18 = .ok (.iload_n 1, 1) := by decide +kernel
theorem dX11_cover_19 : decode cX11_cover 19 = .ok (.invokevirtual 295, 3) := by decide +kernel
theorem dX11_cover_22 : decode cX11_cover 22 = .ok (.istore_n 3, 1) := by decide +kernel
theorem dX11_cover_23 : decode cX11_cover 23 = .ok (.iload_n 3, 1) := by decide +kernel
theorem dX11_cover_24 : decode cX11_cover 24 = .ok (.ifCond .eq 5, 3) := by decide +kernel
theorem dX11_cover_27 : decode cX11_cover 27 = .ok (.iload_n 3, 1) := by decide +kernel
theorem dX11_cover_28 : decode cX11_cover 28 = .ok (.ireturn, 1) := by decide +kernel
theorem dX11_cover_29 : decode cX11_cover 29 = .ok (.aload_n 0, 1) := by decide +kernel
theorem dX11_cover_30 : decode cX11_cover 30 = .ok (.invokevirtual 159, 3) := by decide +kernel
theorem dX11_cover_33 : decode cX11_cover 33 = .ok (.iconst 0, 1) := by decide +kernel
theorem dX11_cover_34 : decode cX11_cover 34 = .ok (.istore 4, 2) := by decide +kernel
theorem dX11_cover_36 : decode cX11_cover 36 = .ok (.iload 4, 2) := by decide +kernel
theorem dX11_cover_38 : decode cX11_cover 38 = .ok (.iconst 4, 1) := by decide +kernel
theorem dX11_cover_39 : decode cX11_cover 39 = .ok (.aload_n 0, 1) := by decide +kernel
theorem dX11_cover_40 : decode cX11_cover 40 = .ok (.getfield 274, 3) := by decide +kernel
theorem dX11_cover_43 : decode cX11_cover 43 = .ok (.imul, 1) := by decide +kernel
theorem dX11_cover_44 : decode cX11_cover 44 = .ok (.if_icmp .ge 40, 3) := by decide +kernel
theorem dX11_cover_47 : decode cX11_cover 47 = .ok (.aload_n 0, 1) := by decide +kernel
theorem dX11_cover_48 : decode cX11_cover 48 = .ok (.getfield 15, 3) := by decide +kernel
theorem dX11_cover_51 : decode cX11_cover 51 = .ok (.iload 4, 2) := by decide +kernel
theorem dX11_cover_53 : decode cX11_cover 53 = .ok (.aload_n 0, 1) := by decide +kernel
theorem dX11_cover_54 : decode cX11_cover 54 = .ok (.getfield 89, 3) := by decide +kernel
theorem dX11_cover_57 : decode cX11_cover 57 = .ok (.iload 4, 2) := by decide +kernel
theorem dX11_cover_59 : decode cX11_cover 59 = .ok (.iaload, 1) := by decide +kernel
theorem dX11_cover_60 : decode cX11_cover 60 = .ok (.iconst (-1), 1) := by decide +kernel
theorem dX11_cover_61 : decode cX11_cover 61 = .ok (.if_icmp .ne 7, 3) := by decide +kernel
theorem dX11_cover_64 : decode cX11_cover 64 = .ok (.iconst 0, 1) := by decide +kernel
theorem dX11_cover_65 : decode cX11_cover 65 = .ok (.goto 12, 3) := by decide +kernel
theorem dX11_cover_68 : decode cX11_cover 68 = .ok (.iconst 1, 1) := by decide +kernel
theorem dX11_cover_69 : decode cX11_cover 69 = .ok (.aload_n 0, 1) := by decide +kernel
theorem dX11_cover_70 : decode cX11_cover 70 = .ok (.getfield 89, 3) := by decide +kernel
theorem dX11_cover_73 : decode cX11_cover 73 = .ok (.iload 4, 2) := by decide +kernel
theorem dX11_cover_75 : decode cX11_cover 75 = .ok (.iaload, 1) := by decide +kernel
theorem dX11_cover_76 : decode cX11_cover 76 = .ok (.ishl, 1) := by decide +kernel
theorem dX11_cover_77 : decode cX11_cover 77 = .ok (.iastore, 1) := by decide +kernel
theorem dX11_cover_78 : decode cX11_cover 78 = .ok (.iinc 4 1, 3) := by decide +kernel
theorem dX11_cover_81 : decode cX11_cover 81 = .ok (.goto (-45), 3) := by decide +kernel
theorem dX11_cover_84 : decode cX11_cover 84 = .ok (.aload_n 0, 1) := by decide +kernel
theorem dX11_cover_85 : decode cX11_cover 85 = .ok (.iload_n 2, 1) := by decide +kernel
theorem dX11_cover_86 : decode cX11_cover 86 = .ok (.invokevirtual 149, 3) := by decide +kernel
theorem dX11_cover_89 : decode cX11_cover 89 = .ok (.aload_n 0, 1) := by decide +kernel
theorem dX11_cover_90 : decode cX11_cover 90 = .ok (.getfield 274, 3) := by decide +kernel
theorem dX11_cover_93 : decode cX11_cover 93 = .ok (.ireturn, 1) := by decide +kernel
theorem dX11_writeReset_0 : decode cX11_writeReset 0 = .ok (.iload_n 1, 1) := by decide +kernel
theorem dX11_writeReset_1 : decode cX11_writeReset 1 = .ok (.invokestatic 135, 3) := by decide +kernel
theorem dX11_writeReset_4 : decode cX11_writeReset 4 = .ok (.ifCond .ne 6, 3) := by decide +kernel
theorem dX11_writeReset_7 : decode cX11_writeReset 7 = .ok (.bipush (-2), 2) := by decide +kernel
theorem dX11_writeReset_9 : decode cX11_writeReset 9 = .ok (.ireturn, 1) := by decide +kernel
theorem dX11_writeReset_10 : decode cX11_writeReset 10 = .ok (.aload_n 0, 1) := by decide +kernel
theorem dX11_writeReset_11 : decode cX11_writeReset 11 = .ok (.iload_n 1, 1) := by decide +kernel
theorem dX11_writeReset_12 : decode cX11_writeReset 12 = .ok (.invokevirtual 286, 3) := by decide +kernel
theorem dX11_writeReset_15 : decode cX11_writeReset 15 = .ok (.istore_n 2, 1) := by decide +kernel
theorem dX11_writeReset_16 : decode cX11_writeReset 16 = .ok (.iload_n 2, 1) := by decide +kernel
theorem dX11_writeReset_17 : decode cX11_writeReset 17 = .ok (.ifCond .eq 5, 3) := by decide +kernel
theorem dX11_writeReset_20 : decode cX11_writeReset 20 = .ok (.iload_n 2, 1) := by decide +kernel
theorem dX11_writeReset_21 : decode cX11_writeReset 21 = .ok (.ireturn, 1) := by decide +kernel
theorem dX11_writeReset_22 : decode cX11_writeReset 22 = .ok (.aload_n 0, 1) := by decide +kernel
theorem dX11_writeReset_23 : decode cX11_writeReset 23 = .ok (.invokevirtual 292, 3) := by decide +kernel
theorem dX11_writeReset_26 : decode cX11_writeReset 26 = .ok (.pop, 1) := by decide +kernel
theorem dX11_writeReset_27 : decode cX11_writeReset 27 = .ok (.aload_n 0, 1) := by decide +kernel
theorem dX11_writeReset_28 : decode cX11_writeReset 28 = .ok (.invokevirtual 214, 3) := by decide +kernel
theorem dX11_writeReset_31 : decode cX11_writeReset 31 = .ok (.ireturn, 1) := by decide +kernel
theorem dX11_isSingle_0 : decode cX11_isSingle 0 = .ok (.iconst 0, 1) := by decide +kernel
theorem dX11_isSingle_1 : decode cX11_isSingle 1 = .ok (.istore_n 2, 1) := by decide +kernel
theorem dX11_isSingle_2 : decode cX11_isSingle 2 = .ok (.iload_n 2, 1) := by decide +kernel
theorem dX11_isSingle_3 : decode cX11_isSingle 3 = .ok (.iload_n 1, 1) := by decide +kernel
theorem dX11_isSingle_4 : decode cX11_isSingle 4 = .ok (.if_icmp .ge 24, 3) := by decide +kernel
theorem dX11_isSingle_7 : decode cX11_isSingle 7 = .ok (.aload_n 0, 1) := by decide +kernel
theorem dX11_isSingle_8 : decode cX11_isSingle 8 = .ok (.getfield 71, 3) := by decide +kernel
theorem dX11_isSingle_11 : decode cX11_isSingle 11 = .ok (.iload_n 2, 1) := by decide +kernel
theorem dX11_isSingle_12 : decode cX11_isSingle 12 = .ok (.iaload, 1) := by decide +kernel
theorem dX11_isSingle_13 : decode cX11_isSingle 13 = .ok (.invokestatic 122, 3) := by decide +kernel
theorem dX11_isSingle_16 : decode cX11_isSingle 16 = .ok (.iconst 1, 1) := by decide +kernel
theorem dX11_isSingle_17 : decode cX11_isSingle 17 = .ok (.if_icmp .le 5, 3) := by decide +kernel
theorem dX11_isSingle_20 : decode cX11_isSingle 20 = .ok (.iconst 0, 1) := by decide +kernel
theorem dX11_isSingle_21 : decode cX11_isSingle 21 = .ok (.ireturn, 1) := by decide +kernel
theorem dX11_isSingle_22 : decode cX11_isSingle 22 = .ok (.iinc 2 1, 3) := by decide +kernel
theorem dX11_isSingle_25 : decode cX11_isSingle 25 = .ok (.goto (-23), 3) := by decide +kernel
theorem dX11_isSingle_28 : decode cX11_isSingle 28 = .ok (.iconst 1, 1) := by decide +kernel
theorem dX11_isSingle_29 : decode cX11_isSingle 29 = .ok (.ireturn, 1) := by decide +kernel
theorem dX11_memory_0 : decode cX11_memory 0 = .ok (.iload_n 1, 1) := by decide +kernel
theorem dX11_memory_1 : decode cX11_memory 1 = .ok (.invokestatic 135, 3) := by decide +kernel
theorem dX11_memory_4 : decode cX11_memory 4 = .ok (.ifCond .ne 6, 3) := by decide +kernel
theorem dX11_memory_7 : decode cX11_memory 7 = .ok (.bipush (-2), 2) := by decide +kernel
theorem dX11_memory_9 : decode cX11_memory 9 = .ok (.ireturn, 1) := by decide +kernel
theorem dX11_memory_10 : decode cX11_memory 10 = .ok (.aload_n 0, 1) := by decide +kernel
theorem dX11_memory_11 : decode cX11_memory 11 = .ok (.iload_n 1, 1) := by decide +kernel
theorem dX11_memory_12 : decode cX11_memory 12 = .ok (.invokevirtual 286, 3) := by decide +kernel
theorem dX11_memory_15 : decode cX11_memory 15 = .ok (.istore_n 2, 1) := by decide +kernel
theorem dX11_memory_16 : decode cX11_memory 16 = .ok (.iload_n 2, 1) := by decide +kernel
theorem dX11_memory_17 : decode cX11_memory 17 = .ok (.ifCond .eq 5, 3) := by decide +kernel
theorem dX11_memory_20 : decode cX11_memory 20 = .ok (.iload_n 2, 1) := by decide +kernel
theorem dX11_memory_21 : decode cX11_memory 21 = .ok (.ireturn, 1) := by decide +kernel
theorem dX11_memory_22 : decode cX11_memory 22 = .ok (.aload_n 0, 1) := by decide +kernel
theorem dX11_memory_23 : decode cX11_memory 23 = .ok (.invokevirtual 253, 3) := by decide +kernel
theorem dX11_memory_26 : decode cX11_memory 26 = .ok (.aload_n 0, 1) := by decide +kernel
theorem dX11_memory_27 : decode cX11_memory 27 = .ok (.iconst 1, 1) := by decide +kernel
theorem dX11_memory_28 : decode cX11_memory 28 = .ok (.aload_n 0, 1) := by decide +kernel
theorem dX11_memory_29 : decode cX11_memory 29 = .ok (.getfield 274, 3) := by decide +kernel
theorem dX11_memory_32 : decode cX11_memory 32 = .ok (.ishl, 1) := by decide +kernel
theorem dX11_memory_33 : decode cX11_memory 33 = .ok (.iconst 1, 1) := by decide +kernel
theorem dX11_memory_34 : decode cX11_memory 34 = .ok (.isub, 1) := by decide +kernel
theorem dX11_memory_35 : decode cX11_memory 35 = .ok (.invokevirtual 256, 3) := by decide +kernel
theorem dX11_memory_38 : decode cX11_memory 38 = .ok (.iconst 0, 1) := by decide +kernel
theorem dX11_memory_39 : decode cX11_memory 39 = .ok (.istore_n 3, 1) := by decide +kernel
theorem dX11_memory_40 : decode cX11_memory 40 = .ok (.iload_n 3, 1) := by decide +kernel
theorem dX11_memory_41 : decode cX11_memory 41 = .ok (.bipush 30, 2) := by decide +kernel
theorem dX11_memory_43 : decode cX11_memory 43 = .ok (.if_icmp .gt 119, 3) := by decide +kernel
theorem dX11_memory_46 : decode cX11_memory 46 = .ok (.aload_n 0, 1) := by decide +kernel
theorem dX11_memory_47 : decode cX11_memory 47 = .ok (.aload_n 0, 1) := by decide +kernel
theorem dX11_memory_48 : decode cX11_memory 48 = .ok (.getfield 250, 3) := by decide +kernel
theorem dX11_memory_51 : decode cX11_memory 51 = .ok (.invokevirtual 298, 3) := by decide +kernel
theorem dX11_memory_54 : decode cX11_memory 54 = .ok (.ifCond .eq 5, 3) := by decide +kernel
theorem dX11_memory_57 : decode cX11_memory 57 = .ok (.iload_n 3, 1) := by decide +kernel
theorem dX11_memory_58 : decode cX11_memory 58 = .ok (.ireturn, 1) := by decide +kernel
theorem dX11_memory_59 : decode cX11_memory 59 = .ok (.aload_n 0, 1) := by decide +kernel
theorem dX11_memory_60 : decode cX11_memory 60 = .ok (.getfield 250, 3) := by decide +kernel
theorem dX11_memory_63 : decode cX11_memory 63 = .ok (.istore 4, 2) := by decide +kernel
theorem dX11_memory_65 : decode cX11_memory 65 = .ok (.iconst 0, 1) := by decide +kernel
theorem dX11_memory_66 : decode cX11_memory 66 = .ok (.istore 5, 2) := by decide +kernel
theorem dX11_memory_68 : decode cX11_memory 68 = .ok (.iload 5, 2) := by decide +kernel
theorem dX11_memory_70 : decode cX11_memory 70 = .ok (.iload 4, 2) := by decide +kernel
theorem dX11_memory_72 : decode cX11_memory 72 = .ok (.if_icmp .ge 23, 3) := by decide +kernel
theorem dX11_memory_75 : decode cX11_memory 75 = .ok (.aload_n 0, 1) := by decide +kernel
theorem dX11_memory_76 : decode cX11_memory 76 = .ok (.getfield 64, 3) := by decide +kernel
theorem dX11_memory_79 : decode cX11_memory 79 = .ok (.iload 5, 2) := by decide +kernel
theorem dX11_memory_81 : decode cX11_memory 81 = .ok (.aload_n 0, 1) := by decide +kernel
theorem dX11_memory_82 : decode cX11_memory 82 = .ok (.getfield 71, 3) := by decide +kernel
theorem dX11_memory_85 : decode cX11_memory 85 = .ok (.iload 5, 2) := by decide +kernel
theorem dX11_memory_87 : decode cX11_memory 87 = .ok (.iaload, 1) := by decide +kernel
theorem dX11_memory_88 : decode cX11_memory 88 = .ok (.iastore, 1) := by decide +kernel
theorem dX11_memory_89 : decode cX11_memory 89 = .ok (.iinc 5 1, 3) := by decide +kernel
theorem dX11_memory_92 : decode cX11_memory 92 = .ok (.goto (-24), 3) := by decide +kernel
theorem dX11_memory_95 : decode cX11_memory 95 = .ok (.aload_n 0, 1) := by decide +kernel
theorem dX11_memory_96 : decode cX11_memory 96 = .ok (.invokevirtual 253, 3) := by decide +kernel
theorem dX11_memory_99 : decode cX11_memory 99 = .ok (.iconst 0, 1) := by decide +kernel
theorem dX11_memory_100 : decode cX11_memory 100 = .ok (.istore 5, 2) := by decide +kernel
theorem dX11_memory_102 : decode cX11_memory 102 = .ok (.iload 5, 2) := by decide +kernel
theorem dX11_memory_104 : decode cX11_memory 104 = .ok (.iload 4, 2) := by decide +kernel
theorem dX11_memory_106 : decode cX11_memory 106 = .ok (.if_icmp .ge 50, 3) := by decide +kernel
theorem dX11_memory_109 : decode cX11_memory 109 = .ok (.iconst 0, 1) := by decide +kernel
theorem dX11_memory_110 : decode cX11_memory 110 = .ok (.istore 6, 2) := by decide +kernel
theorem dX11_memory_112 : decode cX11_memory 112 = .ok (.iload 6, 2) := by decide +kernel
theorem dX11_memory_114 : decode cX11_memory 114 = .ok (.iconst 4, 1) := by decide +kernel
theorem dX11_memory_115 : decode cX11_memory 115 = .ok (.if_icmp .ge 35, 3) := by decide +kernel
theorem dX11_memory_118 : decode cX11_memory 118 = .ok (.aload_n 0, 1) := by decide +kernel
theorem dX11_memory_119 : decode cX11_memory 119 = .ok (.aload_n 0, 1) := by decide +kernel
theorem dX11_memory_120 : decode cX11_memory 120 = .ok (.getfield 64, 3) := by decide +kernel
theorem dX11_memory_123 : decode cX11_memory 123 = .ok (.iload 5, 2) := by decide +kernel
theorem dX11_memory_125 : decode cX11_memory 125 = .ok (.iaload, 1) := by decide +kernel
theorem dX11_memory_126 : decode cX11_memory 126 = .ok (.iload 6, 2) := by decide +kernel
theorem dX11_memory_128 : decode cX11_memory 128 = .ok (.invokevirtual 280, 3) := by decide +kernel
theorem dX11_memory_131 : decode cX11_memory 131 = .ok (.istore 7, 2) := by decide +kernel
theorem dX11_memory_133 : decode cX11_memory 133 = .ok (.iload 7, 2) := by decide +kernel
theorem dX11_memory_135 : decode cX11_memory 135 = .ok (.ifCond .eq 9, 3) := by decide +kernel
theorem dX11_memory_138 : decode cX11_memory 138 = .ok (.aload_n 0, 1) := by decide +kernel
theorem dX11_memory_139 : decode cX11_memory 139 = .ok (.iload 7, 2) := by decide +kernel
theorem dX11_memory_141 : decode cX11_memory 141 = .ok (.invokevirtual 256, 3) := by decide +kernel
theorem dX11_memory_144 : decode cX11_memory 144 = .ok (.iinc 6 1, 3) := by decide +kernel
theorem dX11_memory_147 : decode cX11_memory 147 = .ok (.goto (-35), 3) := by decide +kernel
theorem dX11_memory_150 : decode cX11_memory 150 = .ok (.iinc 5 1, 3) := by decide +kernel
theorem dX11_memory_153 : decode cX11_memory 153 = .ok (.goto (-51), 3) := by decide +kernel
theorem dX11_memory_156 : decode cX11_memory 156 = .ok (.iinc 3 1, 3) := by decide +kernel
theorem dX11_memory_159 : decode cX11_memory 159 = .ok (.goto (-119), 3) := by decide +kernel
theorem dX11_memory_162 : decode cX11_memory 162 = .ok (.iconst (-1), 1) := by decide +kernel
theorem dX11_memory_163 : decode cX11_memory 163 = .ok (.ireturn, 1) := by decide +kernel
theorem dX11_isMixing_0 : decode cX11_isMixing 0 = .ok (.iload_n 1, 1) := by decide +kernel
theorem dX11_isMixing_1 : decode cX11_isMixing 1 = .ok (.invokestatic 135, 3) := by decide +kernel
theorem dX11_isMixing_4 : decode cX11_isMixing 4 = .ok (.ifCond .ne 6, 3) := by decide +kernel
theorem dX11_isMixing_7 : decode cX11_isMixing 7 = .ok (.bipush (-2), 2) := by decide +kernel
theorem dX11_isMixing_9 : decode cX11_isMixing 9 = .ok (.ireturn, 1) := by decide +kernel
theorem dX11_isMixing_10 : decode cX11_isMixing 10 = .ok (.aload_n 0, 1) := by decide +kernel
theorem dX11_isMixing_11 : decode cX11_isMixing 11 = .ok (.iload_n 1, 1) := by decide +kernel
theorem dX11_isMixing_12 : decode cX11_isMixing 12 = .ok (.invokevirtual 286, 3) := by decide +kernel
theorem dX11_isMixing_15 : decode cX11_isMixing 15 = .ok (.istore_n 2, 1) := by decide +kernel
theorem dX11_isMixing_16 : decode cX11_isMixing 16 = .ok (.iload_n 2, 1) := by decide +kernel
theorem dX11_isMixing_17 : decode cX11_isMixing 17 = .ok (.ifCond .eq 5, 3) := by decide +kernel
theorem dX11_isMixing_20 : decode cX11_isMixing 20 = .ok (.iload_n 2, 1) := by decide +kernel
theorem dX11_isMixing_21 : decode cX11_isMixing 21 = .ok (.ireturn, 1) := by decide +kernel
theorem dX11_isMixing_22 : decode cX11_isMixing 22 = .ok (.lconst 0, 1) := by decide +kernel
theorem dX11_isMixing_23 : decode cX11_isMixing 23 = .ok (.lstore_n 3, 1) := by decide +kernel
theorem dX11_isMixing_24 : decode cX11_isMixing 24 = .ok (.iconst 0, 1) := by decide +kernel
theorem dX11_isMixing_25 : decode cX11_isMixing 25 = .ok (.istore 5, 2) := by decide +kernel
theorem dX11_isMixing_27 : decode cX11_isMixing 27 = .ok (.iload 5, 2) := by decide +kernel
theorem dX11_isMixing_29 : decode cX11_isMixing 29 = .ok (.aload_n 0, 1) := by decide +kernel
theorem dX11_isMixing_30 : decode cX11_isMixing 30 = .ok (.getfield 274, 3) := by decide +kernel
theorem dX11_isMixing_33 : decode cX11_isMixing 33 = .ok (.if_icmp .ge 87, 3) := by decide +kernel
theorem dX11_isMixing_36 : decode cX11_isMixing 36 = .ok (.iconst 1, 1) := by decide +kernel
theorem dX11_isMixing_37 : decode cX11_isMixing 37 = .ok (.iload 5, 2) := by decide +kernel
theorem dX11_isMixing_39 : decode cX11_isMixing 39 = .ok (.ishl, 1) := by decide +kernel
theorem dX11_isMixing_40 : decode cX11_isMixing 40 = .ok (.istore 6, 2) := by decide +kernel
theorem dX11_isMixing_42 : decode cX11_isMixing 42 = .ok (.iconst 1, 1) := by decide +kernel
theorem dX11_isMixing_43 : decode cX11_isMixing 43 = .ok (.istore 7, 2) := by decide +kernel
theorem dX11_isMixing_45 : decode cX11_isMixing 45 = .ok (.iload 7, 2) := by decide +kernel
theorem dX11_isMixing_47 : decode cX11_isMixing 47 = .ok (.bipush 8, 2) := by decide +kernel
theorem dX11_isMixing_49 : decode cX11_isMixing 49 = .ok (.if_icmp .gt 65, 3) := by decide +kernel
theorem dX11_isMixing_52 : decode cX11_isMixing 52 = .ok (.aload_n 0, 1) := by decide +kernel
theorem dX11_isMixing_53 : decode cX11_isMixing 53 = .ok (.iload 6, 2) := by decide +kernel
theorem dX11_isMixing_55 : decode cX11_isMixing 55 = .ok (.iconst 0, 1) := by decide +kernel
theorem dX11_isMixing_56 : decode cX11_isMixing 56 = .ok (.invokevirtual 280, 3) := by decide +kernel
theorem dX11_isMixing_59 : decode cX11_isMixing 59 = .ok (.aload_n 0, 1) := by decide +kernel
theorem dX11_isMixing_60 : decode cX11_isMixing 60 = .ok (.iload 6, 2) := by decide +kernel
theorem dX11_isMixing_62 : decode cX11_isMixing 62 = .ok (.iconst 1, 1) := by decide +kernel
theorem dX11_isMixing_63 : decode cX11_isMixing 63 = .ok (.invokevirtual 280, 3) := by decide +kernel
theorem dX11_isMixing_66 : decode cX11_isMixing 66 = .ok (.ior, 1) := by decide +kernel
theorem dX11_isMixing_67 : decode cX11_isMixing 67 = .ok (.aload_n 0, 1) := by decide +kernel
theorem dX11_isMixing_68 : decode cX11_isMixing 68 = .ok (.iload 6, 2) := by decide +kernel
theorem dX11_isMixing_70 : decode cX11_isMixing 70 = .ok (.iconst 2, 1) := by decide +kernel
theorem dX11_isMixing_71 : decode cX11_isMixing 71 = .ok (.invokevirtual 280, 3) := by decide +kernel
theorem dX11_isMixing_74 : decode cX11_isMixing 74 = .ok (.ior, 1) := by decide +kernel
theorem dX11_isMixing_75 : decode cX11_isMixing 75 = .ok (.aload_n 0, 1) := by decide +kernel
theorem dX11_isMixing_76 : decode cX11_isMixing 76 = .ok (.iload 6, 2) := by decide +kernel
theorem dX11_isMixing_78 : decode cX11_isMixing 78 = .ok (.iconst 3, 1) := by decide +kernel
theorem dX11_isMixing_79 : decode cX11_isMixing 79 = .ok (.invokevirtual 280, 3) := by decide +kernel
theorem dX11_isMixing_82 : decode cX11_isMixing 82 = .ok (.ior, 1) := by decide +kernel
theorem dX11_isMixing_83 : decode cX11_isMixing 83 = .ok (.istore 6, 2) := by decide +kernel
theorem dX11_isMixing_85 : decode cX11_isMixing 85 = .ok (.iload 6, 2) := by decide +kernel
theorem dX11_isMixing_87 : decode cX11_isMixing 87 = .ok (.iload 5, 2) := by decide +kernel
theorem dX11_isMixing_89 : decode cX11_isMixing 89 = .ok (.ishr, 1) := by decide +kernel
theorem dX11_isMixing_90 : decode cX11_isMixing 90 = .ok (.iconst 1, 1) := by decide +kernel
theorem dX11_isMixing_91 : decode cX11_isMixing 91 = .ok (.iand, 1) := by decide +kernel
theorem dX11_isMixing_92 : decode cX11_isMixing 92 = .ok (.iconst 1, 1) := by decide +kernel
theorem dX11_isMixing_93 : decode cX11_isMixing 93 = .ok (.if_icmp .ne 13, 3) := by decide +kernel
theorem dX11_isMixing_96 : decode cX11_isMixing 96 = .ok (.iload 7, 2) := by decide +kernel
theorem dX11_isMixing_98 : decode cX11_isMixing 98 = .ok (.i2l, 1) := by decide +kernel
theorem dX11_isMixing_99 : decode cX11_isMixing 99 = .ok (.lload_n 3, 1) := by decide +kernel
theorem dX11_isMixing_100 : decode cX11_isMixing 100 = .ok (.invokestatic 189, 3) := by decide +kernel
theorem dX11_isMixing_103 : decode cX11_isMixing 103 = .ok (.goto 4, 3) := by decide +kernel
theorem dX11_isMixing_106 : decode cX11_isMixing 106 = .ok (.lload_n 3, 1) := by decide +kernel
theorem dX11_isMixing_107 : decode cX11_isMixing 107 = .ok (.lstore_n 3, 1) := by decide +kernel
theorem dX11_isMixing_108 : decode cX11_isMixing 108 = .ok (.iinc 7 1, 3) := by decide +kernel
theorem dX11_isMixing_111 : decode cX11_isMixing 111 = .ok (.goto (-66), 3) := by decide +kernel
theorem dX11_isMixing_114 : decode cX11_isMixing 114 = .ok (.iinc 5 1, 3) := by decide +kernel
theorem dX11_isMixing_117 : decode cX11_isMixing 117 = .ok (.goto (-90), 3) := by decide +kernel
theorem dX11_isMixing_120 : decode cX11_isMixing 120 = .ok (.lload_n 3, 1) := by decide +kernel
theorem dX11_isMixing_121 : decode cX11_isMixing 121 = .ok (.lconst 1, 1) := by decide +kernel
theorem dX11_isMixing_122 : decode cX11_isMixing 122 = .ok (.lcmp, 1) := by decide +kernel
theorem dX11_isMixing_123 : decode cX11_isMixing 123 = .ok (.ifCond .ne 7, 3) := by decide +kernel
theorem dX11_isMixing_126 : decode cX11_isMixing 126 = .ok (.iconst 1, 1) := by decide +kernel
theorem dX11_isMixing_127 : decode cX11_isMixing 127 = .ok (.goto 4, 3) := by decide +kernel
theorem dX11_isMixing_130 : decode cX11_isMixing 130 = .ok (.iconst 0, 1) := by decide +kernel
theorem dX11_isMixing_131 : decode cX11_isMixing 131 = .ok (.ireturn, 1) := by decide +kernel
theorem dX11_writeDifference_0 : decode cX11_writeDifference 0 = .ok (.iload_n 1, 1) := by decide +kernel
theorem dX11_writeDifference_1 : decode cX11_writeDifference 1 = .ok (.invokestatic 135, 3) := by decide +kernel
theorem dX11_writeDifference_4 : decode cX11_writeDifference 4 = .ok (.ifCond .eq 10, 3) := by decide +kernel
theorem dX11_writeDifference_7 : decode cX11_writeDifference 7 = .ok (.iload_n 2, 1) := by decide +kernel
theorem dX11_writeDifference_8 : decode cX11_writeDifference 8 = .ok (.invokestatic 135, 3) := by decide +kernel
theorem dX11_writeDifference_11 : decode cX11_writeDifference 11 = .ok (.ifCond .ne 6, 3) := by decide +kernel
theorem dX11_writeDifference_14 : decode cX11_writeDifference 14 = .ok (.bipush (-2), 2) := by decide +kernel
theorem dX11_writeDifference_16 : decode cX11_writeDifference 16 = .ok (.ireturn, 1) := by decide +kernel
theorem dX11_writeDifference_17 : decode cX11_writeDifference 17 = .ok (.aload_n 0, 1) := by decide +kernel
theorem dX11_writeDifference_18 : decode cX11_writeDifference 18 = .ok (.iload_n 2, 1) := by decide +kernel
theorem dX11_writeDifference_19 : decode cX11_writeDifference 19 = .ok (.invokevirtual 201, 3) := by decide +kernel
theorem dX11_writeDifference_22 : decode cX11_writeDifference 22 = .ok (.aload_n 0, 1) := by decide +kernel
theorem dX11_writeDifference_23 : decode cX11_writeDifference 23 = .ok (.getfield 193, 3) := by decide +kernel
theorem dX11_writeDifference_26 : decode cX11_writeDifference 26 = .ok (.istore_n 3, 1) := by decide +kernel
theorem dX11_writeDifference_27 : decode cX11_writeDifference 27 = .ok (.iconst 0, 1) := by decide +kernel
theorem dX11_writeDifference_28 : decode cX11_writeDifference 28 = .ok (.istore 4, 2) := by decide +kernel
theorem dX11_writeDifference_30 : decode cX11_writeDifference 30 = .ok (.iload 4, 2) := by decide +kernel
theorem dX11_writeDifference_32 : decode cX11_writeDifference 32 = .ok (.sipush 1024, 3) := by decide +kernel
theorem dX11_writeDifference_35 : decode cX11_writeDifference 35 = .ok (.if_icmp .ge 23, 3) := by decide +kernel
theorem dX11_writeDifference_38 : decode cX11_writeDifference 38 = .ok (.aload_n 0, 1) := by decide +kernel
theorem dX11_writeDifference_39 : decode cX11_writeDifference 39 = .ok (.getfield 92, 3) := by decide +kernel
theorem dX11_writeDifference_42 : decode cX11_writeDifference 42 = .ok (.iload 4, 2) := by decide +kernel
theorem dX11_writeDifference_44 : decode cX11_writeDifference 44 = .ok (.aload_n 0, 1) := by decide +kernel
theorem dX11_writeDifference_45 : decode cX11_writeDifference 45 = .ok (.getfield 36, 3) := by decide +kernel
theorem dX11_writeDifference_48 : decode cX11_writeDifference 48 = .ok (.iload 4, 2) := by decide +kernel
theorem dX11_writeDifference_50 : decode cX11_writeDifference 50 = .ok (.iaload, 1) := by decide +kernel
theorem dX11_writeDifference_51 : decode cX11_writeDifference 51 = .ok (.iastore, 1) := by decide +kernel
theorem dX11_writeDifference_52 : decode cX11_writeDifference 52 = .ok (.iinc 4 1, 3) := by decide +kernel
theorem dX11_writeDifference_55 : decode cX11_writeDifference 55 = .ok (.goto (-25), 3) := by decide +kernel
theorem dX11_writeDifference_58 : decode cX11_writeDifference 58 = .ok (.aload_n 0, 1) := by decide +kernel
theorem dX11_writeDifference_59 : decode cX11_writeDifference 59 = .ok (.iload_n 1, 1) := by decide +kernel
theorem dX11_writeDifference_60 : decode cX11_writeDifference 60 = .ok (.invokevirtual 201, 3) := by decide +kernel
theorem dX11_writeDifference_63 : decode cX11_writeDifference 63 = .ok (.iconst 0, 1) := by decide +kernel
theorem dX11_writeDifference_64 : decode cX11_writeDifference 64 = .ok (.istore 4, 2) := by decide +kernel
theorem dX11_writeDifference_66 : decode cX11_writeDifference 66 = .ok (.iload 4, 2) := by decide +kernel
theorem dX11_writeDifference_68 : decode cX11_writeDifference 68 = .ok (.ldc 95, 2) := by decide +kernel
theorem dX11_writeDifference_70 : decode cX11_writeDifference 70 = .ok (.if_icmp .ge 17, 3) := by decide +kernel
theorem dX11_writeDifference_73 : decode cX11_writeDifference 73 = .ok (.aload_n 0, 1) := by decide +kernel
theorem dX11_writeDifference_74 : decode cX11_writeDifference 74 = .ok (.getfield 99, 3) := by decide +kernel
theorem dX11_writeDifference_77 : decode cX11_writeDifference 77 = .ok (.iload 4, 2) := by decide +kernel
theorem dX11_writeDifference_79 : decode cX11_writeDifference 79 = .ok (.iconst (-1), 1) := by decide +kernel
theorem dX11_writeDifference_80 : decode cX11_writeDifference 80 = .ok (.iastore, 1) := by decide +kernel
theorem dX11_writeDifference_81 : decode cX11_writeDifference 81 = .ok (.iinc 4 1, 3) := by decide +kernel
theorem dX11_writeDifference_84 : decode cX11_writeDifference 84 = .ok (.goto (-18), 3) := by decide +kernel
theorem dX11_writeDifference_87 : decode cX11_writeDifference 87 = .ok (.sipush 256, 3) := by decide +kernel
theorem dX11_writeDifference_90 : decode cX11_writeDifference 90 = .ok (.aload_n 0, 1) := by decide +kernel
theorem dX11_writeDifference_91 : decode cX11_writeDifference 91 = .ok (.getfield 193, 3) := by decide +kernel
theorem dX11_writeDifference_94 : decode cX11_writeDifference 94 = .ok (.imul, 1) := by decide +kernel
theorem dX11_writeDifference_95 : decode cX11_writeDifference 95 = .ok (.iload_n 3, 1) := by decide +kernel
theorem dX11_writeDifference_96 : decode cX11_writeDifference 96 = .ok (.iadd, 1) := by decide +kernel
theorem dX11_writeDifference_97 : decode cX11_writeDifference 97 = .ok (.istore 4, 2) := by decide +kernel
theorem dX11_writeDifference_99 : decode cX11_writeDifference 99 = .ok (.aload_n 0, 1) := by decide +kernel
theorem dX11_writeDifference_100 : decode cX11_writeDifference 100 = .ok (.getfield 193, 3) := by decide +kernel
theorem dX11_writeDifference_103 : decode cX11_writeDifference 103 = .ok (.ifCond .ne 7, 3) := by decide +kernel
theorem dX11_writeDifference_106 : decode cX11_writeDifference 106 = .ok (.iconst 1, 1) := by decide +kernel
theorem dX11_writeDifference_107 : decode cX11_writeDifference 107 = .ok (.goto 4, 3) := by decide +kernel
theorem dX11_writeDifference_110 : decode cX11_writeDifference 110 = .ok (.iconst 0, 1) := by decide +kernel
theorem dX11_writeDifference_111 : decode cX11_writeDifference 111 = .ok (.iload_n 3, 1) := by decide +kernel
theorem dX11_writeDifference_112 : decode cX11_writeDifference 112 = .ok (.ifCond .ne 7, 3) := by decide +kernel
theorem dX11_writeDifference_115 : decode cX11_writeDifference 115 = .ok (.iconst 1, 1) := by decide +kernel
