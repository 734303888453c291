theorem dX10_reverse_27 : decode cX10_reverse 27 = .ok (.bipush 8, 2) := by decide +kernel
theorem dX10_reverse_29 : decode cX10_reverse 29 = .ok (.if_icmp .ge 69, 3) := by decide +kernel
theorem dX10_reverse_32 : decode cX10_reverse 32 = .ok (.iconst 0, 1) := by decide +kernel
theorem dX10_reverse_33 : decode cX10_reverse 33 = .ok (.istore 4, 2) := by decide +kernel
theorem dX10_reverse_35 : decode cX10_reverse 35 = .ok (.iload 4, 2) := by decide +kernel
theorem dX10_reverse_37 : decode cX10_reverse 37 = .ok (.iconst 4, 1) := by decide +kernel
theorem dX10_reverse_38 : decode cX10_reverse 38 = .ok (.if_icmp .ge 54, 3) := by decide +kernel
theorem dX10_reverse_41 : decode cX10_reverse 41 = .ok (.iconst 0, 1) := by decide +kernel
theorem dX10_reverse_42 : decode cX10_reverse 42 = .ok (.istore 5, 2) := by decide +kernel
theorem dX10_reverse_44 : decode cX10_reverse 44 = .ok (.iload 5, 2) := by decide +kernel
theorem dX10_reverse_46 : decode cX10_reverse 46 = .ok (.bipush 8, 2) := by decide +kernel
theorem dX10_reverse_48 : decode cX10_reverse 48 = .ok (.if_icmp .ge 38, 3) := by decide +kernel
theorem dX10_reverse_51 : decode cX10_reverse 51 = .ok (.aload_n 0, 1) := by decide +kernel
theorem dX10_reverse_52 : decode cX10_reverse 52 = .ok (.getfield 13, 3) := by decide +kernel
theorem dX10_reverse_55 : decode cX10_reverse 55 = .ok (.iload_n 1, 1) := by decide +kernel
theorem dX10_reverse_56 : decode cX10_reverse 56 = .ok (.aaload, 1) := by decide +kernel
theorem dX10_reverse_57 : decode cX10_reverse 57 = .ok (.iload_n 3, 1) := by decide +kernel
theorem dX10_reverse_58 : decode cX10_reverse 58 = .ok (.iload 4, 2) := by decide +kernel
theorem dX10_reverse_60 : decode cX10_reverse 60 = .ok (.iload 5, 2) := by decide +kernel
theorem dX10_reverse_62 : decode cX10_reverse 62 = .ok (.invokevirtual 118, 3) := by decide +kernel
theorem dX10_reverse_65 : decode cX10_reverse 65 = .ok (.ifCond .eq 15, 3) := by decide +kernel
theorem dX10_reverse_68 : decode cX10_reverse 68 = .ok (.aload_n 0, 1) := by decide +kernel
theorem dX10_reverse_69 : decode cX10_reverse 69 = .ok (.getfield 46, 3) := by decide +kernel
theorem dX10_reverse_72 : decode cX10_reverse 72 = .ok (.iload 5, 2) := by decide +kernel
theorem dX10_reverse_74 : decode cX10_reverse 74 = .ok (.iload 4, 2) := by decide +kernel
theorem dX10_reverse_76 : decode cX10_reverse 76 = .ok (.iload_n 3, 1) := by decide +kernel
theorem dX10_reverse_77 : decode cX10_reverse 77 = .ok (.invokevirtual 110, 3) := by decide +kernel
theorem dX10_reverse_80 : decode cX10_reverse 80 = .ok (.iinc 5 1, 3) := by decide +kernel
theorem dX10_reverse_83 : decode cX10_reverse 83 = .ok (.goto (-39), 3) := by decide +kernel
theorem dX10_reverse_86 : decode cX10_reverse 86 = .ok (.iinc 4 1, 3) := by decide +kernel
theorem dX10_reverse_89 : decode cX10_reverse 89 = .ok (.goto (-54), 3) := by decide +kernel
theorem dX10_reverse_92 : decode cX10_reverse 92 = .ok (.iinc 3 1, 3) := by decide +kernel
theorem dX10_reverse_95 : decode cX10_reverse 95 = .ok (.goto (-69), 3) := by decide +kernel
theorem dX10_reverse_98 : decode cX10_reverse 98 = .ok (.aload_n 0, 1) := by decide +kernel
theorem dX10_reverse_99 : decode cX10_reverse 99 = .ok (.iload_n 2, 1) := by decide +kernel
theorem dX10_reverse_100 : decode cX10_reverse 100 = .ok (.invokevirtual 154, 3) := by decide +kernel
theorem dX10_reverse_103 : decode cX10_reverse 103 = .ok (.aload_n 0, 1) := by decide +kernel
theorem dX10_reverse_104 : decode cX10_reverse 104 = .ok (.getfield 46, 3) := by decide +kernel
theorem dX10_reverse_107 : decode cX10_reverse 107 = .ok (.invokevirtual 114, 3) := by decide +kernel
theorem dX10_reverse_110 : decode cX10_reverse 110 = .ok (.ireturn, 1) := by decide +kernel
theorem dX10_relabel_0 : decode cX10_relabel 0 = .ok (.iload_n 1, 1) := by decide +kernel
theorem dX10_relabel_1 : decode cX10_relabel 1 = .ok (.invokestatic 125, 3) := by decide +kernel
theorem dX10_relabel_4 : decode cX10_relabel 4 = .ok (.ifCond .eq 25, 3) := by decide +kernel
theorem dX10_relabel_7 : decode cX10_relabel 7 = .ok (.iload_n 2, 1) := by decide +kernel
theorem dX10_relabel_8 : decode cX10_relabel 8 = .ok (.invokestatic 132, 3) := by decide +kernel
theorem dX10_relabel_11 : decode cX10_relabel 11 = .ok (.ifCond .eq 18, 3) := by decide +kernel
theorem dX10_relabel_14 : decode cX10_relabel 14 = .ok (.iload_n 3, 1) := by decide +kernel
theorem dX10_relabel_15 : decode cX10_relabel 15 = .ok (.invokestatic 132, 3) := by decide +kernel
theorem dX10_relabel_18 : decode cX10_relabel 18 = .ok (.ifCond .eq 11, 3) := by decide +kernel
theorem dX10_relabel_21 : decode cX10_relabel 21 = .ok (.iload 4, 2) := by decide +kernel
theorem dX10_relabel_23 : decode cX10_relabel 23 = .ok (.invokestatic 125, 3) := by decide +kernel
theorem dX10_relabel_26 : decode cX10_relabel 26 = .ok (.ifCond .ne 6, 3) := by decide +kernel
theorem dX10_relabel_29 : decode cX10_relabel 29 = .ok (.bipush (-2), 2) := by decide +kernel
theorem dX10_relabel_31 : decode cX10_relabel 31 = .ok (.ireturn, 1) := by decide +kernel
theorem dX10_relabel_32 : decode cX10_relabel 32 = .ok (.aload_n 0, 1) := by decide +kernel
theorem dX10_relabel_33 : decode cX10_relabel 33 = .ok (.getfield 46, 3) := by decide +kernel
theorem dX10_relabel_36 : decode cX10_relabel 36 = .ok (.invokevirtual 157, 3) := by decide +kernel
theorem dX10_relabel_39 : decode cX10_relabel 39 = .ok (.iconst 0, 1) := by decide +kernel
theorem dX10_relabel_40 : decode cX10_relabel 40 = .ok (.istore 5, 2) := by decide +kernel
theorem dX10_relabel_42 : decode cX10_relabel 42 = .ok (.iload 5, 2) := by decide +kernel
theorem dX10_relabel_44 : decode cX10_relabel 44 = .ok (.bipush 8, 2) := by decide +kernel
theorem dX10_relabel_46 : decode cX10_relabel 46 = .ok (.if_icmp .ge 58, 3) := by decide +kernel
theorem dX10_relabel_49 : decode cX10_relabel 49 = .ok (.iconst 0, 1) := by decide +kernel
theorem dX10_relabel_50 : decode cX10_relabel 50 = .ok (.istore 6, 2) := by decide +kernel
theorem dX10_relabel_52 : decode cX10_relabel 52 = .ok (.iload 6, 2) := by decide +kernel
theorem dX10_relabel_54 : decode cX10_relabel 54 = .ok (.iconst 4, 1) := by decide +kernel
theorem dX10_relabel_55 : decode cX10_relabel 55 = .ok (.if_icmp .ge 43, 3) := by decide +kernel
theorem dX10_relabel_58 : decode cX10_relabel 58 = .ok (.aload_n 0, 1) := by decide +kernel
theorem dX10_relabel_59 : decode cX10_relabel 59 = .ok (.getfield 46, 3) := by decide +kernel
theorem dX10_relabel_62 : decode cX10_relabel 62 = .ok (.iload 5, 2) := by decide +kernel
theorem dX10_relabel_64 : decode cX10_relabel 64 = .ok (.iload 6, 2) := by decide +kernel
theorem dX10_relabel_66 : decode cX10_relabel 66 = .ok (.iload_n 2, 1) := by decide +kernel
theorem dX10_relabel_67 : decode cX10_relabel 67 = .ok (.if_icmp .ne 7, 3) := by decide +kernel
theorem dX10_relabel_70 : decode cX10_relabel 70 = .ok (.iload_n 3, 1) := by decide +kernel
theorem dX10_relabel_71 : decode cX10_relabel 71 = .ok (.goto 5, 3) := by decide +kernel
theorem dX10_relabel_74 : decode cX10_relabel 74 = .ok (.iload 6, 2) := by decide +kernel
theorem dX10_relabel_76 : decode cX10_relabel 76 = .ok (.aload_n 0, 1) := by decide +kernel
theorem dX10_relabel_77 : decode cX10_relabel 77 = .ok (.getfield 13, 3) := by decide +kernel
theorem dX10_relabel_80 : decode cX10_relabel 80 = .ok (.iload_n 1, 1) := by decide +kernel
theorem dX10_relabel_81 : decode cX10_relabel 81 = .ok (.aaload, 1) := by decide +kernel
theorem dX10_relabel_82 : decode cX10_relabel 82 = .ok (.iload 5, 2) := by decide +kernel
theorem dX10_relabel_84 : decode cX10_relabel 84 = .ok (.iload 6, 2) := by decide +kernel
theorem dX10_relabel_86 : decode cX10_relabel 86 = .ok (.invokevirtual 135, 3) := by decide +kernel
theorem dX10_relabel_89 : decode cX10_relabel 89 = .ok (.invokevirtual 266, 3) := by decide +kernel
theorem dX10_relabel_92 : decode cX10_relabel 92 = .ok (.iinc 6 1, 3) := by decide +kernel
theorem dX10_relabel_95 : decode cX10_relabel 95 = .ok (.goto (-43), 3) := by decide +kernel
theorem dX10_relabel_98 : decode cX10_relabel 98 = .ok (.iinc 5 1, 3) := by decide +kernel
theorem dX10_relabel_101 : decode cX10_relabel 101 = .ok (.goto (-59), 3) := by decide +kernel
theorem dX10_relabel_104 : decode cX10_relabel 104 = .ok (.aload_n 0, 1) := by decide +kernel
theorem dX10_relabel_105 : decode cX10_relabel 105 = .ok (.iload 4, 2) := by decide +kernel
theorem dX10_relabel_107 : decode cX10_relabel 107 = .ok (.invokevirtual 154, 3) := by decide +kernel
theorem dX10_relabel_110 : decode cX10_relabel 110 = .ok (.aload_n 0, 1) := by decide +kernel
theorem dX10_relabel_111 : decode cX10_relabel 111 = .ok (.getfield 46, 3) := by decide +kernel
theorem dX10_relabel_114 : decode cX10_relabel 114 = .ok (.invokevirtual 114, 3) := by decide +kernel
theorem dX10_relabel_117 : decode cX10_relabel 117 = .ok (.ireturn, 1) := by decide +kernel
theorem dX10_forbid_0 : decode cX10_forbid 0 = .ok (.iload_n 1, 1) := by decide +kernel
theorem dX10_forbid_1 : decode cX10_forbid 1 = .ok (.invokestatic 125, 3) := by decide +kernel
theorem dX10_forbid_4 : decode cX10_forbid 4 = .ok (.ifCond .eq 10, 3) := by decide +kernel
theorem dX10_forbid_7 : decode cX10_forbid 7 = .ok (.iload_n 2, 1) := by decide +kernel
theorem dX10_forbid_8 : decode cX10_forbid 8 = .ok (.invokestatic 125, 3) := by decide +kernel
theorem dX10_forbid_11 : decode cX10_forbid 11 = .ok (.ifCond .ne 6, 3) := by decide +kernel
theorem dX10_forbid_14 : decode cX10_forbid 14 = .ok (.bipush (-2), 2) := by decide +kernel
theorem dX10_forbid_16 : decode cX10_forbid 16 = .ok (.ireturn, 1) := by decide +kernel
theorem dX10_forbid_17 : decode cX10_forbid 17 = .ok (.aload_n 0, 1) := by decide +kernel
theorem dX10_forbid_18 : decode cX10_forbid 18 = .ok (.invokevirtual 190, 3) := by decide +kernel
theorem dX10_forbid_21 : decode cX10_forbid 21 = .ok (.istore_n 3, 1) := by decide +kernel
theorem dX10_forbid_22 : decode cX10_forbid 22 = .ok (.aload_n 0, 1) := by decide +kernel
theorem dX10_forbid_23 : decode cX10_forbid 23 = .ok (.getfield 32, 3) := by decide +kernel
theorem dX10_forbid_26 : decode cX10_forbid 26 = .ok (.invokevirtual 145, 3) := by decide +kernel
theorem dX10_forbid_29 : decode cX10_forbid 29 = .ok (.istore 4, 2) := by decide +kernel
theorem dX10_forbid_31 : decode cX10_forbid 31 = .ok (.iload_n 3, 1) := by decide +kernel
theorem dX10_forbid_32 : decode cX10_forbid 32 = .ok (.ifCond .ge 18, 3) := by decide +kernel
theorem dX10_forbid_35 : decode cX10_forbid 35 = .ok (.iload 4, 2) := by decide +kernel
theorem dX10_forbid_37 : decode cX10_forbid 37 = .ok (.iconst 1, 1) := by decide +kernel
theorem dX10_forbid_38 : decode cX10_forbid 38 = .ok (.bipush 6, 2) := by decide +kernel
theorem dX10_forbid_40 : decode cX10_forbid 40 = .ok (.invokestatic 139, 3) := by decide +kernel
theorem dX10_forbid_43 : decode cX10_forbid 43 = .ok (.ifCond .eq 7, 3) := by decide +kernel
theorem dX10_forbid_46 : decode cX10_forbid 46 = .ok (.iconst 1, 1) := by decide +kernel
theorem dX10_forbid_47 : decode cX10_forbid 47 = .ok (.goto 4, 3) := by decide +kernel
theorem dX10_forbid_50 : decode cX10_forbid 50 = .ok (.iconst 0, 1) := by decide +kernel
theorem dX10_forbid_51 : decode cX10_forbid 51 = .ok (.istore 5, 2) := by decide +kernel
theorem dX10_forbid_53 : decode cX10_forbid 53 = .ok (.iload 5, 2) := by decide +kernel
theorem dX10_forbid_55 : decode cX10_forbid 55 = .ok (.ifCond .eq 13, 3) := by decide +kernel
theorem dX10_forbid_58 : decode cX10_forbid 58 = .ok (.aload_n 0, 1) := by decide +kernel
theorem dX10_forbid_59 : decode cX10_forbid 59 = .ok (.aload_n 0, 1) := by decide +kernel
theorem dX10_forbid_60 : decode cX10_forbid 60 = .ok (.getfield 13, 3) := by decide +kernel
theorem dX10_forbid_63 : decode cX10_forbid 63 = .ok (.iload_n 1, 1) := by decide +kernel
theorem dX10_forbid_64 : decode cX10_forbid 64 = .ok (.aaload, 1) := by decide +kernel
theorem dX10_forbid_65 : decode cX10_forbid 65 = .ok (.invokevirtual 268, 3) := by decide +kernel
theorem dX10_forbid_68 : decode cX10_forbid 68 = .ok (.aload_n 0, 1) := by decide +kernel
theorem dX10_forbid_69 : decode cX10_forbid 69 = .ok (.getfield 32, 3) := by decide +kernel
theorem dX10_forbid_72 : decode cX10_forbid 72 = .ok (.invokevirtual 151, 3) := by decide +kernel
theorem dX10_forbid_75 : decode cX10_forbid 75 = .ok (.iload_n 3, 1) := by decide +kernel
theorem dX10_forbid_76 : decode cX10_forbid 76 = .ok (.ifCond .lt 8, 3) := by decide +kernel
theorem dX10_forbid_79 : decode cX10_forbid 79 = .ok (.bipush (-100), 2) := by decide +kernel
theorem dX10_forbid_81 : decode cX10_forbid 81 = .ok (.iload_n 3, 1) := by decide +kernel
theorem dX10_forbid_82 : decode cX10_forbid 82 = .ok (.isub, 1) := by decide +kernel
theorem dX10_forbid_83 : decode cX10_forbid 83 = .ok (.ireturn, 1) := by decide +kernel
theorem dX10_forbid_84 : decode cX10_forbid 84 = .ok (.iload 5, 2) := by decide +kernel
theorem dX10_forbid_86 : decode cX10_forbid 86 = .ok (.ifCond .eq 11, 3) := by decide +kernel
theorem dX10_forbid_89 : decode cX10_forbid 89 = .ok (.aload_n 0, 1) := by decide +kernel
theorem dX10_forbid_90 : decode cX10_forbid 90 = .ok (.iload_n 2, 1) := by decide +kernel
theorem dX10_forbid_91 : decode cX10_forbid 91 = .ok (.invokevirtual 259, 3) := by decide +kernel
theorem dX10_forbid_94 : decode cX10_forbid 94 = .ok (.goto 5, 3) := by decide +kernel
theorem dX10_forbid_97 : decode cX10_forbid 97 = .ok (.bipush (-2), 2) := by decide +kernel
theorem dX10_forbid_99 : decode cX10_forbid 99 = .ok (.ireturn, 1) := by decide +kernel
theorem dX10_writeGraph_0 : decode cX10_writeGraph 0 = .ok (.iload_n 1, 1) := by decide +kernel
theorem dX10_writeGraph_1 : decode cX10_writeGraph 1 = .ok (.invokestatic 125, 3) := by decide +kernel
theorem dX10_writeGraph_4 : decode cX10_writeGraph 4 = .ok (.ifCond .ne 6, 3) := by decide +kernel
theorem dX10_writeGraph_7 : decode cX10_writeGraph 7 = .ok (.bipush (-2), 2) := by decide +kernel
theorem dX10_writeGraph_9 : decode cX10_writeGraph 9 = .ok (.ireturn, 1) := by decide +kernel
theorem dX10_writeGraph_10 : decode cX10_writeGraph 10 = .ok (.aload_n 0, 1) := by decide +kernel
theorem dX10_writeGraph_11 : decode cX10_writeGraph 11 = .ok (.getfield 36, 3) := by decide +kernel
theorem dX10_writeGraph_14 : decode cX10_writeGraph 14 = .ok (.invokevirtual 151, 3) := by decide +kernel
theorem dX10_writeGraph_17 : decode cX10_writeGraph 17 = .ok (.iconst 0, 1) := by decide +kernel
theorem dX10_writeGraph_18 : decode cX10_writeGraph 18 = .ok (.istore_n 2, 1) := by decide +kernel
theorem dX10_writeGraph_19 : decode cX10_writeGraph 19 = .ok (.iload_n 2, 1) := by decide +kernel
theorem dX10_writeGraph_20 : decode cX10_writeGraph 20 = .ok (.bipush 8, 2) := by decide +kernel
theorem dX10_writeGraph_22 : decode cX10_writeGraph 22 = .ok (.if_icmp .ge 62, 3) := by decide +kernel
theorem dX10_writeGraph_25 : decode cX10_writeGraph 25 = .ok (.iconst 0, 1) := by decide +kernel
theorem dX10_writeGraph_26 : decode cX10_writeGraph 26 = .ok (.istore_n 3, 1) := by decide +kernel
theorem dX10_writeGraph_27 : decode cX10_writeGraph 27 = .ok (.iload_n 3, 1) := by decide +kernel
theorem dX10_writeGraph_28 : decode cX10_writeGraph 28 = .ok (.iconst 4, 1) := by decide +kernel
theorem dX10_writeGraph_29 : decode cX10_writeGraph 29 = .ok (.if_icmp .ge 49, 3) := by decide +kernel
theorem dX10_writeGraph_32 : decode cX10_writeGraph 32 = .ok (.iconst 0, 1) := by decide +kernel
theorem dX10_writeGraph_33 : decode cX10_writeGraph 33 = .ok (.istore 4, 2) := by decide +kernel
theorem dX10_writeGraph_35 : decode cX10_writeGraph 35 = .ok (.iload 4, 2) := by decide +kernel
theorem dX10_writeGraph_37 : decode cX10_writeGraph 37 = .ok (.bipush 8, 2) := by decide +kernel
theorem dX10_writeGraph_39 : decode cX10_writeGraph 39 = .ok (.if_icmp .ge 33, 3) := by decide +kernel
theorem dX10_writeGraph_42 : decode cX10_writeGraph 42 = .ok (.aload_n 0, 1) := by decide +kernel
theorem dX10_writeGraph_43 : decode cX10_writeGraph 43 = .ok (.getfield 13, 3) := by decide +kernel
theorem dX10_writeGraph_46 : decode cX10_writeGraph 46 = .ok (.iload_n 1, 1) := by decide +kernel
theorem dX10_writeGraph_47 : decode cX10_writeGraph 47 = .ok (.aaload, 1) := by decide +kernel
theorem dX10_writeGraph_48 : decode cX10_writeGraph 48 = .ok (.iload_n 2, 1) := by decide +kernel
theorem dX10_writeGraph_49 : decode cX10_writeGraph 49 = .ok (.iload_n 3, 1) := by decide +kernel
theorem dX10_writeGraph_50 : decode cX10_writeGraph 50 = .ok (.iload 4, 2) := by decide +kernel
theorem dX10_writeGraph_52 : decode cX10_writeGraph 52 = .ok (.invokevirtual 118, 3) := by decide +kernel
theorem dX10_writeGraph_55 : decode cX10_writeGraph 55 = .ok (.ifCond .eq 11, 3) := by decide +kernel
theorem dX10_writeGraph_58 : decode cX10_writeGraph 58 = .ok (.aload_n 0, 1) := by decide +kernel
theorem dX10_writeGraph_59 : decode cX10_writeGraph 59 = .ok (.iload_n 2, 1) := by decide +kernel
theorem dX10_writeGraph_60 : decode cX10_writeGraph 60 = .ok (.iload_n 3, 1) := by decide +kernel
theorem dX10_writeGraph_61 : decode cX10_writeGraph 61 = .ok (.iload 4, 2) := by decide +kernel
theorem dX10_writeGraph_63 : decode cX10_writeGraph 63 = .ok (.invokevirtual 271, 3) := by decide +kernel
theorem dX10_writeGraph_66 : decode cX10_writeGraph 66 = .ok (.iinc 4 1, 3) := by decide +kernel
theorem dX10_writeGraph_69 : decode cX10_writeGraph 69 = .ok (.goto (-34), 3) := by decide +kernel
theorem dX10_writeGraph_72 : decode cX10_writeGraph 72 = .ok (.iinc 3 1, 3) := by decide +kernel
theorem dX10_writeGraph_75 : decode cX10_writeGraph 75 = .ok (.goto (-48), 3) := by decide +kernel
theorem dX10_writeGraph_78 : decode cX10_writeGraph 78 = .ok (.iinc 2 1, 3) := by decide +kernel
theorem dX10_writeGraph_81 : decode cX10_writeGraph 81 = .ok (.goto (-62), 3) := by decide +kernel
theorem dX10_writeGraph_84 : decode cX10_writeGraph 84 = .ok (.aload_n 0, 1) := by decide +kernel
theorem dX10_writeGraph_85 : decode cX10_writeGraph 85 = .ok (.getfield 36, 3) := by decide +kernel
theorem dX10_writeGraph_88 : decode cX10_writeGraph 88 = .ok (.invokevirtual 145, 3) := by decide +kernel
theorem dX10_writeGraph_91 : decode cX10_writeGraph 91 = .ok (.ireturn, 1) := by decide +kernel
theorem dX10_output_0 : decode cX10_output 0 = .ok (.iload_n 1, 1) := by decide +kernel
theorem dX10_output_1 : decode cX10_output 1 = .ok (.iconst 0, 1) := by decide +kernel
theorem dX10_output_2 : decode cX10_output 2 = .ok (.aload_n 0, 1) := by decide +kernel
theorem dX10_output_3 : decode cX10_output 3 = .ok (.getfield 36, 3) := by decide +kernel
theorem dX10_output_6 : decode cX10_output 6 = .ok (.invokevirtual 145, 3) := by decide +kernel
theorem dX10_output_9 : decode cX10_output 9 = .ok (.iconst 1, 1) := by decide +kernel
theorem dX10_output_10 : decode cX10_output 10 = .ok (.isub, 1) := by decide +kernel
theorem dX10_output_11 : decode cX10_output 11 = .ok (.invokestatic 139, 3) := by decide +kernel
theorem dX10_output_14 : decode cX10_output 14 = .ok (.ifCond .eq 14, 3) := by decide +kernel
theorem dX10_output_17 : decode cX10_output 17 = .ok (.aload_n 0, 1) := by decide +kernel
theorem dX10_output_18 : decode cX10_output 18 = .ok (.getfield 36, 3) := by decide +kernel
theorem dX10_output_21 : decode cX10_output 21 = .ok (.iload_n 1, 1) := by decide +kernel
theorem dX10_output_22 : decode cX10_output 22 = .ok (.invokevirtual 274, 3) := by decide +kernel
theorem dX10_output_25 : decode cX10_output 25 = .ok (.goto 4, 3) := by decide +kernel
theorem dX10_output_28 : decode cX10_output 28 = .ok (.iconst (-1), 1) := by decide +kernel
theorem dX10_output_29 : decode cX10_output 29 = .ok (.ireturn, 1) := by decide +kernel
theorem dX10_undo_0 : decode cX10_undo 0 = .ok (.aload_n 0, 1) := by decide +kernel
theorem dX10_undo_1 : decode cX10_undo 1 = .ok (.getfield 23, 3) := by decide +kernel
theorem dX10_undo_4 : decode cX10_undo 4 = .ok (.aload_n 0, 1) := by decide +kernel
theorem dX10_undo_5 : decode cX10_undo 5 = .ok (.getfield 13, 3) := by decide +kernel
theorem dX10_undo_8 : decode cX10_undo 8 = .ok (.invokevirtual 277, 3) := by decide +kernel
theorem dX10_undo_11 : decode cX10_undo 11 = .ok (.istore_n 1, 1) := by decide +kernel
theorem dX10_undo_12 : decode cX10_undo 12 = .ok (.iload_n 1, 1) := by decide +kernel
theorem dX10_undo_13 : decode cX10_undo 13 = .ok (.iconst (-1), 1) := by decide +kernel
theorem dX10_undo_14 : decode cX10_undo 14 = .ok (.if_icmp .ne 8, 3) := by decide +kernel
theorem dX10_undo_17 : decode cX10_undo 17 = .ok (.bipush (-6), 2) := by decide +kernel
theorem dX10_undo_19 : decode cX10_undo 19 = .ok (.goto 4, 3) := by decide +kernel
theorem dX10_undo_22 : decode cX10_undo 22 = .ok (.iload_n 1, 1) := by decide +kernel
theorem dX10_undo_23 : decode cX10_undo 23 = .ok (.ireturn, 1) := by decide +kernel
theorem dX10_save_0 : decode cX10_save 0 = .ok (.iconst 0, 1) := by decide +kernel
theorem dX10_save_1 : decode cX10_save 1 = .ok (.istore_n 1, 1) := by decide +kernel
theorem dX10_save_2 : decode cX10_save 2 = .ok (.iload_n 1, 1) := by decide +kernel
theorem dX10_save_3 : decode cX10_save 3 = .ok (.bipush 6, 2) := by decide +kernel
theorem dX10_save_5 : decode cX10_save 5 = .ok (.if_icmp .ge 24, 3) := by decide +kernel
theorem dX10_save_8 : decode cX10_save 8 = .ok (.aload_n 0, 1) := by decide +kernel
theorem dX10_save_9 : decode cX10_save 9 = .ok (.getfield 17, 3) := by decide +kernel
theorem dX10_save_12 : decode cX10_save 12 = .ok (.iload_n 1, 1) := by decide +kernel
theorem dX10_save_13 : decode cX10_save 13 = .ok (.aaload, 1) := by decide +kernel
theorem dX10_save_14 : decode cX10_save 14 = .ok (.aload_n 0, 1) := by decide +kernel
theorem dX10_save_15 : decode cX10_save 15 = .ok (.getfield 13, 3) := by decide +kernel
theorem dX10_save_18 : decode cX10_save 18 = .ok (.iload_n 1, 1) := by decide +kernel
theorem dX10_save_19 : decode cX10_save 19 = .ok (.aaload, 1) := by decide +kernel
theorem dX10_save_20 : decode cX10_save 20 = .ok (.invokevirtual 234, 3) := by decide +kernel
theorem dX10_save_23 : decode cX10_save 23 = .ok (.iinc 1 1, 3) := by decide +kernel
theorem dX10_save_26 : decode cX10_save 26 = .ok (.goto (-24), 3) := by decide +kernel
theorem dX10_save_29 : decode cX10_save 29 = .ok (.aload_n 0, 1) := by decide +kernel
theorem dX10_save_30 : decode cX10_save 30 = .ok (.iconst 1, 1) := by decide +kernel
theorem dX10_save_31 : decode cX10_save 31 = .ok (.putfield 281, 3) := by decide +kernel
theorem dX10_save_34 : decode cX10_save 34 = .ok (.aload_n 0, 1) := by decide +kernel
theorem dX10_save_35 : decode cX10_save 35 = .ok (.invokevirtual 285, 3) := by decide +kernel
theorem dX10_save_38 : decode cX10_save 38 = .ok (.ireturn, 1) := by decide +kernel
theorem dX10_restore_0 : decode cX10_restore 0 = .ok (.aload_n 0, 1) := by decide +kernel
theorem dX10_restore_1 : decode cX10_restore 1 = .ok (.getfield 281, 3) := by decide +kernel
theorem dX10_restore_4 : decode cX10_restore 4 = .ok (.ifCond .ne 6, 3) := by decide +kernel
theorem dX10_restore_7 : decode cX10_restore 7 = .ok (.bipush (-6), 2) := by decide +kernel
theorem dX10_restore_9 : decode cX10_restore 9 = .ok (.ireturn, 1) := by decide +kernel
theorem dX10_restore_10 : decode cX10_restore 10 = .ok (.iconst 0, 1) := by decide +kernel
theorem dX10_restore_11 : decode cX10_restore 11 = .ok (.istore_n 1, 1) := by decide +kernel
theorem dX10_restore_12 : decode cX10_restore 12 = .ok (.iload_n 1, 1) := by decide +kernel
theorem dX10_restore_13 : decode cX10_restore 13 = .ok (.bipush 6, 2) := by decide +kernel
theorem dX10_restore_15 : decode cX10_restore 15 = .ok (.if_icmp .ge 24, 3) := by decide +kernel
theorem dX10_restore_18 : decode cX10_restore 18 = .ok (.aload_n 0, 1) := by decide +kernel
theorem dX10_restore_19 : decode cX10_restore 19 = .ok (.getfield 13, 3) := by decide +kernel
theorem dX10_restore_22 : decode cX10_restore 22 = .ok (.iload_n 1, 1) := by decide +kernel
theorem dX10_restore_23 : decode cX10_restore 23 = .ok (.aaload, 1) := by decide +kernel
theorem dX10_restore_24 : decode cX10_restore 24 = .ok (.aload_n 0, 1) := by decide +kernel
theorem dX10_restore_25 : decode cX10_restore 25 = .ok (.getfield 17, 3) := by decide +kernel
theorem dX10_restore_28 : decode cX10_restore 28 = .ok (.iload_n 1, 1) := by decide +kernel
theorem dX10_restore_29 : decode cX10_restore 29 = .ok (.aaload, 1) := by decide +kernel
theorem dX10_restore_30 : decode cX10_restore 30 = .ok (.invokevirtual 234, 3) := by decide +kernel
theorem dX10_restore_33 : decode cX10_restore 33 = .ok (.iinc 1 1, 3) := by decide +kernel
theorem dX10_restore_36 : decode cX10_restore 36 = .ok (.goto (-24), 3) := by decide +kernel
theorem dX10_restore_39 : decode cX10_restore 39 = .ok (.aload_n 0, 1) := by decide +kernel
theorem dX10_restore_40 : decode cX10_restore 40 = .ok (.getfield 23, 3) := by decide +kernel
theorem dX10_restore_43 : decode cX10_restore 43 = .ok (.invokevirtual 288, 3) := by decide +kernel
theorem dX10_restore_46 : decode cX10_restore 46 = .ok (.aload_n 0, 1) := by decide +kernel
theorem dX10_restore_47 : decode cX10_restore 47 = .ok (.invokevirtual 285, 3) := by decide +kernel
theorem dX10_restore_50 : decode cX10_restore 50 = .ok (.ireturn, 1) := by decide +kernel
theorem dX10_createArray_0 : decode cX10_createArray 0 = .ok (.iload_n 1, 1) := by decide +kernel
theorem dX10_createArray_1 : decode cX10_createArray 1 = .ok (.invokestatic 289, 3) := by decide +kernel
theorem dX10_createArray_4 : decode cX10_createArray 4 = .ok (.ifCond .eq 18, 3) := by decide +kernel
theorem dX10_createArray_7 : decode cX10_createArray 7 = .ok (.iload_n 2, 1) := by decide +kernel
theorem dX10_createArray_8 : decode cX10_createArray 8 = .ok (.iconst 0, 1) := by decide +kernel
theorem dX10_createArray_9 : decode cX10_createArray 9 = .ok (.iconst 2, 1) := by decide +kernel
theorem dX10_createArray_10 : decode cX10_createArray 10 = .ok (.invokestatic 139, 3) := by decide +kernel
theorem dX10_createArray_13 : decode cX10_createArray 13 = .ok (.ifCond .eq 9, 3) := by decide +kernel
theorem dX10_createArray_16 : decode cX10_createArray 16 = .ok (.iload_n 3, 1) := by decide +kernel
theorem dX10_createArray_17 : decode cX10_createArray 17 = .ok (.bipush 30, 2) := by decide +kernel
theorem dX10_createArray_19 : decode cX10_createArray 19 = .ok (.if_icmp .le 6, 3) := by decide +kernel
theorem dX10_createArray_22 : decode cX10_createArray 22 = .ok (.bipush (-2), 2) := by decide +kernel
theorem dX10_createArray_24 : decode cX10_createArray 24 = .ok (.ireturn, 1) := by decide +kernel
theorem dX10_createArray_25 : decode cX10_createArray 25 = .ok (.iload_n 3, 1) := by decide +kernel
theorem dX10_createArray_26 : decode cX10_createArray 26 = .ok (.ifCond .ge 6, 3) := by decide +kernel
theorem dX10_createArray_29 : decode cX10_createArray 29 = .ok (.bipush (-14), 2) := by decide +kernel
theorem dX10_createArray_31 : decode cX10_createArray 31 = .ok (.ireturn, 1) := by decide +kernel
theorem dX10_createArray_32 : decode cX10_createArray 32 = .ok (.aload_n 0, 1) := by decide +kernel
theorem dX10_createArray_33 : decode cX10_createArray 33 = .ok (.getfield 41, 3) := by decide +kernel
theorem dX10_createArray_36 : decode cX10_createArray 36 = .ok (.iload_n 1, 1) := by decide +kernel
theorem dX10_createArray_37 : decode cX10_createArray 37 = .ok (.aaload, 1) := by decide +kernel
theorem dX10_createArray_38 : decode cX10_createArray 38 = .ok (.iload_n 2, 1) := by decide +kernel
theorem dX10_createArray_39 : decode cX10_createArray 39 = .ok (.iload_n 3, 1) := by decide +kernel
theorem dX10_createArray_40 : decode cX10_createArray 40 = .ok (.invokevirtual 292, 3) := by decide +kernel
theorem dX10_createArray_43 : decode cX10_createArray 43 = .ok (.iconst 1, 1) := by decide +kernel
theorem dX10_createArray_44 : decode cX10_createArray 44 = .ok (.ireturn, 1) := by decide +kernel
theorem dX10_setElement_0 : decode cX10_setElement 0 = .ok (.iload_n 1, 1) := by decide +kernel
theorem dX10_setElement_1 : decode cX10_setElement 1 = .ok (.invokestatic 289, 3) := by decide +kernel
theorem dX10_setElement_4 : decode cX10_setElement 4 = .ok (.ifCond .eq 16, 3) := by decide +kernel
theorem dX10_setElement_7 : decode cX10_setElement 7 = .ok (.iload_n 3, 1) := by decide +kernel
theorem dX10_setElement_8 : decode cX10_setElement 8 = .ok (.sipush (-9999), 3) := by decide +kernel
theorem dX10_setElement_11 : decode cX10_setElement 11 = .ok (.sipush 9999, 3) := by decide +kernel
theorem dX10_setElement_14 : decode cX10_setElement 14 = .ok (.invokestatic 139, 3) := by decide +kernel
theorem dX10_setElement_17 : decode cX10_setElement 17 = .ok (.ifCond .ne 6, 3) := by decide +kernel
theorem dX10_setElement_20 : decode cX10_setElement 20 = .ok (.bipush (-2), 2) := by decide +kernel
theorem dX10_setElement_22 : decode cX10_setElement 22 = .ok (.ireturn, 1) := by decide +kernel
theorem dX10_setElement_23 : decode cX10_setElement 23 = .ok (.aload_n 0, 1) := by decide +kernel
theorem dX10_setElement_24 : decode cX10_setElement 24 = .ok (.getfield 41, 3) := by decide +kernel
theorem dX10_setElement_27 : decode cX10_setElement 27 = .ok (.iload_n 1, 1) := by decide +kernel
theorem dX10_setElement_28 : decode cX10_setElement 28 = .ok (.aaload, 1) := by decide +kernel
theorem dX10_setElement_29 : decode cX10_setElement 29 = .ok (.astore 4, 2) := by decide +kernel
theorem dX10_setElement_31 : decode cX10_setElement 31 = .ok (.aload 4, 2) := by decide +kernel
theorem dX10_setElement_33 : decode cX10_setElement 33 = .ok (.invokevirtual 296, 3) := by decide +kernel
theorem dX10_setElement_36 : decode cX10_setElement 36 = .ok (.ifCond .ne 6, 3) := by decide +kernel
theorem dX10_setElement_39 : decode cX10_setElement 39 = .ok (.bipush (-11), 2) := by decide +kernel
theorem dX10_setElement_41 : decode cX10_setElement 41 = .ok (.ireturn, 1) := by decide +kernel
theorem dX10_setElement_42 : decode cX10_setElement 42 = .ok (.aload 4, 2) := by decide +kernel
theorem dX10_setElement_44 : decode cX10_setElement 44 = .ok (.iload_n 2, 1) := by decide +kernel
theorem dX10_setElement_45 : decode cX10_setElement 45 = .ok (.invokevirtual 299, 3) := by decide +kernel
theorem dX10_setElement_48 : decode cX10_setElement 48 = .ok (.ifCond .ne 6, 3) := by decide +kernel
theorem dX10_setElement_51 : decode cX10_setElement 51 = .ok (.bipush (-13), 2) := by decide +kernel
theorem dX10_setElement_53 : decode cX10_setElement 53 = .ok (.ireturn, 1) := by decide +kernel
theorem dX10_setElement_54 : decode cX10_setElement 54 = .ok (.aload 4, 2) := by decide +kernel
theorem dX10_setElement_56 : decode cX10_setElement 56 = .ok (.iload_n 2, 1) := by decide +kernel
theorem dX10_setElement_57 : decode cX10_setElement 57 = .ok (.iload_n 3, 1) := by decide +kernel
theorem dX10_setElement_58 : decode cX10_setElement 58 = .ok (.invokevirtual 302, 3) := by decide +kernel
theorem dX10_setElement_61 : decode cX10_setElement 61 = .ok (.iconst 1, 1) := by decide +kernel
theorem dX10_setElement_62 : decode cX10_setElement 62 = .ok (.ireturn, 1) := by decide +kernel
theorem dX10_setNaN_0 : decode cX10_setNaN 0 = .ok (.iload_n 1, 1) := by decide +kernel
theorem dX10_setNaN_1 : decode cX10_setNaN 1 = .ok (.invokestatic 289, 3) := by decide +kernel
theorem dX10_setNaN_4 : decode cX10_setNaN 4 = .ok (.ifCond .ne 6, 3) := by decide +kernel
theorem dX10_setNaN_7 : decode cX10_setNaN 7 = .ok (.bipush (-2), 2) := by decide +kernel
theorem dX10_setNaN_9 : decode cX10_setNaN 9 = .ok (.ireturn, 1) := by decide +kernel
theorem dX10_setNaN_10 : decode cX10_setNaN 10 = .ok (.aload_n 0, 1) := by decide +kernel
theorem dX10_setNaN_11 : decode cX10_setNaN 11 = .ok (.getfield 41, 3) := by decide +kernel
theorem dX10_setNaN_14 : decode cX10_setNaN 14 = .ok (.iload_n 1, 1) := by decide +kernel
theorem dX10_setNaN_15 : decode cX10_setNaN 15 = .ok (.aaload, 1) := by decide +kernel
theorem dX10_setNaN_16 : decode cX10_setNaN 16 = .ok (.astore_n 3, 1) := by decide +kernel
theorem dX10_setNaN_17 : decode cX10_setNaN 17 = .ok (.aload_n 3, 1) := by decide +kernel
theorem dX10_setNaN_18 : decode cX10_setNaN 18 = .ok (.invokevirtual 296, 3) := by decide +kernel
theorem dX10_setNaN_21 : decode cX10_setNaN 21 = .ok (.ifCond .ne 6, 3) := by decide +kernel
theorem dX10_setNaN_24 : decode cX10_setNaN 24 = .ok (.bipush (-11), 2) := by decide +kernel
theorem dX10_setNaN_26 : decode cX10_setNaN 26 = .ok (.ireturn, 1) := by decide +kernel
theorem dX10_setNaN_27 : decode cX10_setNaN 27 = .ok (.aload_n 3, 1) := by decide +kernel
theorem dX10_setNaN_28 : decode cX10_setNaN 28 = .ok (.invokevirtual 305, 3) := by decide +kernel
theorem dX10_setNaN_31 : decode cX10_setNaN 31 = .ok (.ifCond .ne 6, 3) := by decide +kernel
theorem dX10_setNaN_34 : decode cX10_setNaN 34 = .ok (.bipush (-12), 2) := by decide +kernel
theorem dX10_setNaN_36 : decode cX10_setNaN 36 = .ok (.ireturn, 1) := by decide +kernel
theorem dX10_setNaN_37 : decode cX10_setNaN 37 = .ok (.aload_n 3, 1) := by decide +kernel
theorem dX10_setNaN_38 : decode cX10_setNaN 38 = .ok (.iload_n 2, 1) := by decide +kernel
theorem dX10_setNaN_39 : decode cX10_setNaN 39 = .ok (.invokevirtual 299, 3) := by decide +kernel
theorem dX10_setNaN_42 : decode cX10_setNaN 42 = .ok (.ifCond .ne 6, 3) := by decide +kernel
theorem dX10_setNaN_45 : decode cX10_setNaN 45 = .ok (.bipush (-13), 2) := by decide +kernel
theorem dX10_setNaN_47 : decode cX10_setNaN 47 = .ok (.ireturn, 1) := by decide +kernel
theorem dX10_setNaN_48 : decode cX10_setNaN 48 = .ok (.aload_n 3, 1) := by decide +kernel
theorem dX10_setNaN_49 : decode cX10_setNaN 49 = .ok (.iload_n 2, 1) := by decide +kernel
theorem dX10_setNaN_50 : decode cX10_setNaN 50 = .ok (.invokevirtual 308, 3) := by decide +kernel
theorem dX10_setNaN_53 : decode cX10_setNaN 53 = .ok (.iconst 1, 1) := by decide +kernel
theorem dX10_setNaN_54 : decode cX10_setNaN 54 = .ok (.ireturn, 1) := by decide +kernel
theorem dX10_compareElements_0 : decode cX10_compareElements 0 = .ok (.iload_n 1, 1) := by decide +kernel
theorem dX10_compareElements_1 : decode cX10_compareElements 1 = .ok (.invokestatic 289, 3) := by decide +kernel
theorem dX10_compareElements_4 : decode cX10_compareElements 4 = .ok (.ifCond .ne 6, 3) := by decide +kernel
theorem dX10_compareElements_7 : decode cX10_compareElements 7 = .ok (.bipush (-2), 2) := by decide +kernel
theorem dX10_compareElements_9 : decode cX10_compareElements 9 = .ok (.ireturn, 1) := by decide +kernel
theorem dX10_compareElements_10 : decode cX10_compareElements 10 = .ok (.aload_n 0, 1) := by decide +kernel
theorem dX10_compareElements_11 : decode cX10_compareElements 11 = .ok (.getfield 41, 3) := by decide +kernel
theorem dX10_compareElements_14 : decode cX10_compareElements 14 = .ok (.iload_n 1, 1) := by decide +kernel
theorem dX10_compareElements_15 : decode cX10_compareElements 15 = .ok (.aaload, 1) := by decide +kernel
theorem dX10_compareElements_16 : decode cX10_compareElements 16 = .ok (.astore 4, 2) := by decide +kernel
theorem dX10_compareElements_18 : decode cX10_compareElements 18 = .ok (.aload 4, 2) := by decide +kernel
theorem dX10_compareElements_20 : decode cX10_compareElements 20 = .ok (.invokevirtual 296, 3) := by decide +kernel
theorem dX10_compareElements_23 : decode cX10_compareElements 23 = .ok (.ifCond .ne 6, 3) := by decide +kernel
theorem dX10_compareElements_26 : decode cX10_compareElements 26 = .ok (.bipush (-11), 2) := by decide +kernel
theorem dX10_compareElements_28 : decode cX10_compareElements 28 = .ok (.ireturn, 1) := by decide +kernel
theorem dX10_compareElements_29 : decode cX10_compareElements 29 = .ok (.aload 4, 2) := by decide +kernel
theorem dX10_compareElements_31 : decode cX10_compareElements 31 = .ok (.iload_n 2, 1) := by decide +kernel
theorem dX10_compareElements_32 : decode cX10_compareElements 32 = .ok (.invokevirtual 299, 3) := by decide +kernel
theorem dX10_compareElements_35 : decode cX10_compareElements 35 = .ok (.ifCond .eq 12, 3) := by decide +kernel
theorem dX10_compareElements_38 : decode cX10_compareElements 38 = .ok (.aload 4, 2) := by decide +kernel
theorem dX10_compareElements_40 : decode cX10_compareElements 40 = .ok (.iload_n 3, 1) := by decide +kernel
theorem dX10_compareElements_41 : decode cX10_compareElements 41 = .ok (.invokevirtual 299, 3) := by decide +kernel
theorem dX10_compareElements_44 : decode cX10_compareElements 44 = .ok (.ifCond .ne 6, 3) := by decide +kernel
theorem dX10_compareElements_47 : decode cX10_compareElements 47 = .ok (.bipush (-13), 2) := by decide +kernel
theorem dX10_compareElements_49 : decode cX10_compareElements 49 = .ok (.ireturn, 1) := by decide +kernel
theorem dX10_compareElements_50 : decode cX10_compareElements 50 = .ok (.aload 4, 2) := by decide +kernel
theorem dX10_compareElements_52 : decode cX10_compareElements 52 = .ok (.iload_n 2, 1) := by decide +kernel
theorem dX10_compareElements_53 : decode cX10_compareElements 53 = .ok (.iload_n 3, 1) := by decide +kernel
theorem dX10_compareElements_54 : decode cX10_compareElements 54 = .ok (.invokevirtual 311, 3) := by decide +kernel
theorem dX10_compareElements_57 : decode cX10_compareElements 57 = .ok (.ireturn, 1) := by decide +kernel
theorem dX10_checkCounts_0 : decode cX10_checkCounts 0 = .ok (.iload_n 1, 1) := by decide +kernel
theorem dX10_checkCounts_1 : decode cX10_checkCounts 1 = .ok (.invokestatic 289, 3) := by decide +kernel
theorem dX10_checkCounts_4 : decode cX10_checkCounts 4 = .ok (.ifCond .eq 10, 3) := by decide +kernel
theorem dX10_checkCounts_7 : decode cX10_checkCounts 7 = .ok (.iload_n 2, 1) := by decide +kernel
theorem dX10_checkCounts_8 : decode cX10_checkCounts 8 = .ok (.invokestatic 125, 3) := by decide +kernel
theorem dX10_checkCounts_11 : decode cX10_checkCounts 11 = .ok (.ifCond .ne 6, 3) := by decide +kernel
theorem dX10_checkCounts_14 : decode cX10_checkCounts 14 = .ok (.bipush (-2), 2) := by decide +kernel
theorem dX10_checkCounts_16 : decode cX10_checkCounts 16 = .ok (.ireturn, 1) := by decide +kernel
theorem dX10_checkCounts_17 : decode cX10_checkCounts 17 = .ok (.aload_n 0, 1) := by decide +kernel
theorem dX10_checkCounts_18 : decode cX10_checkCounts 18 = .ok (.getfield 41, 3) := by decide +kernel
theorem dX10_checkCounts_21 : decode cX10_checkCounts 21 = .ok (.iload_n 1, 1) := by decide +kernel
theorem dX10_checkCounts_22 : decode cX10_checkCounts 22 = .ok (.aaload, 1) := by decide +kernel
theorem dX10_checkCounts_23 : decode cX10_checkCounts 23 = .ok (.astore_n 3, 1) := by decide +kernel
theorem dX10_checkCounts_24 : decode cX10_checkCounts 24 = .ok (.aload_n 3, 1) := by decide +kernel
theorem dX10_checkCounts_25 : decode cX10_checkCounts 25 = .ok (.invokevirtual 296, 3) := by decide +kernel
theorem dX10_checkCounts_28 : decode cX10_checkCounts 28 = .ok (.ifCond .ne 6, 3) := by decide +kernel
theorem dX10_checkCounts_31 : decode cX10_checkCounts 31 = .ok (.bipush (-11), 2) := by decide +kernel
theorem dX10_checkCounts_33 : decode cX10_checkCounts 33 = .ok (.ireturn, 1) := by decide +kernel
theorem dX10_checkCounts_34 : decode cX10_checkCounts 34 = .ok (.aload_n 0, 1) := by decide +kernel
theorem dX10_checkCounts_35 : decode cX10_checkCounts 35 = .ok (.aload_n 0, 1) := by decide +kernel
theorem dX10_checkCounts_36 : decode cX10_checkCounts 36 = .ok (.getfield 13, 3) := by decide +kernel
theorem dX10_checkCounts_39 : decode cX10_checkCounts 39 = .ok (.iload_n 2, 1) := by decide +kernel
theorem dX10_checkCounts_40 : decode cX10_checkCounts 40 = .ok (.aaload, 1) := by decide +kernel
theorem dX10_checkCounts_41 : decode cX10_checkCounts 41 = .ok (.aload_n 3, 1) := by decide +kernel
theorem dX10_checkCounts_42 : decode cX10_checkCounts 42 = .ok (.invokevirtual 314, 3) := by decide +kernel
theorem dX10_checkCounts_45 : decode cX10_checkCounts 45 = .ok (.iconst 1, 1) := by decide +kernel
theorem dX10_checkCounts_46 : decode cX10_checkCounts 46 = .ok (.isub, 1) := by decide +kernel
theorem dX10_checkCounts_47 : decode cX10_checkCounts 47 = .ok (.invokevirtual 178, 3) := by decide +kernel
theorem dX10_checkCounts_50 : decode cX10_checkCounts 50 = .ok (.iconst 0, 1) := by decide +kernel
theorem dX10_checkCounts_51 : decode cX10_checkCounts 51 = .ok (.istore 4, 2) := by decide +kernel
theorem dX10_checkCounts_53 : decode cX10_checkCounts 53 = .ok (.iload 4, 2) := by decide +kernel
theorem dX10_checkCounts_55 : decode cX10_checkCounts 55 = .ok (.aload_n 3, 1) := by decide +kernel
theorem dX10_checkCounts_56 : decode cX10_checkCounts 56 = .ok (.invokevirtual 314, 3) := by decide +kernel
theorem dX10_checkCounts_59 : decode cX10_checkCounts 59 = .ok (.if_icmp .ge 30, 3) := by decide +kernel
theorem dX10_checkCounts_62 : decode cX10_checkCounts 62 = .ok (.aload_n 3, 1) := by decide +kernel
theorem dX10_checkCounts_63 : decode cX10_checkCounts 63 = .ok (.iload 4, 2) := by decide +kernel
theorem dX10_checkCounts_65 : decode cX10_checkCounts 65 = .ok (.aload_n 0, 1) := by decide +kernel
theorem dX10_checkCounts_66 : decode cX10_checkCounts 66 = .ok (.getfield 69, 3) := by decide +kernel
theorem dX10_checkCounts_69 : decode cX10_checkCounts 69 = .ok (.iload 4, 2) := by decide +kernel
theorem dX10_checkCounts_71 : decode cX10_checkCounts 71 = .ok (.invokevirtual 182, 3) := by decide +kernel
theorem dX10_checkCounts_74 : decode cX10_checkCounts 74 = .ok (.invokevirtual 315, 3) := by decide +kernel
theorem dX10_checkCounts_77 : decode cX10_checkCounts 77 = .ok (.ifCond .ne 6, 3) := by decide +kernel
theorem dX10_checkCounts_80 : decode cX10_checkCounts 80 = .ok (.iload 4, 2) := by decide +kernel
theorem dX10_checkCounts_82 : decode cX10_checkCounts 82 = .ok (.ireturn, 1) := by decide +kernel
theorem dX10_checkCounts_83 : decode cX10_checkCounts 83 = .ok (.iinc 4 1, 3) := by decide +kernel
theorem dX10_checkCounts_86 : decode cX10_checkCounts 86 = .ok (.goto (-33), 3) := by decide +kernel
theorem dX10_checkCounts_89 : decode cX10_checkCounts 89 = .ok (.iconst (-1), 1) := by decide +kernel
theorem dX10_checkCounts_90 : decode cX10_checkCounts 90 = .ok (.ireturn, 1) := by decide +kernel
theorem dX10_isWithin_0 : decode cX10_isWithin 0 = .ok (.iload_n 0, 1) := by decide +kernel
theorem dX10_isWithin_1 : decode cX10_isWithin 1 = .ok (.iload_n 1, 1) := by decide +kernel
theorem dX10_isWithin_2 : decode cX10_isWithin 2 = .ok (.if_icmp .lt 12, 3) := by decide +kernel
theorem dX10_isWithin_5 : decode cX10_isWithin 5 = .ok (.iload_n 0, 1) := by decide +kernel
theorem dX10_isWithin_6 : decode cX10_isWithin 6 = .ok (.iload_n 2, 1) := by decide +kernel
theorem dX10_isWithin_7 : decode cX10_isWithin 7 = .ok (.if_icmp .gt 7, 3) := by decide +kernel
theorem dX10_isWithin_10 : decode cX10_isWithin 10 = .ok (.iconst 1, 1) := by decide +kernel
theorem dX10_isWithin_11 : decode cX10_isWithin 11 = .ok (.goto 4, 3) := by decide +kernel
theorem dX10_isWithin_14 : decode cX10_isWithin 14 = .ok (.iconst 0, 1) := by decide +kernel
theorem dX10_isWithin_15 : decode cX10_isWithin 15 = .ok (.ireturn, 1) := by decide +kernel
theorem dX10_isSlot_0 : decode cX10_isSlot 0 = .ok (.iload_n 0, 1) := by decide +kernel
theorem dX10_isSlot_1 : decode cX10_isSlot 1 = .ok (.ifCond .lt 13, 3) := by decide +kernel
theorem dX10_isSlot_4 : decode cX10_isSlot 4 = .ok (.iload_n 0, 1) := by decide +kernel
theorem dX10_isSlot_5 : decode cX10_isSlot 5 = .ok (.bipush 6, 2) := by decide +kernel
theorem dX10_isSlot_7 : decode cX10_isSlot 7 = .ok (.if_icmp .ge 7, 3) := by decide +kernel
theorem dX10_isSlot_10 : decode cX10_isSlot 10 = .ok (.iconst 1, 1) := by decide +kernel
theorem dX10_isSlot_11 : decode cX10_isSlot 11 = .ok (.goto 4, 3) := by decide +kernel
theorem dX10_isSlot_14 : decode cX10_isSlot 14 = .ok (.iconst 0, 1) := by decide +kernel
theorem dX10_isSlot_15 : decode cX10_isSlot 15 = .ok (.ireturn, 1) := by decide +kernel
theorem dX10_isVertex_0 : decode cX10_isVertex 0 = .ok (.iload_n 0, 1) := by decide +kernel
theorem dX10_isVertex_1 : decode cX10_isVertex 1 = .ok (.ifCond .lt 13, 3) := by decide +kernel
theorem dX10_isVertex_4 : decode cX10_isVertex 4 = .ok (.iload_n 0, 1) := by decide +kernel
theorem dX10_isVertex_5 : decode cX10_isVertex 5 = .ok (.bipush 8, 2) := by decide +kernel
theorem dX10_isVertex_7 : decode cX10_isVertex 7 = .ok (.if_icmp .ge 7, 3) := by decide +kernel
theorem dX10_isVertex_10 : decode cX10_isVertex 10 = .ok (.iconst 1, 1) := by decide +kernel
theorem dX10_isVertex_11 : decode cX10_isVertex 11 = .ok (.goto 4, 3) := by decide +kernel
theorem dX10_isVertex_14 : decode cX10_isVertex 14 = .ok (.iconst 0, 1) := by decide +kernel
theorem dX10_isVertex_15 : decode cX10_isVertex 15 = .ok (.ireturn, 1) := by decide +kernel
theorem dX10_isLetter_0 : decode cX10_isLetter 0 = .ok (.iload_n 0, 1) := by decide +kernel
theorem dX10_isLetter_1 : decode cX10_isLetter 1 = .ok (.ifCond .lt 12, 3) := by decide +kernel
theorem dX10_isLetter_4 : decode cX10_isLetter 4 = .ok (.iload_n 0, 1) := by decide +kernel
theorem dX10_isLetter_5 : decode cX10_isLetter 5 = .ok (.iconst 4, 1) := by decide +kernel
theorem dX10_isLetter_6 : decode cX10_isLetter 6 = .ok (.if_icmp .ge 7, 3) := by decide +kernel
theorem dX10_isLetter_9 : decode cX10_isLetter 9 = .ok (.iconst 1, 1) := by decide +kernel
theorem dX10_isLetter_10 : decode cX10_isLetter 10 = .ok (.goto 4, 3) := by decide +kernel
theorem dX10_isLetter_13 : decode cX10_isLetter 13 = .ok (.iconst 0, 1) := by decide +kernel
theorem dX10_isLetter_14 : decode cX10_isLetter 14 = .ok (.ireturn, 1) := by decide +kernel
theorem dX10_isArray_0 : decode cX10_isArray 0 = .ok (.iload_n 0, 1) := by decide +kernel
theorem dX10_isArray_1 : decode cX10_isArray 1 = .ok (.ifCond .lt 12, 3) := by decide +kernel
theorem dX10_isArray_4 : decode cX10_isArray 4 = .ok (.iload_n 0, 1) := by decide +kernel
theorem dX10_isArray_5 : decode cX10_isArray 5 = .ok (.iconst 4, 1) := by decide +kernel
theorem dX10_isArray_6 : decode cX10_isArray 6 = .ok (.if_icmp .ge 7, 3) := by decide +kernel
theorem dX10_isArray_9 : decode cX10_isArray 9 = .ok (.iconst 1, 1) := by decide +kernel
theorem dX10_isArray_10 : decode cX10_isArray 10 = .ok (.goto 4, 3) := by decide +kernel
theorem dX10_isArray_13 : decode cX10_isArray 13 = .ok (.iconst 0, 1) := by decide +kernel
theorem dX10_isArray_14 : decode cX10_isArray 14 = .ok (.ireturn, 1) := by decide +kernel
theorem dX10_isEdgeOfSlot_0 : decode cX10_isEdgeOfSlot 0 = .ok (.iload_n 0, 1) := by decide +kernel
theorem dX10_isEdgeOfSlot_1 : decode cX10_isEdgeOfSlot 1 = .ok (.invokestatic 125, 3) := by decide +kernel
theorem dX10_isEdgeOfSlot_4 : decode cX10_isEdgeOfSlot 4 = .ok (.ifCond .eq 28, 3) := by decide +kernel
theorem dX10_isEdgeOfSlot_7 : decode cX10_isEdgeOfSlot 7 = .ok (.iload_n 1, 1) := by decide +kernel
theorem dX10_isEdgeOfSlot_8 : decode cX10_isEdgeOfSlot 8 = .ok (.invokestatic 129, 3) := by decide +kernel
theorem dX10_isEdgeOfSlot_11 : decode cX10_isEdgeOfSlot 11 = .ok (.ifCond .eq 21, 3) := by decide +kernel
theorem dX10_isEdgeOfSlot_14 : decode cX10_isEdgeOfSlot 14 = .ok (.iload_n 2, 1) := by decide +kernel
theorem dX10_isEdgeOfSlot_15 : decode cX10_isEdgeOfSlot 15 = .ok (.invokestatic 132, 3) := by decide +kernel
theorem dX10_isEdgeOfSlot_18 : decode cX10_isEdgeOfSlot 18 = .ok (.ifCond .eq 14, 3) := by decide +kernel
theorem dX10_isEdgeOfSlot_21 : decode cX10_isEdgeOfSlot 21 = .ok (.iload_n 3, 1) := by decide +kernel
theorem dX10_isEdgeOfSlot_22 : decode cX10_isEdgeOfSlot 22 = .ok (.invokestatic 129, 3) := by decide +kernel
theorem dX10_isEdgeOfSlot_25 : decode cX10_isEdgeOfSlot 25 = .ok (.ifCond .eq 7, 3) := by decide +kernel
theorem dX10_isEdgeOfSlot_28 : decode cX10_isEdgeOfSlot 28 = .ok (.iconst 1, 1) := by decide +kernel
theorem dX10_isEdgeOfSlot_29 : decode cX10_isEdgeOfSlot 29 = .ok (.goto 4, 3) := by decide +kernel
theorem dX10_isEdgeOfSlot_32 : decode cX10_isEdgeOfSlot 32 = .ok (.iconst 0, 1) := by decide +kernel
theorem dX10_isEdgeOfSlot_33 : decode cX10_isEdgeOfSlot 33 = .ok (.ireturn, 1) := by decide +kernel
theorem dX10_nextDraw_0 : decode cX10_nextDraw 0 = .ok (.iload_n 0, 1) := by decide +kernel
theorem dX10_nextDraw_1 : decode cX10_nextDraw 1 = .ok (.ldc_w 319, 3) := by decide +kernel
theorem dX10_nextDraw_4 : decode cX10_nextDraw 4 = .ok (.imul, 1) := by decide +kernel
theorem dX10_nextDraw_5 : decode cX10_nextDraw 5 = .ok (.sipush 12345, 3) := by decide +kernel
theorem dX10_nextDraw_8 : decode cX10_nextDraw 8 = .ok (.iadd, 1) := by decide +kernel
theorem dX10_nextDraw_9 : decode cX10_nextDraw 9 = .ok (.ireturn, 1) := by decide +kernel
theorem dX10_commonDivisor_0 : decode cX10_commonDivisor 0 = .ok (.lload_n 0, 1) := by decide +kernel
theorem dX10_commonDivisor_1 : decode cX10_commonDivisor 1 = .ok (.lstore 4, 2) := by decide +kernel
theorem dX10_commonDivisor_3 : decode cX10_commonDivisor 3 = .ok (.lload_n 2, 1) := by decide +kernel
theorem dX10_commonDivisor_4 : decode cX10_commonDivisor 4 = .ok (.lstore 6, 2) := by decide +kernel
theorem dX10_commonDivisor_6 : decode cX10_commonDivisor 6 = .ok (.iconst 0, 1) := by decide +kernel
theorem dX10_commonDivisor_7 : decode cX10_commonDivisor 7 = .ok (.istore 8, 2) := by decide +kernel
theorem dX10_commonDivisor_9 : decode cX10_commonDivisor 9 = .ok (.iload 8, 2) := by decide +kernel
theorem dX10_commonDivisor_11 : decode cX10_commonDivisor 11 = .ok (.bipush 100, 2) := by decide +kernel
theorem dX10_commonDivisor_13 : decode cX10_commonDivisor 13 = .ok (.if_icmp .ge 31, 3) := by decide +kernel
theorem dX10_commonDivisor_16 : decode cX10_commonDivisor 16 = .ok (.lload 6, 2) := by decide +kernel
theorem dX10_commonDivisor_18 : decode cX10_commonDivisor 18 = .ok (.lconst 0, 1) := by decide +kernel
theorem dX10_commonDivisor_19 : decode cX10_commonDivisor 19 = .ok (.lcmp, 1) := by decide +kernel
theorem dX10_commonDivisor_20 : decode cX10_commonDivisor 20 = .ok (.ifCond .eq 24, 3) := by decide +kernel
theorem dX10_commonDivisor_23 : decode cX10_commonDivisor 23 = .ok (.lload 4, 2) := by decide +kernel
theorem dX10_commonDivisor_25 : decode cX10_commonDivisor 25 = .ok (.lload 6, 2) := by decide +kernel
theorem dX10_commonDivisor_27 : decode cX10_commonDivisor 27 = .ok (.lrem, 1) := by decide +kernel
theorem dX10_commonDivisor_28 : decode cX10_commonDivisor 28 = .ok (.lstore 9, 2) := by decide +kernel
theorem dX10_commonDivisor_30 : decode cX10_commonDivisor 30 = .ok (.lload 6, 2) := by decide +kernel
theorem dX10_commonDivisor_32 : decode cX10_commonDivisor 32 = .ok (.lstore 4, 2) := by decide +kernel
theorem dX10_commonDivisor_34 : decode cX10_commonDivisor 34 = .ok (.lload 9, 2) := by decide +kernel
theorem dX10_commonDivisor_36 : decode cX10_commonDivisor 36 = .ok (.lstore 6, 2) := by decide +kernel
theorem dX10_commonDivisor_38 : decode cX10_commonDivisor 38 = .ok (.iinc 8 1, 3) := by decide +kernel
theorem dX10_commonDivisor_41 : decode cX10_commonDivisor 41 = .ok (.goto (-32), 3) := by decide +kernel
theorem dX10_commonDivisor_44 : decode cX10_commonDivisor 44 = .ok (.lload 4, 2) := by decide +kernel
theorem dX10_commonDivisor_46 : decode cX10_commonDivisor 46 = .ok (.lreturn, 1) := by decide +kernel
theorem dX10_product_0 : decode cX10_product 0 = .ok (.lconst 0, 1) := by decide +kernel
theorem dX10_product_1 : decode cX10_product 1 = .ok (.lstore_n 2, 1) := by decide +kernel
theorem dX10_product_2 : decode cX10_product 2 = .ok (.iconst 0, 1) := by decide +kernel
theorem dX10_product_3 : decode cX10_product 3 = .ok (.istore 4, 2) := by decide +kernel
theorem dX10_product_5 : decode cX10_product 5 = .ok (.iload 4, 2) := by decide +kernel
theorem dX10_product_7 : decode cX10_product 7 = .ok (.bipush 8, 2) := by decide +kernel
theorem dX10_product_9 : decode cX10_product 9 = .ok (.if_icmp .ge 29, 3) := by decide +kernel
theorem dX10_product_12 : decode cX10_product 12 = .ok (.iload_n 0, 1) := by decide +kernel
theorem dX10_product_13 : decode cX10_product 13 = .ok (.iload 4, 2) := by decide +kernel
theorem dX10_product_15 : decode cX10_product 15 = .ok (.ishr, 1) := by decide +kernel
theorem dX10_product_16 : decode cX10_product 16 = .ok (.iconst 1, 1) := by decide +kernel
theorem dX10_product_17 : decode cX10_product 17 = .ok (.iand, 1) := by decide +kernel
theorem dX10_product_18 : decode cX10_product 18 = .ok (.ifCond .eq 14, 3) := by decide +kernel
theorem dX10_product_21 : decode cX10_product 21 = .ok (.lload_n 2, 1) := by decide +kernel
theorem dX10_product_22 : decode cX10_product 22 = .ok (.iload_n 1, 1) := by decide +kernel
theorem dX10_product_23 : decode cX10_product 23 = .ok (.i2l, 1) := by decide +kernel
theorem dX10_product_24 : decode cX10_product 24 = .ok (.bipush 8, 2) := by decide +kernel
theorem dX10_product_26 : decode cX10_product 26 = .ok (.iload 4, 2) := by decide +kernel
theorem dX10_product_28 : decode cX10_product 28 = .ok (.imul, 1) := by decide +kernel
theorem dX10_product_29 : decode cX10_product 29 = .ok (.lshl, 1) := by decide +kernel
theorem dX10_product_30 : decode cX10_product 30 = .ok (.lor, 1) := by decide +kernel
theorem dX10_product_31 : decode cX10_product 31 = .ok (.lstore_n 2, 1) := by decide +kernel
theorem dX10_product_32 : decode cX10_product 32 = .ok (.iinc 4 1, 3) := by decide +kernel
theorem dX10_product_35 : decode cX10_product 35 = .ok (.goto (-30), 3) := by decide +kernel
theorem dX10_product_38 : decode cX10_product 38 = .ok (.lload_n 2, 1) := by decide +kernel
theorem dX10_product_39 : decode cX10_product 39 = .ok (.lreturn, 1) := by decide +kernel
theorem dX10_storeFresh_0 : decode cX10_storeFresh 0 = .ok (.iload_n 1, 1) := by decide +kernel
theorem dX10_storeFresh_1 : decode cX10_storeFresh 1 = .ok (.invokestatic 125, 3) := by decide +kernel
theorem dX10_storeFresh_4 : decode cX10_storeFresh 4 = .ok (.ifCond .eq 30, 3) := by decide +kernel
theorem dX10_storeFresh_7 : decode cX10_storeFresh 7 = .ok (.aload_n 0, 1) := by decide +kernel
theorem dX10_storeFresh_8 : decode cX10_storeFresh 8 = .ok (.getfield 23, 3) := by decide +kernel
theorem dX10_storeFresh_11 : decode cX10_storeFresh 11 = .ok (.iload_n 1, 1) := by decide +kernel
theorem dX10_storeFresh_12 : decode cX10_storeFresh 12 = .ok (.aload_n 0, 1) := by decide +kernel
theorem dX10_storeFresh_13 : decode cX10_storeFresh 13 = .ok (.getfield 13, 3) := by decide +kernel
theorem dX10_storeFresh_16 : decode cX10_storeFresh 16 = .ok (.iload_n 1, 1) := by decide +kernel
theorem dX10_storeFresh_17 : decode cX10_storeFresh 17 = .ok (.aaload, 1) := by decide +kernel
theorem dX10_storeFresh_18 : decode cX10_storeFresh 18 = .ok (.invokevirtual 106, 3) := by decide +kernel
theorem dX10_storeFresh_21 : decode cX10_storeFresh 21 = .ok (.aload_n 0, 1) := by decide +kernel
theorem dX10_storeFresh_22 : decode cX10_storeFresh 22 = .ok (.getfield 13, 3) := by decide +kernel
theorem dX10_storeFresh_25 : decode cX10_storeFresh 25 = .ok (.iload_n 1, 1) := by decide +kernel
theorem dX10_storeFresh_26 : decode cX10_storeFresh 26 = .ok (.aaload, 1) := by decide +kernel
theorem dX10_storeFresh_27 : decode cX10_storeFresh 27 = .ok (.aload_n 0, 1) := by decide +kernel
theorem dX10_storeFresh_28 : decode cX10_storeFresh 28 = .ok (.getfield 46, 3) := by decide +kernel
theorem dX10_storeFresh_31 : decode cX10_storeFresh 31 = .ok (.invokevirtual 234, 3) := by decide +kernel
theorem dX10_storeFresh_34 : decode cX10_storeFresh 34 = .ok (.return_, 1) := by decide +kernel
theorem dX10_storeWide_0 : decode cX10_storeWide 0 = .ok (.aload_n 0, 1) := by decide +kernel
theorem dX10_storeWide_1 : decode cX10_storeWide 1 = .ok (.getfield 90, 3) := by decide +kernel
theorem dX10_storeWide_4 : decode cX10_storeWide 4 = .ok (.aload_n 0, 1) := by decide +kernel
theorem dX10_storeWide_5 : decode cX10_storeWide 5 = .ok (.getfield 46, 3) := by decide +kernel
theorem dX10_storeWide_8 : decode cX10_storeWide 8 = .ok (.invokevirtual 320, 3) := by decide +kernel
theorem dX10_storeWide_11 : decode cX10_storeWide 11 = .ok (.istore_n 2, 1) := by decide +kernel
theorem dX10_storeWide_12 : decode cX10_storeWide 12 = .ok (.iload_n 2, 1) := by decide +kernel
theorem dX10_storeWide_13 : decode cX10_storeWide 13 = .ok (.bipush 8, 2) := by decide +kernel
theorem dX10_storeWide_15 : decode cX10_storeWide 15 = .ok (.if_icmp .le 6, 3) := by decide +kernel
theorem dX10_storeWide_18 : decode cX10_storeWide 18 = .ok (.bipush (-3), 2) := by decide +kernel
theorem dX10_storeWide_20 : decode cX10_storeWide 20 = .ok (.ireturn, 1) := by decide +kernel
theorem dX10_storeWide_21 : decode cX10_storeWide 21 = .ok (.aload_n 0, 1) := by decide +kernel
theorem dX10_storeWide_22 : decode cX10_storeWide 22 = .ok (.iload_n 1, 1) := by decide +kernel
theorem dX10_storeWide_23 : decode cX10_storeWide 23 = .ok (.invokevirtual 154, 3) := by decide +kernel
theorem dX10_storeWide_26 : decode cX10_storeWide 26 = .ok (.iload_n 2, 1) := by decide +kernel
theorem dX10_storeWide_27 : decode cX10_storeWide 27 = .ok (.ireturn, 1) := by decide +kernel
theorem dX10_countAllEdges_0 : decode cX10_countAllEdges 0 = .ok (.iconst 0, 1) := by decide +kernel
theorem dX10_countAllEdges_1 : decode cX10_countAllEdges 1 = .ok (.istore_n 1, 1) := by decide +kernel
theorem dX10_countAllEdges_2 : decode cX10_countAllEdges 2 = .ok (.iconst 0, 1) := by decide +kernel
theorem dX10_countAllEdges_3 : decode cX10_countAllEdges 3 = .ok (.istore_n 2, 1) := by decide +kernel
theorem dX10_countAllEdges_4 : decode cX10_countAllEdges 4 = .ok (.iload_n 2, 1) := by decide +kernel
theorem dX10_countAllEdges_5 : decode cX10_countAllEdges 5 = .ok (.bipush 6, 2) := by decide +kernel
theorem dX10_countAllEdges_7 : decode cX10_countAllEdges 7 = .ok (.if_icmp .ge 21, 3) := by decide +kernel
theorem dX10_countAllEdges_10 : decode cX10_countAllEdges 10 = .ok (.iload_n 1, 1) := by decide +kernel
theorem dX10_countAllEdges_11 : decode cX10_countAllEdges 11 = .ok (.aload_n 0, 1) := by decide +kernel
theorem dX10_countAllEdges_12 : decode cX10_countAllEdges 12 = .ok (.getfield 13, 3) := by decide +kernel
theorem dX10_countAllEdges_15 : decode cX10_countAllEdges 15 = .ok (.iload_n 2, 1) := by decide +kernel
theorem dX10_countAllEdges_16 : decode cX10_countAllEdges 16 = .ok (.aaload, 1) := by decide +kernel
theorem dX10_countAllEdges_17 : decode cX10_countAllEdges 17 = .ok (.invokevirtual 114, 3) := by decide +kernel
theorem dX10_countAllEdges_20 : decode cX10_countAllEdges 20 = .ok (.iadd, 1) := by decide +kernel
theorem dX10_countAllEdges_21 : decode cX10_countAllEdges 21 = .ok (.istore_n 1, 1) := by decide +kernel
theorem dX10_countAllEdges_22 : decode cX10_countAllEdges 22 = .ok (.iinc 2 1, 3) := by decide +kernel
theorem dX10_countAllEdges_25 : decode cX10_countAllEdges 25 = .ok (.goto (-21), 3) := by decide +kernel
theorem dX10_countAllEdges_28 : decode cX10_countAllEdges 28 = .ok (.iload_n 1, 1) := by decide +kernel
theorem dX10_countAllEdges_29 : decode cX10_countAllEdges 29 = .ok (.ireturn, 1) := by decide +kernel
theorem dX10_loadSubsets_0 : decode cX10_loadSubsets 0 = .ok (.aload_n 0, 1) := by decide +kernel
theorem dX10_loadSubsets_1 : decode cX10_loadSubsets 1 = .ok (.getfield 50, 3) := by decide +kernel
theorem dX10_loadSubsets_4 : decode cX10_loadSubsets 4 = .ok (.aload_n 1, 1) := by decide +kernel
theorem dX10_loadSubsets_5 : decode cX10_loadSubsets 5 = .ok (.invokevirtual 165, 3) := by decide +kernel
theorem dX10_loadSubsets_8 : decode cX10_loadSubsets 8 = .ok (.aload_n 0, 1) := by decide +kernel
theorem dX10_loadSubsets_9 : decode cX10_loadSubsets 9 = .ok (.getfield 59, 3) := by decide +kernel
theorem dX10_loadSubsets_12 : decode cX10_loadSubsets 12 = .ok (.aload_n 0, 1) := by decide +kernel
theorem dX10_loadSubsets_13 : decode cX10_loadSubsets 13 = .ok (.getfield 50, 3) := by decide +kernel
theorem dX10_loadSubsets_16 : decode cX10_loadSubsets 16 = .ok (.invokevirtual 244, 3) := by decide +kernel
theorem dX10_loadSubsets_19 : decode cX10_loadSubsets 19 = .ok (.return_, 1) := by decide +kernel
theorem dX10_countWords_0 : decode cX10_countWords 0 = .ok (.aload_n 0, 1) := by decide +kernel
theorem dX10_countWords_1 : decode cX10_countWords 1 = .ok (.aload_n 1, 1) := by decide +kernel
theorem dX10_countWords_2 : decode cX10_countWords 2 = .ok (.invokevirtual 201, 3) := by decide +kernel
theorem dX10_countWords_5 : decode cX10_countWords 5 = .ok (.aload_n 0, 1) := by decide +kernel
theorem dX10_countWords_6 : decode cX10_countWords 6 = .ok (.getfield 69, 3) := by decide +kernel
theorem dX10_countWords_9 : decode cX10_countWords 9 = .ok (.aload_n 0, 1) := by decide +kernel
theorem dX10_countWords_10 : decode cX10_countWords 10 = .ok (.getfield 59, 3) := by decide +kernel
theorem dX10_countWords_13 : decode cX10_countWords 13 = .ok (.iload_n 2, 1) := by decide +kernel
theorem dX10_countWords_14 : decode cX10_countWords 14 = .ok (.invokevirtual 323, 3) := by decide +kernel
theorem dX10_countWords_17 : decode cX10_countWords 17 = .ok (.return_, 1) := by decide +kernel
theorem dX10_buildCover_0 : decode cX10_buildCover 0 = .ok (.aload_n 0, 1) := by decide +kernel
theorem dX10_buildCover_1 : decode cX10_buildCover 1 = .ok (.getfield 50, 3) := by decide +kernel
theorem dX10_buildCover_4 : decode cX10_buildCover 4 = .ok (.aload_n 1, 1) := by decide +kernel
theorem dX10_buildCover_5 : decode cX10_buildCover 5 = .ok (.invokevirtual 165, 3) := by decide +kernel
theorem dX10_buildCover_8 : decode cX10_buildCover 8 = .ok (.aload_n 0, 1) := by decide +kernel
theorem dX10_buildCover_9 : decode cX10_buildCover 9 = .ok (.getfield 50, 3) := by decide +kernel
theorem dX10_buildCover_12 : decode cX10_buildCover 12 = .ok (.invokevirtual 169, 3) := by decide +kernel
theorem dX10_buildCover_15 : decode cX10_buildCover 15 = .ok (.ifCond .ne 6, 3) := by decide +kernel
theorem dX10_buildCover_18 : decode cX10_buildCover 18 = .ok (.bipush (-4), 2) := by decide +kernel
theorem dX10_buildCover_20 : decode cX10_buildCover 20 = .ok (.ireturn, 1) := by decide +kernel
theorem dX10_buildCover_21 : decode cX10_buildCover 21 = .ok (.aload_n 0, 1) := by decide +kernel
theorem dX10_buildCover_22 : decode cX10_buildCover 22 = .ok (.getfield 59, 3) := by decide +kernel
theorem dX10_buildCover_25 : decode cX10_buildCover 25 = .ok (.aload_n 0, 1) := by decide +kernel
theorem dX10_buildCover_26 : decode cX10_buildCover 26 = .ok (.getfield 50, 3) := by decide +kernel
theorem dX10_buildCover_29 : decode cX10_buildCover 29 = .ok (.invokevirtual 244, 3) := by decide +kernel
theorem dX10_buildCover_32 : decode cX10_buildCover 32 = .ok (.aload_n 0, 1) := by decide +kernel
theorem dX10_buildCover_33 : decode cX10_buildCover 33 = .ok (.getfield 83, 3) := by decide +kernel
theorem dX10_buildCover_36 : decode cX10_buildCover 36 = .ok (.aload_n 0, 1) := by decide +kernel
theorem dX10_buildCover_37 : decode cX10_buildCover 37 = .ok (.getfield 59, 3) := by decide +kernel
theorem dX10_buildCover_40 : decode cX10_buildCover 40 = .ok (.invokevirtual 327, 3) := by decide +kernel
theorem dX10_buildCover_43 : decode cX10_buildCover 43 = .ok (.ifCond .eq 13, 3) := by decide +kernel
theorem dX10_buildCover_46 : decode cX10_buildCover 46 = .ok (.aload_n 0, 1) := by decide +kernel
theorem dX10_buildCover_47 : decode cX10_buildCover 47 = .ok (.getfield 83, 3) := by decide +kernel
theorem dX10_buildCover_50 : decode cX10_buildCover 50 = .ok (.invokevirtual 330, 3) := by decide +kernel
theorem dX10_buildCover_53 : decode cX10_buildCover 53 = .ok (.goto 5, 3) := by decide +kernel
theorem dX10_buildCover_56 : decode cX10_buildCover 56 = .ok (.bipush (-5), 2) := by decide +kernel
theorem dX10_buildCover_58 : decode cX10_buildCover 58 = .ok (.ireturn, 1) := by decide +kernel
theorem dX10_readGraph_0 : decode cX10_readGraph 0 = .ok (.aload_n 0, 1) := by decide +kernel
theorem dX10_readGraph_1 : decode cX10_readGraph 1 = .ok (.getfield 46, 3) := by decide +kernel
theorem dX10_readGraph_4 : decode cX10_readGraph 4 = .ok (.invokevirtual 157, 3) := by decide +kernel
theorem dX10_readGraph_7 : decode cX10_readGraph 7 = .ok (.aload_n 0, 1) := by decide +kernel
theorem dX10_readGraph_8 : decode cX10_readGraph 8 = .ok (.getfield 32, 3) := by decide +kernel
theorem dX10_readGraph_11 : decode cX10_readGraph 11 = .ok (.invokevirtual 145, 3) := by decide +kernel
theorem dX10_readGraph_14 : decode cX10_readGraph 14 = .ok (.istore_n 1, 1) := by decide +kernel
theorem dX10_readGraph_15 : decode cX10_readGraph 15 = .ok (.iconst 0, 1) := by decide +kernel
theorem dX10_readGraph_16 : decode cX10_readGraph 16 = .ok (.istore_n 2, 1) := by decide +kernel
theorem dX10_readGraph_17 : decode cX10_readGraph 17 = .ok (.iconst 0, 1) := by decide +kernel
theorem dX10_readGraph_18 : decode cX10_readGraph 18 = .ok (.istore_n 3, 1) := by decide +kernel
theorem dX10_readGraph_19 : decode cX10_readGraph 19 = .ok (.iconst 0, 1) := by decide +kernel
theorem dX10_readGraph_20 : decode cX10_readGraph 20 = .ok (.istore 4, 2) := by decide +kernel
theorem dX10_readGraph_22 : decode cX10_readGraph 22 = .ok (.iload 4, 2) := by decide +kernel
theorem dX10_readGraph_24 : decode cX10_readGraph 24 = .ok (.iload_n 1, 1) := by decide +kernel
theorem dX10_readGraph_25 : decode cX10_readGraph 25 = .ok (.if_icmp .ge 100, 3) := by decide +kernel
theorem dX10_readGraph_28 : decode cX10_readGraph 28 = .ok (.aload_n 0, 1) := by decide +kernel
theorem dX10_readGraph_29 : decode cX10_readGraph 29 = .ok (.getfield 32, 3) := by decide +kernel
theorem dX10_readGraph_32 : decode cX10_readGraph 32 = .ok (.iload 4, 2) := by decide +kernel
theorem dX10_readGraph_34 : decode cX10_readGraph 34 = .ok (.invokevirtual 274, 3) := by decide +kernel
theorem dX10_readGraph_37 : decode cX10_readGraph 37 = .ok (.istore 5, 2) := by decide +kernel
theorem dX10_readGraph_39 : decode cX10_readGraph 39 = .ok (.iload 4, 2) := by decide +kernel
theorem dX10_readGraph_41 : decode cX10_readGraph 41 = .ok (.iload 5, 2) := by decide +kernel
theorem dX10_readGraph_43 : decode cX10_readGraph 43 = .ok (.invokestatic 333, 3) := by decide +kernel
theorem dX10_readGraph_46 : decode cX10_readGraph 46 = .ok (.ifCond .ne 6, 3) := by decide +kernel
theorem dX10_readGraph_49 : decode cX10_readGraph 49 = .ok (.iload 4, 2) := by decide +kernel
theorem dX10_readGraph_51 : decode cX10_readGraph 51 = .ok (.ireturn, 1) := by decide +kernel
theorem dX10_readGraph_52 : decode cX10_readGraph 52 = .ok (.iload 4, 2) := by decide +kernel
theorem dX10_readGraph_54 : decode cX10_readGraph 54 = .ok (.iconst 4, 1) := by decide +kernel
theorem dX10_readGraph_55 : decode cX10_readGraph 55 = .ok (.irem, 1) := by decide +kernel
theorem dX10_readGraph_56 : decode cX10_readGraph 56 = .ok (.tableswitch 63 0 2 #[28, 37, 46], 28) := by decide +kernel
theorem dX10_readGraph_84 : decode cX10_readGraph 84 = .ok (.iload 5, 2) := by decide +kernel
theorem dX10_readGraph_86 : decode cX10_readGraph 86 = .ok (.bipush 48, 2) := by decide +kernel
theorem dX10_readGraph_88 : decode cX10_readGraph 88 = .ok (.isub, 1) := by decide +kernel
theorem dX10_readGraph_89 : decode cX10_readGraph 89 = .ok (.istore_n 2, 1) := by decide +kernel
theorem dX10_readGraph_90 : decode cX10_readGraph 90 = .ok (.goto 29, 3) := by decide +kernel
theorem dX10_readGraph_93 : decode cX10_readGraph 93 = .ok (.iload 5, 2) := by decide +kernel
theorem dX10_readGraph_95 : decode cX10_readGraph 95 = .ok (.bipush 97, 2) := by decide +kernel
theorem dX10_readGraph_97 : decode cX10_readGraph 97 = .ok (.isub, 1) := by decide +kernel
theorem dX10_readGraph_98 : decode cX10_readGraph 98 = .ok (.istore_n 3, 1) := by decide +kernel
theorem dX10_readGraph_99 : decode cX10_readGraph 99 = .ok (.goto 20, 3) := by decide +kernel
theorem dX10_readGraph_102 : decode cX10_readGraph 102 = .ok (.aload_n 0, 1) := by decide +kernel
theorem dX10_readGraph_103 : decode cX10_readGraph 103 = .ok (.getfield 46, 3) := by decide +kernel
theorem dX10_readGraph_106 : decode cX10_readGraph 106 = .ok (.iload_n 2, 1) := by decide +kernel
theorem dX10_readGraph_107 : decode cX10_readGraph 107 = .ok (.iload_n 3, 1) := by decide +kernel
theorem dX10_readGraph_108 : decode cX10_readGraph 108 = .ok (.iload 5, 2) := by decide +kernel
theorem dX10_readGraph_110 : decode cX10_readGraph 110 = .ok (.bipush 48, 2) := by decide +kernel
theorem dX10_readGraph_112 : decode cX10_readGraph 112 = .ok (.isub, 1) := by decide +kernel
theorem dX10_readGraph_113 : decode cX10_readGraph 113 = .ok (.invokevirtual 110, 3) := by decide +kernel
theorem dX10_readGraph_116 : decode cX10_readGraph 116 = .ok (.goto 3, 3) := by decide +kernel
theorem dX10_readGraph_119 : decode cX10_readGraph 119 = .ok (.iinc 4 1, 3) := by decide +kernel
theorem dX10_readGraph_122 : decode cX10_readGraph 122 = .ok (.goto (-100), 3) := by decide +kernel
theorem dX10_readGraph_125 : decode cX10_readGraph 125 = .ok (.iload_n 1, 1) := by decide +kernel
theorem dX10_readGraph_126 : decode cX10_readGraph 126 = .ok (.iconst 4, 1) := by decide +kernel
theorem dX10_readGraph_127 : decode cX10_readGraph 127 = .ok (.irem, 1) := by decide +kernel
theorem dX10_readGraph_128 : decode cX10_readGraph 128 = .ok (.iconst 3, 1) := by decide +kernel
theorem dX10_readGraph_129 : decode cX10_readGraph 129 = .ok (.if_icmp .ne 7, 3) := by decide +kernel
theorem dX10_readGraph_132 : decode cX10_readGraph 132 = .ok (.iconst (-1), 1) := by decide +kernel
theorem dX10_readGraph_133 : decode cX10_readGraph 133 = .ok (.goto 4, 3) := by decide +kernel
theorem dX10_readGraph_136 : decode cX10_readGraph 136 = .ok (.iload_n 1, 1) := by decide +kernel
theorem dX10_readGraph_137 : decode cX10_readGraph 137 = .ok (.ireturn, 1) := by decide +kernel
theorem dX10_fitsInGraph_0 : decode cX10_fitsInGraph 0 = .ok (.iload_n 0, 1) := by decide +kernel
theorem dX10_fitsInGraph_1 : decode cX10_fitsInGraph 1 = .ok (.iconst 4, 1) := by decide +kernel
theorem dX10_fitsInGraph_2 : decode cX10_fitsInGraph 2 = .ok (.irem, 1) := by decide +kernel
theorem dX10_fitsInGraph_3 : decode cX10_fitsInGraph 3 = .ok (.lookupswitch 45 #[(1, 25), (3, 33)], 25) := by decide +kernel
theorem dX10_fitsInGraph_28 : decode cX10_fitsInGraph 28 = .ok (.iload_n 1, 1) := by decide +kernel
theorem dX10_fitsInGraph_29 : decode cX10_fitsInGraph 29 = .ok (.bipush 97, 2) := by decide +kernel
theorem dX10_fitsInGraph_31 : decode cX10_fitsInGraph 31 = .ok (.isub, 1) := by decide +kernel
theorem dX10_fitsInGraph_32 : decode cX10_fitsInGraph 32 = .ok (.invokestatic 132, 3) := by decide +kernel
theorem dX10_fitsInGraph_35 : decode cX10_fitsInGraph 35 = .ok (.ireturn, 1) := by decide +kernel
theorem dX10_fitsInGraph_36 : decode cX10_fitsInGraph 36 = .ok (.iload_n 1, 1) := by decide +kernel
theorem dX10_fitsInGraph_37 : decode cX10_fitsInGraph 37 = .ok (.bipush 59, 2) := by decide +kernel
theorem dX10_fitsInGraph_39 : decode cX10_fitsInGraph 39 = .ok (.if_icmp .ne 7, 3) := by decide +kernel
theorem dX10_fitsInGraph_42 : decode cX10_fitsInGraph 42 = .ok (.iconst 1, 1) := by decide +kernel
theorem dX10_fitsInGraph_43 : decode cX10_fitsInGraph 43 = .ok (.goto 4, 3) := by decide +kernel
theorem dX10_fitsInGraph_46 : decode cX10_fitsInGraph 46 = .ok (.iconst 0, 1) := by decide +kernel
theorem dX10_fitsInGraph_47 : decode cX10_fitsInGraph 47 = .ok (.ireturn, 1) := by decide +kernel
theorem dX10_fitsInGraph_48 : decode cX10_fitsInGraph 48 = .ok (.iload_n 1, 1) := by decide +kernel
theorem dX10_fitsInGraph_49 : decode cX10_fitsInGraph 49 = .ok (.bipush 48, 2) := by decide +kernel
theorem dX10_fitsInGraph_51 : decode cX10_fitsInGraph 51 = .ok (.isub, 1) := by decide +kernel
theorem dX10_fitsInGraph_52 : decode cX10_fitsInGraph 52 = .ok (.invokestatic 129, 3) := by decide +kernel
theorem dX10_fitsInGraph_55 : decode cX10_fitsInGraph 55 = .ok (.ireturn, 1) := by decide +kernel
theorem dX10_wordFault_0 : decode cX10_wordFault 0 = .ok (.iconst 0, 1) := by decide +kernel
theorem dX10_wordFault_1 : decode cX10_wordFault 1 = .ok (.istore_n 1, 1) := by decide +kernel
theorem dX10_wordFault_2 : decode cX10_wordFault 2 = .ok (.iload_n 1, 1) := by decide +kernel
theorem dX10_wordFault_3 : decode cX10_wordFault 3 = .ok (.aload_n 0, 1) := by decide +kernel
theorem dX10_wordFault_4 : decode cX10_wordFault 4 = .ok (.getfield 32, 3) := by decide +kernel
theorem dX10_wordFault_7 : decode cX10_wordFault 7 = .ok (.invokevirtual 145, 3) := by decide +kernel
theorem dX10_wordFault_10 : decode cX10_wordFault 10 = .ok (.if_icmp .ge 28, 3) := by decide +kernel
theorem dX10_wordFault_13 : decode cX10_wordFault 13 = .ok (.aload_n 0, 1) := by decide +kernel
theorem dX10_wordFault_14 : decode cX10_wordFault 14 = .ok (.getfield 32, 3) := by decide +kernel
theorem dX10_wordFault_17 : decode cX10_wordFault 17 = .ok (.iload_n 1, 1) := by decide +kernel
theorem dX10_wordFault_18 : decode cX10_wordFault 18 = .ok (.invokevirtual 274, 3) := by decide +kernel
theorem dX10_wordFault_21 : decode cX10_wordFault 21 = .ok (.bipush 97, 2) := by decide +kernel
theorem dX10_wordFault_23 : decode cX10_wordFault 23 = .ok (.isub, 1) := by decide +kernel
theorem dX10_wordFault_24 : decode cX10_wordFault 24 = .ok (.invokestatic 132, 3) := by decide +kernel
theorem dX10_wordFault_27 : decode cX10_wordFault 27 = .ok (.ifCond .ne 5, 3) := by decide +kernel
theorem dX10_wordFault_30 : decode cX10_wordFault 30 = .ok (.iload_n 1, 1) := by decide +kernel
theorem dX10_wordFault_31 : decode cX10_wordFault 31 = .ok (.ireturn, 1) := by decide +kernel
theorem dX10_wordFault_32 : decode cX10_wordFault 32 = .ok (.iinc 1 1, 3) := by decide +kernel
theorem dX10_wordFault_35 : decode cX10_wordFault 35 = .ok (.goto (-33), 3) := by decide +kernel
theorem dX10_wordFault_38 : decode cX10_wordFault 38 = .ok (.iconst (-1), 1) := by decide +kernel
theorem dX10_wordFault_39 : decode cX10_wordFault 39 = .ok (.ireturn, 1) := by decide +kernel
theorem dX10_endsOfInput_0 : decode cX10_endsOfInput 0 = .ok (.aload_n 0, 1) := by decide +kernel
theorem dX10_endsOfInput_1 : decode cX10_endsOfInput 1 = .ok (.getfield 50, 3) := by decide +kernel
theorem dX10_endsOfInput_4 : decode cX10_endsOfInput 4 = .ok (.aload_n 1, 1) := by decide +kernel
theorem dX10_endsOfInput_5 : decode cX10_endsOfInput 5 = .ok (.invokevirtual 165, 3) := by decide +kernel
theorem dX10_endsOfInput_8 : decode cX10_endsOfInput 8 = .ok (.aload_n 0, 1) := by decide +kernel
theorem dX10_endsOfInput_9 : decode cX10_endsOfInput 9 = .ok (.getfield 50, 3) := by decide +kernel
theorem dX10_endsOfInput_12 : decode cX10_endsOfInput 12 = .ok (.invokevirtual 162, 3) := by decide +kernel
theorem dX10_endsOfInput_15 : decode cX10_endsOfInput 15 = .ok (.istore_n 2, 1) := by decide +kernel
theorem dX10_endsOfInput_16 : decode cX10_endsOfInput 16 = .ok (.iconst 0, 1) := by decide +kernel
theorem dX10_endsOfInput_17 : decode cX10_endsOfInput 17 = .ok (.istore_n 3, 1) := by decide +kernel
theorem dX10_endsOfInput_18 : decode cX10_endsOfInput 18 = .ok (.iload_n 3, 1) := by decide +kernel
theorem dX10_endsOfInput_19 : decode cX10_endsOfInput 19 = .ok (.aload_n 0, 1) := by decide +kernel
theorem dX10_endsOfInput_20 : decode cX10_endsOfInput 20 = .ok (.getfield 32, 3) := by decide +kernel
theorem dX10_endsOfInput_23 : decode cX10_endsOfInput 23 = .ok (.invokevirtual 145, 3) := by decide +kernel
theorem dX10_endsOfInput_26 : decode cX10_endsOfInput 26 = .ok (.if_icmp .ge 29, 3) := by decide +kernel
theorem dX10_endsOfInput_29 : decode cX10_endsOfInput 29 = .ok (.aload_n 0, 1) := by decide +kernel
theorem dX10_endsOfInput_30 : decode cX10_endsOfInput 30 = .ok (.getfield 50, 3) := by decide +kernel
theorem dX10_endsOfInput_33 : decode cX10_endsOfInput 33 = .ok (.iload_n 2, 1) := by decide +kernel
theorem dX10_endsOfInput_34 : decode cX10_endsOfInput 34 = .ok (.aload_n 0, 1) := by decide +kernel
theorem dX10_endsOfInput_35 : decode cX10_endsOfInput 35 = .ok (.getfield 32, 3) := by decide +kernel
theorem dX10_endsOfInput_38 : decode cX10_endsOfInput 38 = .ok (.iload_n 3, 1) := by decide +kernel
theorem dX10_endsOfInput_39 : decode cX10_endsOfInput 39 = .ok (.invokevirtual 274, 3) := by decide +kernel
theorem dX10_endsOfInput_42 : decode cX10_endsOfInput 42 = .ok (.bipush 97, 2) := by decide +kernel
theorem dX10_endsOfInput_44 : decode cX10_endsOfInput 44 = .ok (.isub, 1) := by decide +kernel
theorem dX10_endsOfInput_45 : decode cX10_endsOfInput 45 = .ok (.invokevirtual 337, 3) := by decide +kernel
theorem dX10_endsOfInput_48 : decode cX10_endsOfInput 48 = .ok (.istore_n 2, 1) := by decide +kernel
theorem dX10_endsOfInput_49 : decode cX10_endsOfInput 49 = .ok (.iinc 3 1, 3) := by decide +kernel
theorem dX10_endsOfInput_52 : decode cX10_endsOfInput 52 = .ok (.goto (-34), 3) := by decide +kernel
theorem dX10_endsOfInput_55 : decode cX10_endsOfInput 55 = .ok (.iload_n 2, 1) := by decide +kernel
theorem dX10_endsOfInput_56 : decode cX10_endsOfInput 56 = .ok (.ireturn, 1) := by decide +kernel
theorem dX10_trackInput_0 : decode cX10_trackInput 0 = .ok (.aload_n 0, 1) := by decide +kernel
theorem dX10_trackInput_1 : decode cX10_trackInput 1 = .ok (.getfield 90, 3) := by decide +kernel
theorem dX10_trackInput_4 : decode cX10_trackInput 4 = .ok (.invokevirtual 254, 3) := by decide +kernel
theorem dX10_trackInput_7 : decode cX10_trackInput 7 = .ok (.aload_n 0, 1) := by decide +kernel
theorem dX10_trackInput_8 : decode cX10_trackInput 8 = .ok (.getfield 32, 3) := by decide +kernel
theorem dX10_trackInput_11 : decode cX10_trackInput 11 = .ok (.invokevirtual 145, 3) := by decide +kernel
theorem dX10_trackInput_14 : decode cX10_trackInput 14 = .ok (.istore_n 2, 1) := by decide +kernel
theorem dX10_trackInput_15 : decode cX10_trackInput 15 = .ok (.iconst 0, 1) := by decide +kernel
theorem dX10_trackInput_16 : decode cX10_trackInput 16 = .ok (.istore_n 3, 1) := by decide +kernel
theorem dX10_trackInput_17 : decode cX10_trackInput 17 = .ok (.iload_n 3, 1) := by decide +kernel
theorem dX10_trackInput_18 : decode cX10_trackInput 18 = .ok (.iload_n 2, 1) := by decide +kernel
theorem dX10_trackInput_19 : decode cX10_trackInput 19 = .ok (.if_icmp .ge 92, 3) := by decide +kernel
theorem dX10_trackInput_22 : decode cX10_trackInput 22 = .ok (.iload_n 3, 1) := by decide +kernel
theorem dX10_trackInput_23 : decode cX10_trackInput 23 = .ok (.bipush 6, 2) := by decide +kernel
theorem dX10_trackInput_25 : decode cX10_trackInput 25 = .ok (.if_icmp .ge 86, 3) := by decide +kernel
theorem dX10_trackInput_28 : decode cX10_trackInput 28 = .ok (.iconst 0, 1) := by decide +kernel
theorem dX10_trackInput_29 : decode cX10_trackInput 29 = .ok (.istore 4, 2) := by decide +kernel
theorem dX10_trackInput_31 : decode cX10_trackInput 31 = .ok (.iload 4, 2) := by decide +kernel
theorem dX10_trackInput_33 : decode cX10_trackInput 33 = .ok (.iconst 4, 1) := by decide +kernel
theorem dX10_trackInput_34 : decode cX10_trackInput 34 = .ok (.if_icmp .ge 71, 3) := by decide +kernel
theorem dX10_trackInput_37 : decode cX10_trackInput 37 = .ok (.aload_n 0, 1) := by decide +kernel
theorem dX10_trackInput_38 : decode cX10_trackInput 38 = .ok (.iload_n 3, 1) := by decide +kernel
theorem dX10_trackInput_39 : decode cX10_trackInput 39 = .ok (.iload 4, 2) := by decide +kernel
theorem dX10_trackInput_41 : decode cX10_trackInput 41 = .ok (.invokevirtual 340, 3) := by decide +kernel
theorem dX10_trackInput_44 : decode cX10_trackInput 44 = .ok (.istore 5, 2) := by decide +kernel
theorem dX10_trackInput_46 : decode cX10_trackInput 46 = .ok (.iload 5, 2) := by decide +kernel
theorem dX10_trackInput_48 : decode cX10_trackInput 48 = .ok (.iload_n 2, 1) := by decide +kernel
theorem dX10_trackInput_49 : decode cX10_trackInput 49 = .ok (.if_icmp .ge 50, 3) := by decide +kernel
theorem dX10_trackInput_52 : decode cX10_trackInput 52 = .ok (.iconst 0, 1) := by decide +kernel
theorem dX10_trackInput_53 : decode cX10_trackInput 53 = .ok (.istore 6, 2) := by decide +kernel
theorem dX10_trackInput_55 : decode cX10_trackInput 55 = .ok (.iload 6, 2) := by decide +kernel
theorem dX10_trackInput_57 : decode cX10_trackInput 57 = .ok (.bipush 8, 2) := by decide +kernel
theorem dX10_trackInput_59 : decode cX10_trackInput 59 = .ok (.if_icmp .ge 40, 3) := by decide +kernel
theorem dX10_trackInput_62 : decode cX10_trackInput 62 = .ok (.aload_n 0, 1) := by decide +kernel
theorem dX10_trackInput_63 : decode cX10_trackInput 63 = .ok (.getfield 90, 3) := by decide +kernel
theorem dX10_trackInput_66 : decode cX10_trackInput 66 = .ok (.bipush 8, 2) := by decide +kernel
theorem dX10_trackInput_68 : decode cX10_trackInput 68 = .ok (.iload 6, 2) := by decide +kernel
theorem dX10_trackInput_70 : decode cX10_trackInput 70 = .ok (.imul, 1) := by decide +kernel
theorem dX10_trackInput_71 : decode cX10_trackInput 71 = .ok (.iload_n 3, 1) := by decide +kernel
theorem dX10_trackInput_72 : decode cX10_trackInput 72 = .ok (.iadd, 1) := by decide +kernel
theorem dX10_trackInput_73 : decode cX10_trackInput 73 = .ok (.iload 4, 2) := by decide +kernel
theorem dX10_trackInput_75 : decode cX10_trackInput 75 = .ok (.aload_n 1, 1) := by decide +kernel
theorem dX10_trackInput_76 : decode cX10_trackInput 76 = .ok (.iload 6, 2) := by decide +kernel
theorem dX10_trackInput_78 : decode cX10_trackInput 78 = .ok (.iload 4, 2) := by decide +kernel
theorem dX10_trackInput_80 : decode cX10_trackInput 80 = .ok (.invokevirtual 135, 3) := by decide +kernel
theorem dX10_trackInput_83 : decode cX10_trackInput 83 = .ok (.iconst 1, 1) := by decide +kernel
theorem dX10_trackInput_84 : decode cX10_trackInput 84 = .ok (.iload 5, 2) := by decide +kernel
theorem dX10_trackInput_86 : decode cX10_trackInput 86 = .ok (.ishl, 1) := by decide +kernel
theorem dX10_trackInput_87 : decode cX10_trackInput 87 = .ok (.invokestatic 262, 3) := by decide +kernel
theorem dX10_trackInput_90 : decode cX10_trackInput 90 = .ok (.invokevirtual 255, 3) := by decide +kernel
theorem dX10_trackInput_93 : decode cX10_trackInput 93 = .ok (.iinc 6 1, 3) := by decide +kernel
theorem dX10_trackInput_96 : decode cX10_trackInput 96 = .ok (.goto (-41), 3) := by decide +kernel
theorem dX10_trackInput_99 : decode cX10_trackInput 99 = .ok (.iinc 4 1, 3) := by decide +kernel
theorem dX10_trackInput_102 : decode cX10_trackInput 102 = .ok (.goto (-71), 3) := by decide +kernel
theorem dX10_trackInput_105 : decode cX10_trackInput 105 = .ok (.iinc 3 1, 3) := by decide +kernel
theorem dX10_trackInput_108 : decode cX10_trackInput 108 = .ok (.goto (-91), 3) := by decide +kernel
theorem dX10_trackInput_111 : decode cX10_trackInput 111 = .ok (.return_, 1) := by decide +kernel
theorem dX10_overlap_0 : decode cX10_overlap 0 = .ok (.iload_n 1, 1) := by decide +kernel
theorem dX10_overlap_1 : decode cX10_overlap 1 = .ok (.iconst 1, 1) := by decide +kernel
theorem dX10_overlap_2 : decode cX10_overlap 2 = .ok (.iadd, 1) := by decide +kernel
theorem dX10_overlap_3 : decode cX10_overlap 3 = .ok (.istore_n 3, 1) := by decide +kernel
theorem dX10_overlap_4 : decode cX10_overlap 4 = .ok (.iload_n 3, 1) := by decide +kernel
theorem dX10_overlap_5 : decode cX10_overlap 5 = .ok (.ifCond .le 39, 3) := by decide +kernel
theorem dX10_overlap_8 : decode cX10_overlap 8 = .ok (.aload_n 0, 1) := by decide +kernel
theorem dX10_overlap_9 : decode cX10_overlap 9 = .ok (.getfield 32, 3) := by decide +kernel
theorem dX10_overlap_12 : decode cX10_overlap 12 = .ok (.iload_n 3, 1) := by decide +kernel
theorem dX10_overlap_13 : decode cX10_overlap 13 = .ok (.iconst 1, 1) := by decide +kernel
theorem dX10_overlap_14 : decode cX10_overlap 14 = .ok (.isub, 1) := by decide +kernel
theorem dX10_overlap_15 : decode cX10_overlap 15 = .ok (.invokevirtual 274, 3) := by decide +kernel
theorem dX10_overlap_18 : decode cX10_overlap 18 = .ok (.bipush 97, 2) := by decide +kernel
theorem dX10_overlap_20 : decode cX10_overlap 20 = .ok (.isub, 1) := by decide +kernel
theorem dX10_overlap_21 : decode cX10_overlap 21 = .ok (.iload_n 2, 1) := by decide +kernel
theorem dX10_overlap_22 : decode cX10_overlap 22 = .ok (.if_icmp .ne 16, 3) := by decide +kernel
theorem dX10_overlap_25 : decode cX10_overlap 25 = .ok (.aload_n 0, 1) := by decide +kernel
theorem dX10_overlap_26 : decode cX10_overlap 26 = .ok (.iload_n 1, 1) := by decide +kernel
theorem dX10_overlap_27 : decode cX10_overlap 27 = .ok (.iload_n 3, 1) := by decide +kernel
theorem dX10_overlap_28 : decode cX10_overlap 28 = .ok (.iconst 1, 1) := by decide +kernel
theorem dX10_overlap_29 : decode cX10_overlap 29 = .ok (.isub, 1) := by decide +kernel
theorem dX10_overlap_30 : decode cX10_overlap 30 = .ok (.invokevirtual 343, 3) := by decide +kernel
theorem dX10_overlap_33 : decode cX10_overlap 33 = .ok (.ifCond .eq 5, 3) := by decide +kernel
theorem dX10_overlap_36 : decode cX10_overlap 36 = .ok (.iload_n 3, 1) := by decide +kernel
theorem dX10_overlap_37 : decode cX10_overlap 37 = .ok (.ireturn, 1) := by decide +kernel
theorem dX10_overlap_38 : decode cX10_overlap 38 = .ok (.iinc 3 (-1), 3) := by decide +kernel
theorem dX10_overlap_41 : decode cX10_overlap 41 = .ok (.goto (-37), 3) := by decide +kernel
theorem dX10_overlap_44 : decode cX10_overlap 44 = .ok (.iconst 0, 1) := by decide +kernel
theorem dX10_overlap_45 : decode cX10_overlap 45 = .ok (.ireturn, 1) := by decide +kernel
theorem dX10_repeatsPrefix_0 : decode cX10_repeatsPrefix 0 = .ok (.iconst 0, 1) := by decide +kernel
theorem dX10_repeatsPrefix_1 : decode cX10_repeatsPrefix 1 = .ok (.istore_n 3, 1) := by decide +kernel
theorem dX10_repeatsPrefix_2 : decode cX10_repeatsPrefix 2 = .ok (.iload_n 3, 1) := by decide +kernel
theorem dX10_repeatsPrefix_3 : decode cX10_repeatsPrefix 3 = .ok (.iload_n 2, 1) := by decide +kernel
theorem dX10_repeatsPrefix_4 : decode cX10_repeatsPrefix 4 = .ok (.if_icmp .ge 34, 3) := by decide +kernel
theorem dX10_repeatsPrefix_7 : decode cX10_repeatsPrefix 7 = .ok (.aload_n 0, 1) := by decide +kernel
theorem dX10_repeatsPrefix_8 : decode cX10_repeatsPrefix 8 = .ok (.getfield 32, 3) := by decide +kernel
theorem dX10_repeatsPrefix_11 : decode cX10_repeatsPrefix 11 = .ok (.iload_n 1, 1) := by decide +kernel
theorem dX10_repeatsPrefix_12 : decode cX10_repeatsPrefix 12 = .ok (.iload_n 2, 1) := by decide +kernel
theorem dX10_repeatsPrefix_13 : decode cX10_repeatsPrefix 13 = .ok (.isub, 1) := by decide +kernel
theorem dX10_repeatsPrefix_14 : decode cX10_repeatsPrefix 14 = .ok (.iload_n 3, 1) := by decide +kernel
theorem dX10_repeatsPrefix_15 : decode cX10_repeatsPrefix 15 = .ok (.iadd, 1) := by decide +kernel
theorem dX10_repeatsPrefix_16 : decode cX10_repeatsPrefix 16 = .ok (.invokevirtual 274, 3) := by decide +kernel
theorem dX10_repeatsPrefix_19 : decode cX10_repeatsPrefix 19 = .ok (.aload_n 0, 1) := by decide +kernel
theorem dX10_repeatsPrefix_20 : decode cX10_repeatsPrefix 20 = .ok (.getfield 32, 3) := by decide +kernel
theorem dX10_repeatsPrefix_23 : decode cX10_repeatsPrefix 23 = .ok (.iload_n 3, 1) := by decide +kernel
theorem dX10_repeatsPrefix_24 : decode cX10_repeatsPrefix 24 = .ok (.invokevirtual 274, 3) := by decide +kernel
theorem dX10_repeatsPrefix_27 : decode cX10_repeatsPrefix 27 = .ok (.if_icmp .eq 5, 3) := by decide +kernel
theorem dX10_repeatsPrefix_30 : decode cX10_repeatsPrefix 30 = .ok (.iconst 0, 1) := by decide +kernel
theorem dX10_repeatsPrefix_31 : decode cX10_repeatsPrefix 31 = .ok (.ireturn, 1) := by decide +kernel
theorem dX10_repeatsPrefix_32 : decode cX10_repeatsPrefix 32 = .ok (.iinc 3 1, 3) := by decide +kernel
theorem dX10_repeatsPrefix_35 : decode cX10_repeatsPrefix 35 = .ok (.goto (-33), 3) := by decide +kernel
theorem dX10_repeatsPrefix_38 : decode cX10_repeatsPrefix 38 = .ok (.iconst 1, 1) := by decide +kernel
theorem dX10_repeatsPrefix_39 : decode cX10_repeatsPrefix 39 = .ok (.ireturn, 1) := by decide +kernel
theorem dX10_writeEdge_0 : decode cX10_writeEdge 0 = .ok (.aload_n 0, 1) := by decide +kernel
theorem dX10_writeEdge_1 : decode cX10_writeEdge 1 = .ok (.getfield 36, 3) := by decide +kernel
theorem dX10_writeEdge_4 : decode cX10_writeEdge 4 = .ok (.invokevirtual 145, 3) := by decide +kernel
theorem dX10_writeEdge_7 : decode cX10_writeEdge 7 = .ok (.ifCond .le 13, 3) := by decide +kernel
theorem dX10_writeEdge_10 : decode cX10_writeEdge 10 = .ok (.aload_n 0, 1) := by decide +kernel
theorem dX10_writeEdge_11 : decode cX10_writeEdge 11 = .ok (.getfield 36, 3) := by decide +kernel
theorem dX10_writeEdge_14 : decode cX10_writeEdge 14 = .ok (.bipush 59, 2) := by decide +kernel
theorem dX10_writeEdge_16 : decode cX10_writeEdge 16 = .ok (.invokevirtual 142, 3) := by decide +kernel
theorem dX10_writeEdge_19 : decode cX10_writeEdge 19 = .ok (.pop, 1) := by decide +kernel
theorem dX10_writeEdge_20 : decode cX10_writeEdge 20 = .ok (.aload_n 0, 1) := by decide +kernel
theorem dX10_writeEdge_21 : decode cX10_writeEdge 21 = .ok (.getfield 36, 3) := by decide +kernel
theorem dX10_writeEdge_24 : decode cX10_writeEdge 24 = .ok (.bipush 48, 2) := by decide +kernel
theorem dX10_writeEdge_26 : decode cX10_writeEdge 26 = .ok (.iload_n 1, 1) := by decide +kernel
theorem dX10_writeEdge_27 : decode cX10_writeEdge 27 = .ok (.iadd, 1) := by decide +kernel
theorem dX10_writeEdge_28 : decode cX10_writeEdge 28 = .ok (.invokevirtual 142, 3) := by decide +kernel
theorem dX10_writeEdge_31 : decode cX10_writeEdge 31 = .ok (.pop, 1) := by decide +kernel
theorem dX10_writeEdge_32 : decode cX10_writeEdge 32 = .ok (.aload_n 0, 1) := by decide +kernel
theorem dX10_writeEdge_33 : decode cX10_writeEdge 33 = .ok (.getfield 36, 3) := by decide +kernel
theorem dX10_writeEdge_36 : decode cX10_writeEdge 36 = .ok (.iload_n 2, 1) := by decide +kernel
theorem dX10_writeEdge_37 : decode cX10_writeEdge 37 = .ok (.invokevirtual 346, 3) := by decide +kernel
theorem dX10_writeEdge_40 : decode cX10_writeEdge 40 = .ok (.aload_n 0, 1) := by decide +kernel
theorem dX10_writeEdge_41 : decode cX10_writeEdge 41 = .ok (.getfield 36, 3) := by decide +kernel
theorem dX10_writeEdge_44 : decode cX10_writeEdge 44 = .ok (.bipush 48, 2) := by decide +kernel
theorem dX10_writeEdge_46 : decode cX10_writeEdge 46 = .ok (.iload_n 3, 1) := by decide +kernel
theorem dX10_writeEdge_47 : decode cX10_writeEdge 47 = .ok (.iadd, 1) := by decide +kernel
theorem dX10_writeEdge_48 : decode cX10_writeEdge 48 = .ok (.invokevirtual 142, 3) := by decide +kernel
theorem dX10_writeEdge_51 : decode cX10_writeEdge 51 = .ok (.pop, 1) := by decide +kernel
theorem dX10_writeEdge_52 : decode cX10_writeEdge 52 = .ok (.return_, 1) := by decide +kernel
theorem dX11_init_0 : decode cX11_init 0 = .ok (.aload_n 0, 1) := by decide +kernel
theorem dX11_init_1 : decode cX11_init 1 = .ok (.invokespecial 3, 3) := by decide +kernel
theorem dX11_init_4 : decode cX11_init 4 = .ok (.aload_n 0, 1) := by decide +kernel
theorem dX11_init_5 : decode cX11_init 5 = .ok (.sipush 192, 3) := by decide +kernel
theorem dX11_init_8 : decode cX11_init 8 = .ok (.newarray .int, 2) := by decide +kernel
theorem dX11_init_10 : decode cX11_init 10 = .ok (.putfield 9, 3) := by decide +kernel
theorem dX11_init_13 : decode cX11_init 13 = .ok (.aload_n 0, 1) := by decide +kernel
theorem dX11_init_14 : decode cX11_init 14 = .ok (.bipush 32, 2) := by decide +kernel
theorem dX11_init_16 : decode cX11_init 16 = .ok (.newarray .int, 2) := by decide +kernel
theorem dX11_init_18 : decode cX11_init 18 = .ok (.putfield 15, 3) := by decide +kernel
theorem dX11_init_21 : decode cX11_init 21 = .ok (.aload_n 0, 1) := by decide +kernel
theorem dX11_init_22 : decode cX11_init 22 = .ok (.sipush 320, 3) := by decide +kernel
theorem dX11_init_25 : decode cX11_init 25 = .ok (.newarray .int, 2) := by decide +kernel
theorem dX11_init_27 : decode cX11_init 27 = .ok (.putfield 18, 3) := by decide +kernel
theorem dX11_init_30 : decode cX11_init 30 = .ok (.aload_n 0, 1) := by decide +kernel
theorem dX11_init_31 : decode cX11_init 31 = .ok (.bipush 10, 2) := by decide +kernel
theorem dX11_init_33 : decode cX11_init 33 = .ok (.newarray .int, 2) := by decide +kernel
theorem dX11_init_35 : decode cX11_init 35 = .ok (.putfield 21, 3) := by decide +kernel
theorem dX11_init_38 : decode cX11_init 38 = .ok (.aload_n 0, 1) := by decide +kernel
theorem dX11_init_39 : decode cX11_init 39 = .ok (.sipush 192, 3) := by decide +kernel
theorem dX11_init_42 : decode cX11_init 42 = .ok (.newarray .int, 2) := by decide +kernel
theorem dX11_init_44 : decode cX11_init 44 = .ok (.putfield 24, 3) := by decide +kernel
theorem dX11_init_47 : decode cX11_init 47 = .ok (.aload_n 0, 1) := by decide +kernel
theorem dX11_init_48 : decode cX11_init 48 = .ok (.bipush 120, 2) := by decide +kernel
theorem dX11_init_50 : decode cX11_init 50 = .ok (.newarray .int, 2) := by decide +kernel
theorem dX11_init_52 : decode cX11_init 52 = .ok (.putfield 27, 3) := by decide +kernel
theorem dX11_init_55 : decode cX11_init 55 = .ok (.aload_n 0, 1) := by decide +kernel
theorem dX11_init_56 : decode cX11_init 56 = .ok (.sipush 1100, 3) := by decide +kernel
theorem dX11_init_59 : decode cX11_init 59 = .ok (.newarray .int, 2) := by decide +kernel
theorem dX11_init_61 : decode cX11_init 61 = .ok (.putfield 30, 3) := by decide +kernel
theorem dX11_init_64 : decode cX11_init 64 = .ok (.aload_n 0, 1) := by decide +kernel
theorem dX11_init_65 : decode cX11_init 65 = .ok (.sipush 1100, 3) := by decide +kernel
theorem dX11_init_68 : decode cX11_init 68 = .ok (.newarray .int, 2) := by decide +kernel
theorem dX11_init_70 : decode cX11_init 70 = .ok (.putfield 33, 3) := by decide +kernel
theorem dX11_init_73 : decode cX11_init 73 = .ok (.aload_n 0, 1) := by decide +kernel
theorem dX11_init_74 : decode cX11_init 74 = .ok (.sipush 1024, 3) := by decide +kernel
theorem dX11_init_77 : decode cX11_init 77 = .ok (.newarray .int, 2) := by decide +kernel
theorem dX11_init_79 : decode cX11_init 79 = .ok (.putfield 36, 3) := by decide +kernel
theorem dX11_init_82 : decode cX11_init 82 = .ok (.aload_n 0, 1) := by decide +kernel
theorem dX11_init_83 : decode cX11_init 83 = .ok (.sipush 7936, 3) := by decide +kernel
theorem dX11_init_86 : decode cX11_init 86 = .ok (.newarray .long, 2) := by decide +kernel
theorem dX11_init_88 : decode cX11_init 88 = .ok (.putfield 39, 3) := by decide +kernel
theorem dX11_init_91 : decode cX11_init 91 = .ok (.aload_n 0, 1) := by decide +kernel
theorem dX11_init_92 : decode cX11_init 92 = .ok (.bipush 64, 2) := by decide +kernel
theorem dX11_init_94 : decode cX11_init 94 = .ok (.newarray .int, 2) := by decide +kernel
theorem dX11_init_96 : decode cX11_init 96 = .ok (.putfield 43, 3) := by decide +kernel
theorem dX11_init_99 : decode cX11_init 99 = .ok (.aload_n 0, 1) := by decide +kernel
theorem dX11_init_100 : decode cX11_init 100 = .ok (.bipush 64, 2) := by decide +kernel
theorem dX11_init_102 : decode cX11_init 102 = .ok (.newarray .long, 2) := by decide +kernel
theorem dX11_init_104 : decode cX11_init 104 = .ok (.putfield 46, 3) := by decide +kernel
theorem dX11_init_107 : decode cX11_init 107 = .ok (.aload_n 0, 1) := by decide +kernel
theorem dX11_init_108 : decode cX11_init 108 = .ok (.bipush 64, 2) := by decide +kernel
theorem dX11_init_110 : decode cX11_init 110 = .ok (.newarray .long, 2) := by decide +kernel
theorem dX11_init_112 : decode cX11_init 112 = .ok (.putfield 49, 3) := by decide +kernel
theorem dX11_init_115 : decode cX11_init 115 = .ok (.aload_n 0, 1) := by decide +kernel
theorem dX11_init_116 : decode cX11_init 116 = .ok (.bipush 64, 2) := by decide +kernel
theorem dX11_init_118 : decode cX11_init 118 = .ok (.newarray .long, 2) := by decide +kernel
theorem dX11_init_120 : decode cX11_init 120 = .ok (.putfield 52, 3) := by decide +kernel
theorem dX11_init_123 : decode cX11_init 123 = .ok (.aload_n 0, 1) := by decide +kernel
theorem dX11_init_124 : decode cX11_init 124 = .ok (.bipush 9, 2) := by decide +kernel
theorem dX11_init_126 : decode cX11_init 126 = .ok (.newarray .long, 2) := by decide +kernel
theorem dX11_init_128 : decode cX11_init 128 = .ok (.putfield 55, 3) := by decide +kernel
theorem dX11_init_131 : decode cX11_init 131 = .ok (.aload_n 0, 1) := by decide +kernel
theorem dX11_init_132 : decode cX11_init 132 = .ok (.sipush 256, 3) := by decide +kernel
theorem dX11_init_135 : decode cX11_init 135 = .ok (.newarray .int, 2) := by decide +kernel
theorem dX11_init_137 : decode cX11_init 137 = .ok (.putfield 58, 3) := by decide +kernel
theorem dX11_init_140 : decode cX11_init 140 = .ok (.aload_n 0, 1) := by decide +kernel
theorem dX11_init_141 : decode cX11_init 141 = .ok (.sipush 256, 3) := by decide +kernel
theorem dX11_init_144 : decode cX11_init 144 = .ok (.newarray .int, 2) := by decide +kernel
theorem dX11_init_146 : decode cX11_init 146 = .ok (.putfield 61, 3) := by decide +kernel
theorem dX11_init_149 : decode cX11_init 149 = .ok (.aload_n 0, 1) := by decide +kernel
theorem dX11_init_150 : decode cX11_init 150 = .ok (.sipush 256, 3) := by decide +kernel
theorem dX11_init_153 : decode cX11_init 153 = .ok (.newarray .int, 2) := by decide +kernel
theorem dX11_init_155 : decode cX11_init 155 = .ok (.putfield 64, 3) := by decide +kernel
theorem dX11_init_158 : decode cX11_init 158 = .ok (.aload_n 0, 1) := by decide +kernel
theorem dX11_init_159 : decode cX11_init 159 = .ok (.sipush 256, 3) := by decide +kernel
theorem dX11_init_162 : decode cX11_init 162 = .ok (.newarray .boolean, 2) := by decide +kernel
theorem dX11_init_164 : decode cX11_init 164 = .ok (.putfield 67, 3) := by decide +kernel
theorem dX11_init_167 : decode cX11_init 167 = .ok (.aload_n 0, 1) := by decide +kernel
theorem dX11_init_168 : decode cX11_init 168 = .ok (.sipush 256, 3) := by decide +kernel
theorem dX11_init_171 : decode cX11_init 171 = .ok (.newarray .int, 2) := by decide +kernel
theorem dX11_init_173 : decode cX11_init 173 = .ok (.putfield 71, 3) := by decide +kernel
theorem dX11_init_176 : decode cX11_init 176 = .ok (.aload_n 0, 1) := by decide +kernel
theorem dX11_init_177 : decode cX11_init 177 = .ok (.bipush 8, 2) := by decide +kernel
theorem dX11_init_179 : decode cX11_init 179 = .ok (.newarray .int, 2) := by decide +kernel
theorem dX11_init_181 : decode cX11_init 181 = .ok (.putfield 74, 3) := by decide +kernel
theorem dX11_init_184 : decode cX11_init 184 = .ok (.aload_n 0, 1) := by decide +kernel
theorem dX11_init_185 : decode cX11_init 185 = .ok (.bipush 32, 2) := by decide +kernel
theorem dX11_init_187 : decode cX11_init 187 = .ok (.newarray .int, 2) := by decide +kernel
theorem dX11_init_189 : decode cX11_init 189 = .ok (.putfield 77, 3) := by decide +kernel
theorem dX11_init_192 : decode cX11_init 192 = .ok (.aload_n 0, 1) := by decide +kernel
theorem dX11_init_193 : decode cX11_init 193 = .ok (.sipush 256, 3) := by decide +kernel
theorem dX11_init_196 : decode cX11_init 196 = .ok (.newarray .int, 2) := by decide +kernel
theorem dX11_init_198 : decode cX11_init 198 = .ok (.putfield 80, 3) := by decide +kernel
theorem dX11_init_201 : decode cX11_init 201 = .ok (.aload_n 0, 1) := by decide +kernel
theorem dX11_init_202 : decode cX11_init 202 = .ok (.sipush 256, 3) := by decide +kernel
theorem dX11_init_205 : decode cX11_init 205 = .ok (.newarray .int, 2) := by decide +kernel
theorem dX11_init_207 : decode cX11_init 207 = .ok (.putfield 83, 3) := by decide +kernel
theorem dX11_init_210 : decode cX11_init 210 = .ok (.aload_n 0, 1) := by decide +kernel
theorem dX11_init_211 : decode cX11_init 211 = .ok (.bipush 8, 2) := by decide +kernel
theorem dX11_init_213 : decode cX11_init 213 = .ok (.newarray .int, 2) := by decide +kernel
theorem dX11_init_215 : decode cX11_init 215 = .ok (.putfield 86, 3) := by decide +kernel
theorem dX11_init_218 : decode cX11_init 218 = .ok (.aload_n 0, 1) := by decide +kernel
theorem dX11_init_219 : decode cX11_init 219 = .ok (.bipush 32, 2) := by decide +kernel
theorem dX11_init_221 : decode cX11_init 221 = .ok (.newarray .int, 2) := by decide +kernel
theorem dX11_init_223 : decode cX11_init 223 = .ok (.putfield 89, 3) := by decide +kernel
theorem dX11_init_226 : decode cX11_init 226 = .ok (.aload_n 0, 1) := by decide +kernel
theorem dX11_init_227 : decode cX11_init 227 = .ok (.sipush 1024, 3) := by decide +kernel
theorem dX11_init_230 : decode cX11_init 230 = .ok (.newarray .int, 2) := by decide +kernel
theorem dX11_init_232 : decode cX11_init 232 = .ok (.putfield 92, 3) := by decide +kernel
theorem dX11_init_235 : decode cX11_init 235 = .ok (.aload_n 0, 1) := by decide +kernel
theorem dX11_init_236 : decode cX11_init 236 = .ok (.ldc 95, 2) := by decide +kernel
theorem dX11_init_238 : decode cX11_init 238 = .ok (.newarray .int, 2) := by decide +kernel
theorem dX11_init_240 : decode cX11_init 240 = .ok (.putfield 96, 3) := by decide +kernel
theorem dX11_init_243 : decode cX11_init 243 = .ok (.aload_n 0, 1) := by decide +kernel
theorem dX11_init_244 : decode cX11_init 244 = .ok (.ldc 95, 2) := by decide +kernel
theorem dX11_init_246 : decode cX11_init 246 = .ok (.newarray .int, 2) := by decide +kernel
theorem dX11_init_248 : decode cX11_init 248 = .ok (.putfield 99, 3) := by decide +kernel
theorem dX11_init_251 : decode cX11_init 251 = .ok (.aload_n 0, 1) := by decide +kernel
theorem dX11_init_252 : decode cX11_init 252 = .ok (.sipush 256, 3) := by decide +kernel
theorem dX11_init_255 : decode cX11_init 255 = .ok (.newarray .long, 2) := by decide +kernel
theorem dX11_init_257 : decode cX11_init 257 = .ok (.putfield 102, 3) := by decide +kernel
theorem dX11_init_260 : decode cX11_init 260 = .ok (.aload_n 0, 1) := by decide +kernel
theorem dX11_init_261 : decode cX11_init 261 = .ok (.iconst 4, 1) := by decide +kernel
theorem dX11_init_262 : decode cX11_init 262 = .ok (.newarray .int, 2) := by decide +kernel
theorem dX11_init_264 : decode cX11_init 264 = .ok (.dup, 1) := by decide +kernel
theorem dX11_init_265 : decode cX11_init 265 = .ok (.iconst 0, 1) := by decide +kernel
theorem dX11_init_266 : decode cX11_init 266 = .ok (.iconst (-1), 1) := by decide +kernel
theorem dX11_init_267 : decode cX11_init 267 = .ok (.iastore, 1) := by decide +kernel
theorem dX11_init_268 : decode cX11_init 268 = .ok (.dup, 1) := by decide +kernel
theorem dX11_init_269 : decode cX11_init 269 = .ok (.iconst 1, 1) := by decide +kernel
theorem dX11_init_270 : decode cX11_init 270 = .ok (.iconst (-1), 1) := by decide +kernel
theorem dX11_init_271 : decode cX11_init 271 = .ok (.iastore, 1) := by decide +kernel
theorem dX11_init_272 : decode cX11_init 272 = .ok (.dup, 1) := by decide +kernel
theorem dX11_init_273 : decode cX11_init 273 = .ok (.iconst 2, 1) := by decide +kernel
theorem dX11_init_274 : decode cX11_init 274 = .ok (.iconst (-1), 1) := by decide +kernel
theorem dX11_init_275 : decode cX11_init 275 = .ok (.iastore, 1) := by decide +kernel
theorem dX11_init_276 : decode cX11_init 276 = .ok (.dup, 1) := by decide +kernel
theorem dX11_init_277 : decode cX11_init 277 = .ok (.iconst 3, 1) := by decide +kernel
theorem dX11_init_278 : decode cX11_init 278 = .ok (.iconst (-1), 1) := by decide +kernel
theorem dX11_init_279 : decode cX11_init 279 = .ok (.iastore, 1) := by decide +kernel
theorem dX11_init_280 : decode cX11_init 280 = .ok (.putfield 105, 3) := by decide +kernel
theorem dX11_init_283 : decode cX11_init 283 = .ok (.aload_n 0, 1) := by decide +kernel
theorem dX11_init_284 : decode cX11_init 284 = .ok (.iconst 4, 1) := by decide +kernel
theorem dX11_init_285 : decode cX11_init 285 = .ok (.newarray .int, 2) := by decide +kernel
theorem dX11_init_287 : decode cX11_init 287 = .ok (.putfield 108, 3) := by decide +kernel
theorem dX11_init_290 : decode cX11_init 290 = .ok (.aload_n 0, 1) := by decide +kernel
theorem dX11_init_291 : decode cX11_init 291 = .ok (.bipush 120, 2) := by decide +kernel
theorem dX11_init_293 : decode cX11_init 293 = .ok (.newarray .int, 2) := by decide +kernel
theorem dX11_init_295 : decode cX11_init 295 = .ok (.putfield 111, 3) := by decide +kernel
theorem dX11_init_298 : decode cX11_init 298 = .ok (.aload_n 0, 1) := by decide +kernel
theorem dX11_init_299 : decode cX11_init 299 = .ok (.bipush 120, 2) := by decide +kernel
theorem dX11_init_301 : decode cX11_init 301 = .ok (.newarray .float, 2) := by decide +kernel
theorem dX11_init_303 : decode cX11_init 303 = .ok (.putfield 114, 3) := by decide +kernel
theorem dX11_init_306 : decode cX11_init 306 = .ok (.return_, 1) := by decide +kernel
theorem dX11_isIn_0 : decode cX11_isIn 0 = .ok (.iload_n 0, 1) := by decide +kernel
theorem dX11_isIn_1 : decode cX11_isIn 1 = .ok (.iload_n 1, 1) := by decide +kernel
theorem dX11_isIn_2 : decode cX11_isIn 2 = .ok (.if_icmp .lt 12, 3) := by decide +kernel
theorem dX11_isIn_5 : decode cX11_isIn 5 = .ok (.iload_n 0, 1) := by decide +kernel
theorem dX11_isIn_6 : decode cX11_isIn 6 = .ok (.iload_n 2, 1) := by decide +kernel
theorem dX11_isIn_7 : decode cX11_isIn 7 = .ok (.if_icmp .gt 7, 3) := by decide +kernel
theorem dX11_isIn_10 : decode cX11_isIn 10 = .ok (.iconst 1, 1) := by decide +kernel
theorem dX11_isIn_11 : decode cX11_isIn 11 = .ok (.goto 4, 3) := by decide +kernel
theorem dX11_isIn_14 : decode cX11_isIn 14 = .ok (.iconst 0, 1) := by decide +kernel
theorem dX11_isIn_15 : decode cX11_isIn 15 = .ok (.ireturn, 1) := by decide +kernel
theorem dX11_isSlot_0 : decode cX11_isSlot 0 = .ok (.iload_n 0, 1) := by decide +kernel
theorem dX11_isSlot_1 : decode cX11_isSlot 1 = .ok (.iconst 0, 1) := by decide +kernel
theorem dX11_isSlot_2 : decode cX11_isSlot 2 = .ok (.iconst 5, 1) := by decide +kernel
theorem dX11_isSlot_3 : decode cX11_isSlot 3 = .ok (.invokestatic 118, 3) := by decide +kernel
theorem dX11_isSlot_6 : decode cX11_isSlot 6 = .ok (.ireturn, 1) := by decide +kernel
theorem dX11_isVertex_0 : decode cX11_isVertex 0 = .ok (.iload_n 0, 1) := by decide +kernel
theorem dX11_isVertex_1 : decode cX11_isVertex 1 = .ok (.iconst 0, 1) := by decide +kernel
theorem dX11_isVertex_2 : decode cX11_isVertex 2 = .ok (.bipush 7, 2) := by decide +kernel
theorem dX11_isVertex_4 : decode cX11_isVertex 4 = .ok (.invokestatic 118, 3) := by decide +kernel
theorem dX11_isVertex_7 : decode cX11_isVertex 7 = .ok (.ireturn, 1) := by decide +kernel
theorem dX11_isLetter_0 : decode cX11_isLetter 0 = .ok (.iload_n 0, 1) := by decide +kernel
theorem dX11_isLetter_1 : decode cX11_isLetter 1 = .ok (.iconst 0, 1) := by decide +kernel
theorem dX11_isLetter_2 : decode cX11_isLetter 2 = .ok (.iconst 3, 1) := by decide +kernel
theorem dX11_isLetter_3 : decode cX11_isLetter 3 = .ok (.invokestatic 118, 3) := by decide +kernel
theorem dX11_isLetter_6 : decode cX11_isLetter 6 = .ok (.ireturn, 1) := by decide +kernel
theorem dX11_to_0 : decode cX11_to 0 = .ok (.aload_n 0, 1) := by decide +kernel
theorem dX11_to_1 : decode cX11_to 1 = .ok (.getfield 9, 3) := by decide +kernel
theorem dX11_to_4 : decode cX11_to 4 = .ok (.bipush 32, 2) := by decide +kernel
theorem dX11_to_6 : decode cX11_to 6 = .ok (.iload_n 1, 1) := by decide +kernel
theorem dX11_to_7 : decode cX11_to 7 = .ok (.imul, 1) := by decide +kernel
theorem dX11_to_8 : decode cX11_to 8 = .ok (.iconst 4, 1) := by decide +kernel
theorem dX11_to_9 : decode cX11_to 9 = .ok (.iload_n 2, 1) := by decide +kernel
theorem dX11_to_10 : decode cX11_to 10 = .ok (.imul, 1) := by decide +kernel
theorem dX11_to_11 : decode cX11_to 11 = .ok (.iadd, 1) := by decide +kernel
theorem dX11_to_12 : decode cX11_to 12 = .ok (.iload_n 3, 1) := by decide +kernel
theorem dX11_to_13 : decode cX11_to 13 = .ok (.iadd, 1) := by decide +kernel
theorem dX11_to_14 : decode cX11_to 14 = .ok (.iaload, 1) := by decide +kernel
theorem dX11_to_15 : decode cX11_to 15 = .ok (.ireturn, 1) := by decide +kernel
theorem dX11_edgesOf_0 : decode cX11_edgesOf 0 = .ok (.iconst 0, 1) := by decide +kernel
theorem dX11_edgesOf_1 : decode cX11_edgesOf 1 = .ok (.istore_n 2, 1) := by decide +kernel
theorem dX11_edgesOf_2 : decode cX11_edgesOf 2 = .ok (.iconst 0, 1) := by decide +kernel
theorem dX11_edgesOf_3 : decode cX11_edgesOf 3 = .ok (.istore_n 3, 1) := by decide +kernel
theorem dX11_edgesOf_4 : decode cX11_edgesOf 4 = .ok (.iload_n 3, 1) := by decide +kernel
theorem dX11_edgesOf_5 : decode cX11_edgesOf 5 = .ok (.bipush 32, 2) := by decide +kernel
theorem dX11_edgesOf_7 : decode cX11_edgesOf 7 = .ok (.if_icmp .ge 26, 3) := by decide +kernel
theorem dX11_edgesOf_10 : decode cX11_edgesOf 10 = .ok (.iload_n 2, 1) := by decide +kernel
theorem dX11_edgesOf_11 : decode cX11_edgesOf 11 = .ok (.aload_n 0, 1) := by decide +kernel
theorem dX11_edgesOf_12 : decode cX11_edgesOf 12 = .ok (.getfield 9, 3) := by decide +kernel
theorem dX11_edgesOf_15 : decode cX11_edgesOf 15 = .ok (.bipush 32, 2) := by decide +kernel
theorem dX11_edgesOf_17 : decode cX11_edgesOf 17 = .ok (.iload_n 1, 1) := by decide +kernel
theorem dX11_edgesOf_18 : decode cX11_edgesOf 18 = .ok (.imul, 1) := by decide +kernel
theorem dX11_edgesOf_19 : decode cX11_edgesOf 19 = .ok (.iload_n 3, 1) := by decide +kernel
theorem dX11_edgesOf_20 : decode cX11_edgesOf 20 = .ok (.iadd, 1) := by decide +kernel
theorem dX11_edgesOf_21 : decode cX11_edgesOf 21 = .ok (.iaload, 1) := by decide +kernel
theorem dX11_edgesOf_22 : decode cX11_edgesOf 22 = .ok (.invokestatic 122, 3) := by decide +kernel
theorem dX11_edgesOf_25 : decode cX11_edgesOf 25 = .ok (.iadd, 1) := by decide +kernel
theorem dX11_edgesOf_26 : decode cX11_edgesOf 26 = .ok (.istore_n 2, 1) := by decide +kernel
theorem dX11_edgesOf_27 : decode cX11_edgesOf 27 = .ok (.iinc 3 1, 3) := by decide +kernel
theorem dX11_edgesOf_30 : decode cX11_edgesOf 30 = .ok (.goto (-26), 3) := by decide +kernel
theorem dX11_edgesOf_33 : decode cX11_edgesOf 33 = .ok (.iload_n 2, 1) := by decide +kernel
theorem dX11_edgesOf_34 : decode cX11_edgesOf 34 = .ok (.ireturn, 1) := by decide +kernel
theorem dX11_total_0 : decode cX11_total 0 = .ok (.iconst 0, 1) := by decide +kernel
theorem dX11_total_1 : decode cX11_total 1 = .ok (.istore_n 1, 1) := by decide +kernel
theorem dX11_total_2 : decode cX11_total 2 = .ok (.iconst 0, 1) := by decide +kernel
theorem dX11_total_3 : decode cX11_total 3 = .ok (.istore_n 2, 1) := by decide +kernel
theorem dX11_total_4 : decode cX11_total 4 = .ok (.iload_n 2, 1) := by decide +kernel
theorem dX11_total_5 : decode cX11_total 5 = .ok (.bipush 6, 2) := by decide +kernel
theorem dX11_total_7 : decode cX11_total 7 = .ok (.if_icmp .ge 17, 3) := by decide +kernel
theorem dX11_total_10 : decode cX11_total 10 = .ok (.iload_n 1, 1) := by decide +kernel
theorem dX11_total_11 : decode cX11_total 11 = .ok (.aload_n 0, 1) := by decide +kernel
theorem dX11_total_12 : decode cX11_total 12 = .ok (.iload_n 2, 1) := by decide +kernel
theorem dX11_total_13 : decode cX11_total 13 = .ok (.invokevirtual 128, 3) := by decide +kernel
theorem dX11_total_16 : decode cX11_total 16 = .ok (.iadd, 1) := by decide +kernel
theorem dX11_total_17 : decode cX11_total 17 = .ok (.istore_n 1, 1) := by decide +kernel
theorem dX11_total_18 : decode cX11_total 18 = .ok (.iinc 2 1, 3) := by decide +kernel
theorem dX11_total_21 : decode cX11_total 21 = .ok (.goto (-17), 3) := by decide +kernel
theorem dX11_total_24 : decode cX11_total 24 = .ok (.iload_n 1, 1) := by decide +kernel
theorem dX11_total_25 : decode cX11_total 25 = .ok (.ireturn, 1) := by decide +kernel
theorem dX11_clearMade_0 : decode cX11_clearMade 0 = .ok (.iconst 0, 1) := by decide +kernel
theorem dX11_clearMade_1 : decode cX11_clearMade 1 = .ok (.istore_n 1, 1) := by decide +kernel
theorem dX11_clearMade_2 : decode cX11_clearMade 2 = .ok (.iload_n 1, 1) := by decide +kernel
theorem dX11_clearMade_3 : decode cX11_clearMade 3 = .ok (.bipush 32, 2) := by decide +kernel
theorem dX11_clearMade_5 : decode cX11_clearMade 5 = .ok (.if_icmp .ge 16, 3) := by decide +kernel
theorem dX11_clearMade_8 : decode cX11_clearMade 8 = .ok (.aload_n 0, 1) := by decide +kernel
theorem dX11_clearMade_9 : decode cX11_clearMade 9 = .ok (.getfield 15, 3) := by decide +kernel
theorem dX11_clearMade_12 : decode cX11_clearMade 12 = .ok (.iload_n 1, 1) := by decide +kernel
theorem dX11_clearMade_13 : decode cX11_clearMade 13 = .ok (.iconst 0, 1) := by decide +kernel
theorem dX11_clearMade_14 : decode cX11_clearMade 14 = .ok (.iastore, 1) := by decide +kernel
theorem dX11_clearMade_15 : decode cX11_clearMade 15 = .ok (.iinc 1 1, 3) := by decide +kernel
theorem dX11_clearMade_18 : decode cX11_clearMade 18 = .ok (.goto (-16), 3) := by decide +kernel
theorem dX11_clearMade_21 : decode cX11_clearMade 21 = .ok (.return_, 1) := by decide +kernel
theorem dX11_make_0 : decode cX11_make 0 = .ok (.iconst 0, 1) := by decide +kernel
theorem dX11_make_1 : decode cX11_make 1 = .ok (.istore_n 2, 1) := by decide +kernel
theorem dX11_make_2 : decode cX11_make 2 = .ok (.iload_n 2, 1) := by decide +kernel
theorem dX11_make_3 : decode cX11_make 3 = .ok (.bipush 32, 2) := by decide +kernel
theorem dX11_make_5 : decode cX11_make 5 = .ok (.if_icmp .ge 26, 3) := by decide +kernel
theorem dX11_make_8 : decode cX11_make 8 = .ok (.aload_n 0, 1) := by decide +kernel
theorem dX11_make_9 : decode cX11_make 9 = .ok (.getfield 15, 3) := by decide +kernel
theorem dX11_make_12 : decode cX11_make 12 = .ok (.iload_n 2, 1) := by decide +kernel
theorem dX11_make_13 : decode cX11_make 13 = .ok (.aload_n 0, 1) := by decide +kernel
theorem dX11_make_14 : decode cX11_make 14 = .ok (.getfield 9, 3) := by decide +kernel
theorem dX11_make_17 : decode cX11_make 17 = .ok (.bipush 32, 2) := by decide +kernel
theorem dX11_make_19 : decode cX11_make 19 = .ok (.iload_n 1, 1) := by decide +kernel
theorem dX11_make_20 : decode cX11_make 20 = .ok (.imul, 1) := by decide +kernel
theorem dX11_make_21 : decode cX11_make 21 = .ok (.iload_n 2, 1) := by decide +kernel
theorem dX11_make_22 : decode cX11_make 22 = .ok (.iadd, 1) := by decide +kernel
theorem dX11_make_23 : decode cX11_make 23 = .ok (.iaload, 1) := by decide +kernel
theorem dX11_make_24 : decode cX11_make 24 = .ok (.iastore, 1) := by decide +kernel
theorem dX11_make_25 : decode cX11_make 25 = .ok (.iinc 2 1, 3) := by decide +kernel
theorem dX11_make_28 : decode cX11_make 28 = .ok (.goto (-26), 3) := by decide +kernel
theorem dX11_make_31 : decode cX11_make 31 = .ok (.return_, 1) := by decide +kernel
theorem dX11_replace_0 : decode cX11_replace 0 = .ok (.aload_n 0, 1) := by decide +kernel
theorem dX11_replace_1 : decode cX11_replace 1 = .ok (.getfield 131, 3) := by decide +kernel
theorem dX11_replace_4 : decode cX11_replace 4 = .ok (.bipush 10, 2) := by decide +kernel
theorem dX11_replace_6 : decode cX11_replace 6 = .ok (.if_icmp .ne 79, 3) := by decide +kernel
theorem dX11_replace_9 : decode cX11_replace 9 = .ok (.iconst 1, 1) := by decide +kernel
theorem dX11_replace_10 : decode cX11_replace 10 = .ok (.istore_n 2, 1) := by decide +kernel
theorem dX11_replace_11 : decode cX11_replace 11 = .ok (.iload_n 2, 1) := by decide +kernel
theorem dX11_replace_12 : decode cX11_replace 12 = .ok (.bipush 10, 2) := by decide +kernel
theorem dX11_replace_14 : decode cX11_replace 14 = .ok (.if_icmp .ge 61, 3) := by decide +kernel
theorem dX11_replace_17 : decode cX11_replace 17 = .ok (.aload_n 0, 1) := by decide +kernel
theorem dX11_replace_18 : decode cX11_replace 18 = .ok (.getfield 21, 3) := by decide +kernel
theorem dX11_replace_21 : decode cX11_replace 21 = .ok (.iload_n 2, 1) := by decide +kernel
theorem dX11_replace_22 : decode cX11_replace 22 = .ok (.iconst 1, 1) := by decide +kernel
theorem dX11_replace_23 : decode cX11_replace 23 = .ok (.isub, 1) := by decide +kernel
theorem dX11_replace_24 : decode cX11_replace 24 = .ok (.aload_n 0, 1) := by decide +kernel
theorem dX11_replace_25 : decode cX11_replace 25 = .ok (.getfield 21, 3) := by decide +kernel
theorem dX11_replace_28 : decode cX11_replace 28 = .ok (.iload_n 2, 1) := by decide +kernel
theorem dX11_replace_29 : decode cX11_replace 29 = .ok (.iaload, 1) := by decide +kernel
theorem dX11_replace_30 : decode cX11_replace 30 = .ok (.iastore, 1) := by decide +kernel
theorem dX11_replace_31 : decode cX11_replace 31 = .ok (.iconst 0, 1) := by decide +kernel
theorem dX11_replace_32 : decode cX11_replace 32 = .ok (.istore_n 3, 1) := by decide +kernel
theorem dX11_replace_33 : decode cX11_replace 33 = .ok (.iload_n 3, 1) := by decide +kernel
theorem dX11_replace_34 : decode cX11_replace 34 = .ok (.bipush 32, 2) := by decide +kernel
theorem dX11_replace_36 : decode cX11_replace 36 = .ok (.if_icmp .ge 33, 3) := by decide +kernel
theorem dX11_replace_39 : decode cX11_replace 39 = .ok (.aload_n 0, 1) := by decide +kernel
theorem dX11_replace_40 : decode cX11_replace 40 = .ok (.getfield 18, 3) := by decide +kernel
theorem dX11_replace_43 : decode cX11_replace 43 = .ok (.bipush 32, 2) := by decide +kernel
theorem dX11_replace_45 : decode cX11_replace 45 = .ok (.iload_n 2, 1) := by decide +kernel
theorem dX11_replace_46 : decode cX11_replace 46 = .ok (.iconst 1, 1) := by decide +kernel
theorem dX11_replace_47 : decode cX11_replace 47 = .ok (.isub, 1) := by decide +kernel
theorem dX11_replace_48 : decode cX11_replace 48 = .ok (.imul, 1) := by decide +kernel
theorem dX11_replace_49 : decode cX11_replace 49 = .ok (.iload_n 3, 1) := by decide +kernel
theorem dX11_replace_50 : decode cX11_replace 50 = .ok (.iadd, 1) := by decide +kernel
theorem dX11_replace_51 : decode cX11_replace 51 = .ok (.aload_n 0, 1) := by decide +kernel
theorem dX11_replace_52 : decode cX11_replace 52 = .ok (.getfield 18, 3) := by decide +kernel
theorem dX11_replace_55 : decode cX11_replace 55 = .ok (.bipush 32, 2) := by decide +kernel
theorem dX11_replace_57 : decode cX11_replace 57 = .ok (.iload_n 2, 1) := by decide +kernel
theorem dX11_replace_58 : decode cX11_replace 58 = .ok (.imul, 1) := by decide +kernel
theorem dX11_replace_59 : decode cX11_replace 59 = .ok (.iload_n 3, 1) := by decide +kernel
theorem dX11_replace_60 : decode cX11_replace 60 = .ok (.iadd, 1) := by decide +kernel
theorem dX11_replace_61 : decode cX11_replace 61 = .ok (.iaload, 1) := by decide +kernel
theorem dX11_replace_62 : decode cX11_replace 62 = .ok (.iastore, 1) := by decide +kernel
theorem dX11_replace_63 : decode cX11_replace 63 = .ok (.iinc 3 1, 3) := by decide +kernel
theorem dX11_replace_66 : decode cX11_replace 66 = .ok (.goto (-33), 3) := by decide +kernel
theorem dX11_replace_69 : decode cX11_replace 69 = .ok (.iinc 2 1, 3) := by decide +kernel
theorem dX11_replace_72 : decode cX11_replace 72 = .ok (.goto (-61), 3) := by decide +kernel
theorem dX11_replace_75 : decode cX11_replace 75 = .ok (.aload_n 0, 1) := by decide +kernel
theorem dX11_replace_76 : decode cX11_replace 76 = .ok (.dup, 1) := by decide +kernel
theorem dX11_replace_77 : decode cX11_replace 77 = .ok (.getfield 131, 3) := by decide +kernel
theorem dX11_replace_80 : decode cX11_replace 80 = .ok (.iconst 1, 1) := by decide +kernel
theorem dX11_replace_81 : decode cX11_replace 81 = .ok (.isub, 1) := by decide +kernel
theorem dX11_replace_82 : decode cX11_replace 82 = .ok (.putfield 131, 3) := by decide +kernel
theorem dX11_replace_85 : decode cX11_replace 85 = .ok (.aload_n 0, 1) := by decide +kernel
theorem dX11_replace_86 : decode cX11_replace 86 = .ok (.getfield 21, 3) := by decide +kernel
theorem dX11_replace_89 : decode cX11_replace 89 = .ok (.aload_n 0, 1) := by decide +kernel
theorem dX11_replace_90 : decode cX11_replace 90 = .ok (.getfield 131, 3) := by decide +kernel
theorem dX11_replace_93 : decode cX11_replace 93 = .ok (.iload_n 1, 1) := by decide +kernel
theorem dX11_replace_94 : decode cX11_replace 94 = .ok (.iastore, 1) := by decide +kernel
theorem dX11_replace_95 : decode cX11_replace 95 = .ok (.iconst 0, 1) := by decide +kernel
theorem dX11_replace_96 : decode cX11_replace 96 = .ok (.istore_n 2, 1) := by decide +kernel
theorem dX11_replace_97 : decode cX11_replace 97 = .ok (.iload_n 2, 1) := by decide +kernel
theorem dX11_replace_98 : decode cX11_replace 98 = .ok (.bipush 32, 2) := by decide +kernel
theorem dX11_replace_100 : decode cX11_replace 100 = .ok (.if_icmp .ge 51, 3) := by decide +kernel
theorem dX11_replace_103 : decode cX11_replace 103 = .ok (.aload_n 0, 1) := by decide +kernel
theorem dX11_replace_104 : decode cX11_replace 104 = .ok (.getfield 18, 3) := by decide +kernel
theorem dX11_replace_107 : decode cX11_replace 107 = .ok (.bipush 32, 2) := by decide +kernel
theorem dX11_replace_109 : decode cX11_replace 109 = .ok (.aload_n 0, 1) := by decide +kernel
theorem dX11_replace_110 : decode cX11_replace 110 = .ok (.getfield 131, 3) := by decide +kernel
theorem dX11_replace_113 : decode cX11_replace 113 = .ok (.imul, 1) := by decide +kernel
theorem dX11_replace_114 : decode cX11_replace 114 = .ok (.iload_n 2, 1) := by decide +kernel
theorem dX11_replace_115 : decode cX11_replace 115 = .ok (.iadd, 1) := by decide +kernel
theorem dX11_replace_116 : decode cX11_replace 116 = .ok (.aload_n 0, 1) := by decide +kernel
theorem dX11_replace_117 : decode cX11_replace 117 = .ok (.getfield 9, 3) := by decide +kernel
theorem dX11_replace_120 : decode cX11_replace 120 = .ok (.bipush 32, 2) := by decide +kernel
theorem dX11_replace_122 : decode cX11_replace 122 = .ok (.iload_n 1, 1) := by decide +kernel
theorem dX11_replace_123 : decode cX11_replace 123 = .ok (.imul, 1) := by decide +kernel
theorem dX11_replace_124 : decode cX11_replace 124 = .ok (.iload_n 2, 1) := by decide +kernel
theorem dX11_replace_125 : decode cX11_replace 125 = .ok (.iadd, 1) := by decide +kernel
theorem dX11_replace_126 : decode cX11_replace 126 = .ok (.iaload, 1) := by decide +kernel
theorem dX11_replace_127 : decode cX11_replace 127 = .ok (.iastore, 1) := by decide +kernel
theorem dX11_replace_128 : decode cX11_replace 128 = .ok (.aload_n 0, 1) := by decide +kernel
theorem dX11_replace_129 : decode cX11_replace 129 = .ok (.getfield 9, 3) := by decide +kernel
theorem dX11_replace_132 : decode cX11_replace 132 = .ok (.bipush 32, 2) := by decide +kernel
theorem dX11_replace_134 : decode cX11_replace 134 = .ok (.iload_n 1, 1) := by decide +kernel
theorem dX11_replace_135 : decode cX11_replace 135 = .ok (.imul, 1) := by decide +kernel
theorem dX11_replace_136 : decode cX11_replace 136 = .ok (.iload_n 2, 1) := by decide +kernel
theorem dX11_replace_137 : decode cX11_replace 137 = .ok (.iadd, 1) := by decide +kernel
theorem dX11_replace_138 : decode cX11_replace 138 = .ok (.aload_n 0, 1) := by decide +kernel
theorem dX11_replace_139 : decode cX11_replace 139 = .ok (.getfield 15, 3) := by decide +kernel
theorem dX11_replace_142 : decode cX11_replace 142 = .ok (.iload_n 2, 1) := by decide +kernel
theorem dX11_replace_143 : decode cX11_replace 143 = .ok (.iaload, 1) := by decide +kernel
theorem dX11_replace_144 : decode cX11_replace 144 = .ok (.iastore, 1) := by decide +kernel
theorem dX11_replace_145 : decode cX11_replace 145 = .ok (.iinc 2 1, 3) := by decide +kernel
theorem dX11_replace_148 : decode cX11_replace 148 = .ok (.goto (-51), 3) := by decide +kernel
theorem dX11_replace_151 : decode cX11_replace 151 = .ok (.aload_n 0, 1) := by decide +kernel
theorem dX11_replace_152 : decode cX11_replace 152 = .ok (.dup, 1) := by decide +kernel
theorem dX11_replace_153 : decode cX11_replace 153 = .ok (.getfield 131, 3) := by decide +kernel
theorem dX11_replace_156 : decode cX11_replace 156 = .ok (.iconst 1, 1) := by decide +kernel
theorem dX11_replace_157 : decode cX11_replace 157 = .ok (.iadd, 1) := by decide +kernel
theorem dX11_replace_158 : decode cX11_replace 158 = .ok (.putfield 131, 3) := by decide +kernel
theorem dX11_replace_161 : decode cX11_replace 161 = .ok (.return_, 1) := by decide +kernel
theorem dX11_addEdge_0 : decode cX11_addEdge 0 = .ok (.iload_n 1, 1) := by decide +kernel
theorem dX11_addEdge_1 : decode cX11_addEdge 1 = .ok (.invokestatic 135, 3) := by decide +kernel
theorem dX11_addEdge_4 : decode cX11_addEdge 4 = .ok (.ifCond .eq 25, 3) := by decide +kernel
theorem dX11_addEdge_7 : decode cX11_addEdge 7 = .ok (.iload_n 2, 1) := by decide +kernel
theorem dX11_addEdge_8 : decode cX11_addEdge 8 = .ok (.invokestatic 139, 3) := by decide +kernel
theorem dX11_addEdge_11 : decode cX11_addEdge 11 = .ok (.ifCond .eq 18, 3) := by decide +kernel
theorem dX11_addEdge_14 : decode cX11_addEdge 14 = .ok (.iload_n 3, 1) := by decide +kernel
theorem dX11_addEdge_15 : decode cX11_addEdge 15 = .ok (.invokestatic 142, 3) := by decide +kernel
theorem dX11_addEdge_18 : decode cX11_addEdge 18 = .ok (.ifCond .eq 11, 3) := by decide +kernel
theorem dX11_addEdge_21 : decode cX11_addEdge 21 = .ok (.iload 4, 2) := by decide +kernel
theorem dX11_addEdge_23 : decode cX11_addEdge 23 = .ok (.invokestatic 139, 3) := by decide +kernel
theorem dX11_addEdge_26 : decode cX11_addEdge 26 = .ok (.ifCond .ne 6, 3) := by decide +kernel
theorem dX11_addEdge_29 : decode cX11_addEdge 29 = .ok (.bipush (-2), 2) := by decide +kernel
theorem dX11_addEdge_31 : decode cX11_addEdge 31 = .ok (.ireturn, 1) := by decide +kernel
theorem dX11_addEdge_32 : decode cX11_addEdge 32 = .ok (.aload_n 0, 1) := by decide +kernel
theorem dX11_addEdge_33 : decode cX11_addEdge 33 = .ok (.iload_n 1, 1) := by decide +kernel
theorem dX11_addEdge_34 : decode cX11_addEdge 34 = .ok (.invokevirtual 145, 3) := by decide +kernel
theorem dX11_addEdge_37 : decode cX11_addEdge 37 = .ok (.aload_n 0, 1) := by decide +kernel
theorem dX11_addEdge_38 : decode cX11_addEdge 38 = .ok (.getfield 15, 3) := by decide +kernel
theorem dX11_addEdge_41 : decode cX11_addEdge 41 = .ok (.iconst 4, 1) := by decide +kernel
theorem dX11_addEdge_42 : decode cX11_addEdge 42 = .ok (.iload_n 2, 1) := by decide +kernel
theorem dX11_addEdge_43 : decode cX11_addEdge 43 = .ok (.imul, 1) := by decide +kernel
theorem dX11_addEdge_44 : decode cX11_addEdge 44 = .ok (.iload_n 3, 1) := by decide +kernel
theorem dX11_addEdge_45 : decode cX11_addEdge 45 = .ok (.iadd, 1) := by decide +kernel
theorem dX11_addEdge_46 : decode cX11_addEdge 46 = .ok (.dup2, 1) := by decide +kernel
theorem dX11_addEdge_47 : decode cX11_addEdge 47 = .ok (.iaload, 1) := by decide +kernel
theorem dX11_addEdge_48 : decode cX11_addEdge 48 = .ok (.iconst 1, 1) := by decide +kernel
theorem dX11_addEdge_49 : decode cX11_addEdge 49 = .ok (.iload 4, 2) := by decide +kernel
theorem dX11_addEdge_51 : decode cX11_addEdge 51 = .ok (.ishl, 1) := by decide +kernel
theorem dX11_addEdge_52 : decode cX11_addEdge 52 = .ok (.ior, 1) := by decide +kernel
theorem dX11_addEdge_53 : decode cX11_addEdge 53 = .ok (.iastore, 1) := by decide +kernel
theorem dX11_addEdge_54 : decode cX11_addEdge 54 = .ok (.aload_n 0, 1) := by decide +kernel
theorem dX11_addEdge_55 : decode cX11_addEdge 55 = .ok (.iload_n 1, 1) := by decide +kernel
theorem dX11_addEdge_56 : decode cX11_addEdge 56 = .ok (.invokevirtual 149, 3) := by decide +kernel
theorem dX11_addEdge_59 : decode cX11_addEdge 59 = .ok (.aload_n 0, 1) := by decide +kernel
theorem dX11_addEdge_60 : decode cX11_addEdge 60 = .ok (.iload_n 1, 1) := by decide +kernel
theorem dX11_addEdge_61 : decode cX11_addEdge 61 = .ok (.invokevirtual 128, 3) := by decide +kernel
theorem dX11_addEdge_64 : decode cX11_addEdge 64 = .ok (.ireturn, 1) := by decide +kernel
theorem dX11_removeEdge_0 : decode cX11_removeEdge 0 = .ok (.iload_n 1, 1) := by decide +kernel
theorem dX11_removeEdge_1 : decode cX11_removeEdge 1 = .ok (.invokestatic 135, 3) := by decide +kernel
theorem dX11_removeEdge_4 : decode cX11_removeEdge 4 = .ok (.ifCond .eq 25, 3) := by decide +kernel
theorem dX11_removeEdge_7 : decode cX11_removeEdge 7 = .ok (.iload_n 2, 1) := by decide +kernel
theorem dX11_removeEdge_8 : decode cX11_removeEdge 8 = .ok (.invokestatic 139, 3) := by decide +kernel
theorem dX11_removeEdge_11 : decode cX11_removeEdge 11 = .ok (.ifCond .eq 18, 3) := by decide +kernel
theorem dX11_removeEdge_14 : decode cX11_removeEdge 14 = .ok (.iload_n 3, 1) := by decide +kernel
theorem dX11_removeEdge_15 : decode cX11_removeEdge 15 = .ok (.invokestatic 142, 3) := by decide +kernel
theorem dX11_removeEdge_18 : decode cX11_removeEdge 18 = .ok (.ifCond .eq 11, 3) := by decide +kernel
theorem dX11_removeEdge_21 : decode cX11_removeEdge 21 = .ok (.iload 4, 2) := by decide +kernel
theorem dX11_removeEdge_23 : decode cX11_removeEdge 23 = .ok (.invokestatic 139, 3) := by decide +kernel
theorem dX11_removeEdge_26 : decode cX11_removeEdge 26 = .ok (.ifCond .ne 6, 3) := by decide +kernel
theorem dX11_removeEdge_29 : decode cX11_removeEdge 29 = .ok (.bipush (-2), 2) := by decide +kernel
theorem dX11_removeEdge_31 : decode cX11_removeEdge 31 = .ok (.ireturn, 1) := by decide +kernel
theorem dX11_removeEdge_32 : decode cX11_removeEdge 32 = .ok (.aload_n 0, 1) := by decide +kernel
theorem dX11_removeEdge_33 : decode cX11_removeEdge 33 = .ok (.iload_n 1, 1) := by decide +kernel
theorem dX11_removeEdge_34 : decode cX11_removeEdge 34 = .ok (.iload_n 2, 1) := by decide +kernel
theorem dX11_removeEdge_35 : decode cX11_removeEdge 35 = .ok (.iload_n 3, 1) := by decide +kernel
theorem dX11_removeEdge_36 : decode cX11_removeEdge 36 = .ok (.invokevirtual 152, 3) := by decide +kernel
theorem dX11_removeEdge_39 : decode cX11_removeEdge 39 = .ok (.iload 4, 2) := by decide +kernel
theorem dX11_removeEdge_41 : decode cX11_removeEdge 41 = .ok (.ishr, 1) := by decide +kernel
theorem dX11_removeEdge_42 : decode cX11_removeEdge 42 = .ok (.iconst 1, 1) := by decide +kernel
theorem dX11_removeEdge_43 : decode cX11_removeEdge 43 = .ok (.iand, 1) := by decide +kernel
theorem dX11_removeEdge_44 : decode cX11_removeEdge 44 = .ok (.ifCond .ne 5, 3) := by decide +kernel
theorem dX11_removeEdge_47 : decode cX11_removeEdge 47 = .ok (.iconst (-1), 1) := by decide +kernel
theorem dX11_removeEdge_48 : decode cX11_removeEdge 48 = .ok (.ireturn, 1) := by decide +kernel
theorem dX11_removeEdge_49 : decode cX11_removeEdge 49 = .ok (.aload_n 0, 1) := by decide +kernel
theorem dX11_removeEdge_50 : decode cX11_removeEdge 50 = .ok (.iload_n 1, 1) := by decide +kernel
theorem dX11_removeEdge_51 : decode cX11_removeEdge 51 = .ok (.invokevirtual 145, 3) := by decide +kernel
theorem dX11_removeEdge_54 : decode cX11_removeEdge 54 = .ok (.aload_n 0, 1) := by decide +kernel
theorem dX11_removeEdge_55 : decode cX11_removeEdge 55 = .ok (.getfield 15, 3) := by decide +kernel
theorem dX11_removeEdge_58 : decode cX11_removeEdge 58 = .ok (.iconst 4, 1) := by decide +kernel
theorem dX11_removeEdge_59 : decode cX11_removeEdge 59 = .ok (.iload_n 2, 1) := by decide +kernel
theorem dX11_removeEdge_60 : decode cX11_removeEdge 60 = .ok (.imul, 1) := by decide +kernel
theorem dX11_removeEdge_61 : decode cX11_removeEdge 61 = .ok (.iload_n 3, 1) := by decide +kernel
theorem dX11_removeEdge_62 : decode cX11_removeEdge 62 = .ok (.iadd, 1) := by decide +kernel
theorem dX11_removeEdge_63 : decode cX11_removeEdge 63 = .ok (.dup2, 1) := by decide +kernel
theorem dX11_removeEdge_64 : decode cX11_removeEdge 64 = .ok (.iaload, 1) := by decide +kernel
theorem dX11_removeEdge_65 : decode cX11_removeEdge 65 = .ok (.iconst 1, 1) := by decide +kernel
theorem dX11_removeEdge_66 : decode cX11_removeEdge 66 = .ok (.iload 4, 2) := by decide +kernel
theorem dX11_removeEdge_68 : decode cX11_removeEdge 68 = .ok (.ishl, 1) := by decide +kernel
theorem dX11_removeEdge_69 : decode cX11_removeEdge 69 = .ok (.iconst (-1), 1) := by decide +kernel
theorem dX11_removeEdge_70 : decode cX11_removeEdge 70 = .ok (.ixor, 1) := by decide +kernel
theorem dX11_removeEdge_71 : decode cX11_removeEdge 71 = .ok (.iand, 1) := by decide +kernel
theorem dX11_removeEdge_72 : decode cX11_removeEdge 72 = .ok (.iastore, 1) := by decide +kernel
theorem dX11_removeEdge_73 : decode cX11_removeEdge 73 = .ok (.aload_n 0, 1) := by decide +kernel
theorem dX11_removeEdge_74 : decode cX11_removeEdge 74 = .ok (.iload_n 1, 1) := by decide +kernel
theorem dX11_removeEdge_75 : decode cX11_removeEdge 75 = .ok (.invokevirtual 149, 3) := by decide +kernel
theorem dX11_removeEdge_78 : decode cX11_removeEdge 78 = .ok (.aload_n 0, 1) := by decide +kernel
theorem dX11_removeEdge_79 : decode cX11_removeEdge 79 = .ok (.iload_n 1, 1) := by decide +kernel
theorem dX11_removeEdge_80 : decode cX11_removeEdge 80 = .ok (.invokevirtual 128, 3) := by decide +kernel
theorem dX11_removeEdge_83 : decode cX11_removeEdge 83 = .ok (.ireturn, 1) := by decide +kernel
theorem dX11_targets_0 : decode cX11_targets 0 = .ok (.iload_n 1, 1) := by decide +kernel
theorem dX11_targets_1 : decode cX11_targets 1 = .ok (.invokestatic 135, 3) := by decide +kernel
theorem dX11_targets_4 : decode cX11_targets 4 = .ok (.ifCond .eq 27, 3) := by decide +kernel
theorem dX11_targets_7 : decode cX11_targets 7 = .ok (.iload_n 2, 1) := by decide +kernel
theorem dX11_targets_8 : decode cX11_targets 8 = .ok (.invokestatic 139, 3) := by decide +kernel
theorem dX11_targets_11 : decode cX11_targets 11 = .ok (.ifCond .eq 20, 3) := by decide +kernel
theorem dX11_targets_14 : decode cX11_targets 14 = .ok (.iload_n 3, 1) := by decide +kernel
theorem dX11_targets_15 : decode cX11_targets 15 = .ok (.invokestatic 142, 3) := by decide +kernel
theorem dX11_targets_18 : decode cX11_targets 18 = .ok (.ifCond .eq 13, 3) := by decide +kernel
theorem dX11_targets_21 : decode cX11_targets 21 = .ok (.aload_n 0, 1) := by decide +kernel
theorem dX11_targets_22 : decode cX11_targets 22 = .ok (.iload_n 1, 1) := by decide +kernel
theorem dX11_targets_23 : decode cX11_targets 23 = .ok (.iload_n 2, 1) := by decide +kernel
theorem dX11_targets_24 : decode cX11_targets 24 = .ok (.iload_n 3, 1) := by decide +kernel
theorem dX11_targets_25 : decode cX11_targets 25 = .ok (.invokevirtual 152, 3) := by decide +kernel
theorem dX11_targets_28 : decode cX11_targets 28 = .ok (.goto 5, 3) := by decide +kernel
theorem dX11_targets_31 : decode cX11_targets 31 = .ok (.bipush (-2), 2) := by decide +kernel
theorem dX11_targets_33 : decode cX11_targets 33 = .ok (.ireturn, 1) := by decide +kernel
theorem dX11_edges_0 : decode cX11_edges 0 = .ok (.iload_n 1, 1) := by decide +kernel
theorem dX11_edges_1 : decode cX11_edges 1 = .ok (.invokestatic 135, 3) := by decide +kernel
theorem dX11_edges_4 : decode cX11_edges 4 = .ok (.ifCond .eq 11, 3) := by decide +kernel
theorem dX11_edges_7 : decode cX11_edges 7 = .ok (.aload_n 0, 1) := by decide +kernel
theorem dX11_edges_8 : decode cX11_edges 8 = .ok (.iload_n 1, 1) := by decide +kernel
theorem dX11_edges_9 : decode cX11_edges 9 = .ok (.invokevirtual 128, 3) := by decide +kernel
theorem dX11_edges_12 : decode cX11_edges 12 = .ok (.goto 5, 3) := by decide +kernel
theorem dX11_edges_15 : decode cX11_edges 15 = .ok (.bipush (-2), 2) := by decide +kernel
theorem dX11_edges_17 : decode cX11_edges 17 = .ok (.ireturn, 1) := by decide +kernel
theorem dX11_feed_0 : decode cX11_feed 0 = .ok (.iload_n 1, 1) := by decide +kernel
theorem dX11_feed_1 : decode cX11_feed 1 = .ok (.iconst 1, 1) := by decide +kernel
theorem dX11_feed_2 : decode cX11_feed 2 = .ok (.bipush 127, 2) := by decide +kernel
theorem dX11_feed_4 : decode cX11_feed 4 = .ok (.invokestatic 118, 3) := by decide +kernel
theorem dX11_feed_7 : decode cX11_feed 7 = .ok (.ifCond .ne 6, 3) := by decide +kernel
theorem dX11_feed_10 : decode cX11_feed 10 = .ok (.bipush (-2), 2) := by decide +kernel
theorem dX11_feed_12 : decode cX11_feed 12 = .ok (.ireturn, 1) := by decide +kernel
theorem dX11_feed_13 : decode cX11_feed 13 = .ok (.aload_n 0, 1) := by decide +kernel
theorem dX11_feed_14 : decode cX11_feed 14 = .ok (.getfield 156, 3) := by decide +kernel
theorem dX11_feed_17 : decode cX11_feed 17 = .ok (.bipush 120, 2) := by decide +kernel
theorem dX11_feed_19 : decode cX11_feed 19 = .ok (.if_icmp .ne 6, 3) := by decide +kernel
theorem dX11_feed_22 : decode cX11_feed 22 = .ok (.bipush (-3), 2) := by decide +kernel
theorem dX11_feed_24 : decode cX11_feed 24 = .ok (.ireturn, 1) := by decide +kernel
theorem dX11_feed_25 : decode cX11_feed 25 = .ok (.aload_n 0, 1) := by decide +kernel
theorem dX11_feed_26 : decode cX11_feed 26 = .ok (.getfield 27, 3) := by decide +kernel
theorem dX11_feed_29 : decode cX11_feed 29 = .ok (.aload_n 0, 1) := by decide +kernel
theorem dX11_feed_30 : decode cX11_feed 30 = .ok (.getfield 156, 3) := by decide +kernel
theorem dX11_feed_33 : decode cX11_feed 33 = .ok (.iload_n 1, 1) := by decide +kernel
theorem dX11_feed_34 : decode cX11_feed 34 = .ok (.iastore, 1) := by decide +kernel
theorem dX11_feed_35 : decode cX11_feed 35 = .ok (.aload_n 0, 1) := by decide +kernel
theorem dX11_feed_36 : decode cX11_feed 36 = .ok (.dup, 1) := by decide +kernel
theorem dX11_feed_37 : decode cX11_feed 37 = .ok (.getfield 156, 3) := by decide +kernel
theorem dX11_feed_40 : decode cX11_feed 40 = .ok (.iconst 1, 1) := by decide +kernel
theorem dX11_feed_41 : decode cX11_feed 41 = .ok (.iadd, 1) := by decide +kernel
theorem dX11_feed_42 : decode cX11_feed 42 = .ok (.putfield 156, 3) := by decide +kernel
theorem dX11_feed_45 : decode cX11_feed 45 = .ok (.aload_n 0, 1) := by decide +kernel
theorem dX11_feed_46 : decode cX11_feed 46 = .ok (.getfield 156, 3) := by decide +kernel
theorem dX11_feed_49 : decode cX11_feed 49 = .ok (.ireturn, 1) := by decide +kernel
theorem dX11_stands_0 : decode cX11_stands 0 = .ok (.iload_n 0, 1) := by decide +kernel
theorem dX11_stands_1 : decode cX11_stands 1 = .ok (.iconst 1, 1) := by decide +kernel
theorem dX11_stands_2 : decode cX11_stands 2 = .ok (.if_icmp .ne 14, 3) := by decide +kernel
theorem dX11_stands_5 : decode cX11_stands 5 = .ok (.iload_n 1, 1) := by decide +kernel
theorem dX11_stands_6 : decode cX11_stands 6 = .ok (.bipush 97, 2) := by decide +kernel
theorem dX11_stands_8 : decode cX11_stands 8 = .ok (.bipush 100, 2) := by decide +kernel
theorem dX11_stands_10 : decode cX11_stands 10 = .ok (.invokestatic 118, 3) := by decide +kernel
theorem dX11_stands_13 : decode cX11_stands 13 = .ok (.goto 30, 3) := by decide +kernel
theorem dX11_stands_16 : decode cX11_stands 16 = .ok (.iload_n 0, 1) := by decide +kernel
theorem dX11_stands_17 : decode cX11_stands 17 = .ok (.iconst 3, 1) := by decide +kernel
theorem dX11_stands_18 : decode cX11_stands 18 = .ok (.if_icmp .ne 17, 3) := by decide +kernel
theorem dX11_stands_21 : decode cX11_stands 21 = .ok (.iload_n 1, 1) := by decide +kernel
theorem dX11_stands_22 : decode cX11_stands 22 = .ok (.bipush 59, 2) := by decide +kernel
theorem dX11_stands_24 : decode cX11_stands 24 = .ok (.if_icmp .ne 7, 3) := by decide +kernel
theorem dX11_stands_27 : decode cX11_stands 27 = .ok (.iconst 1, 1) := by decide +kernel
theorem dX11_stands_28 : decode cX11_stands 28 = .ok (.goto 15, 3) := by decide +kernel
theorem dX11_stands_31 : decode cX11_stands 31 = .ok (.iconst 0, 1) := by decide +kernel
theorem dX11_stands_32 : decode cX11_stands 32 = .ok (.goto 11, 3) := by decide +kernel
theorem dX11_stands_35 : decode cX11_stands 35 = .ok (.iload_n 1, 1) := by decide +kernel
theorem dX11_stands_36 : decode cX11_stands 36 = .ok (.bipush 48, 2) := by decide +kernel
theorem dX11_stands_38 : decode cX11_stands 38 = .ok (.bipush 55, 2) := by decide +kernel
theorem dX11_stands_40 : decode cX11_stands 40 = .ok (.invokestatic 118, 3) := by decide +kernel
theorem dX11_stands_43 : decode cX11_stands 43 = .ok (.ireturn, 1) := by decide +kernel
theorem dX11_parse_0 : decode cX11_parse 0 = .ok (.iload_n 1, 1) := by decide +kernel
theorem dX11_parse_1 : decode cX11_parse 1 = .ok (.invokestatic 135, 3) := by decide +kernel
theorem dX11_parse_4 : decode cX11_parse 4 = .ok (.ifCond .ne 6, 3) := by decide +kernel
theorem dX11_parse_7 : decode cX11_parse 7 = .ok (.bipush (-2), 2) := by decide +kernel
theorem dX11_parse_9 : decode cX11_parse 9 = .ok (.ireturn, 1) := by decide +kernel
theorem dX11_parse_10 : decode cX11_parse 10 = .ok (.aload_n 0, 1) := by decide +kernel
theorem dX11_parse_11 : decode cX11_parse 11 = .ok (.getfield 156, 3) := by decide +kernel
theorem dX11_parse_14 : decode cX11_parse 14 = .ok (.istore_n 2, 1) := by decide +kernel
theorem dX11_parse_15 : decode cX11_parse 15 = .ok (.aload_n 0, 1) := by decide +kernel
theorem dX11_parse_16 : decode cX11_parse 16 = .ok (.iconst 0, 1) := by decide +kernel
theorem dX11_parse_17 : decode cX11_parse 17 = .ok (.putfield 156, 3) := by decide +kernel
theorem dX11_parse_20 : decode cX11_parse 20 = .ok (.aload_n 0, 1) := by decide +kernel
theorem dX11_parse_21 : decode cX11_parse 21 = .ok (.invokevirtual 159, 3) := by decide +kernel
theorem dX11_parse_24 : decode cX11_parse 24 = .ok (.iconst 0, 1) := by decide +kernel
theorem dX11_parse_25 : decode cX11_parse 25 = .ok (.istore_n 3, 1) := by decide +kernel
theorem dX11_parse_26 : decode cX11_parse 26 = .ok (.iload_n 3, 1) := by decide +kernel
theorem dX11_parse_27 : decode cX11_parse 27 = .ok (.iload_n 2, 1) := by decide +kernel
theorem dX11_parse_28 : decode cX11_parse 28 = .ok (.if_icmp .ge 80, 3) := by decide +kernel
theorem dX11_parse_31 : decode cX11_parse 31 = .ok (.iload_n 3, 1) := by decide +kernel
theorem dX11_parse_32 : decode cX11_parse 32 = .ok (.iconst 4, 1) := by decide +kernel
theorem dX11_parse_33 : decode cX11_parse 33 = .ok (.irem, 1) := by decide +kernel
theorem dX11_parse_34 : decode cX11_parse 34 = .ok (.aload_n 0, 1) := by decide +kernel
theorem dX11_parse_35 : decode cX11_parse 35 = .ok (.getfield 27, 3) := by decide +kernel
theorem dX11_parse_38 : decode cX11_parse 38 = .ok (.iload_n 3, 1) := by decide +kernel
theorem dX11_parse_39 : decode cX11_parse 39 = .ok (.iaload, 1) := by decide +kernel
theorem dX11_parse_40 : decode cX11_parse 40 = .ok (.invokestatic 162, 3) := by decide +kernel
theorem dX11_parse_43 : decode cX11_parse 43 = .ok (.ifCond .ne 8, 3) := by decide +kernel
theorem dX11_parse_46 : decode cX11_parse 46 = .ok (.bipush (-100), 2) := by decide +kernel
theorem dX11_parse_48 : decode cX11_parse 48 = .ok (.iload_n 3, 1) := by decide +kernel
theorem dX11_parse_49 : decode cX11_parse 49 = .ok (.isub, 1) := by decide +kernel
theorem dX11_parse_50 : decode cX11_parse 50 = .ok (.ireturn, 1) := by decide +kernel
theorem dX11_parse_51 : decode cX11_parse 51 = .ok (.iload_n 3, 1) := by decide +kernel
theorem dX11_parse_52 : decode cX11_parse 52 = .ok (.iconst 4, 1) := by decide +kernel
theorem dX11_parse_53 : decode cX11_parse 53 = .ok (.irem, 1) := by decide +kernel
theorem dX11_parse_54 : decode cX11_parse 54 = .ok (.iconst 2, 1) := by decide +kernel
theorem dX11_parse_55 : decode cX11_parse 55 = .ok (.if_icmp .ne 47, 3) := by decide +kernel
theorem dX11_parse_58 : decode cX11_parse 58 = .ok (.aload_n 0, 1) := by decide +kernel
theorem dX11_parse_59 : decode cX11_parse 59 = .ok (.getfield 15, 3) := by decide +kernel
theorem dX11_parse_62 : decode cX11_parse 62 = .ok (.iconst 4, 1) := by decide +kernel
theorem dX11_parse_63 : decode cX11_parse 63 = .ok (.aload_n 0, 1) := by decide +kernel
theorem dX11_parse_64 : decode cX11_parse 64 = .ok (.getfield 27, 3) := by decide +kernel
theorem dX11_parse_67 : decode cX11_parse 67 = .ok (.iload_n 3, 1) := by decide +kernel
theorem dX11_parse_68 : decode cX11_parse 68 = .ok (.iconst 2, 1) := by decide +kernel
theorem dX11_parse_69 : decode cX11_parse 69 = .ok (.isub, 1) := by decide +kernel
theorem dX11_parse_70 : decode cX11_parse 70 = .ok (.iaload, 1) := by decide +kernel
theorem dX11_parse_71 : decode cX11_parse 71 = .ok (.bipush 48, 2) := by decide +kernel
theorem dX11_parse_73 : decode cX11_parse 73 = .ok (.isub, 1) := by decide +kernel
theorem dX11_parse_74 : decode cX11_parse 74 = .ok (.imul, 1) := by decide +kernel
theorem dX11_parse_75 : decode cX11_parse 75 = .ok (.aload_n 0, 1) := by decide +kernel
theorem dX11_parse_76 : decode cX11_parse 76 = .ok (.getfield 27, 3) := by decide +kernel
theorem dX11_parse_79 : decode cX11_parse 79 = .ok (.iload_n 3, 1) := by decide +kernel
theorem dX11_parse_80 : decode cX11_parse 80 = .ok (.iconst 1, 1) := by decide +kernel
theorem dX11_parse_81 : decode cX11_parse 81 = .ok (.isub, 1) := by decide +kernel
theorem dX11_parse_82 : decode cX11_parse 82 = .ok (.iaload, 1) := by decide +kernel
theorem dX11_parse_83 : decode cX11_parse 83 = .ok (.iadd, 1) := by decide +kernel
theorem dX11_parse_84 : decode cX11_parse 84 = .ok (.bipush 97, 2) := by decide +kernel
theorem dX11_parse_86 : decode cX11_parse 86 = .ok (.isub, 1) := by decide +kernel
theorem dX11_parse_87 : decode cX11_parse 87 = .ok (.dup2, 1) := by decide +kernel
theorem dX11_parse_88 : decode cX11_parse 88 = .ok (.iaload, 1) := by decide +kernel
theorem dX11_parse_89 : decode cX11_parse 89 = .ok (.iconst 1, 1) := by decide +kernel
theorem dX11_parse_90 : decode cX11_parse 90 = .ok (.aload_n 0, 1) := by decide +kernel
theorem dX11_parse_91 : decode cX11_parse 91 = .ok (.getfield 27, 3) := by decide +kernel
theorem dX11_parse_94 : decode cX11_parse 94 = .ok (.iload_n 3, 1) := by decide +kernel
theorem dX11_parse_95 : decode cX11_parse 95 = .ok (.iaload, 1) := by decide +kernel
theorem dX11_parse_96 : decode cX11_parse 96 = .ok (.bipush 48, 2) := by decide +kernel
theorem dX11_parse_98 : decode cX11_parse 98 = .ok (.isub, 1) := by decide +kernel
theorem dX11_parse_99 : decode cX11_parse 99 = .ok (.ishl, 1) := by decide +kernel
theorem dX11_parse_100 : decode cX11_parse 100 = .ok (.ior, 1) := by decide +kernel
theorem dX11_parse_101 : decode cX11_parse 101 = .ok (.iastore, 1) := by decide +kernel
theorem dX11_parse_102 : decode cX11_parse 102 = .ok (.iinc 3 1, 3) := by decide +kernel
theorem dX11_parse_105 : decode cX11_parse 105 = .ok (.goto (-79), 3) := by decide +kernel
theorem dX11_parse_108 : decode cX11_parse 108 = .ok (.iload_n 2, 1) := by decide +kernel
theorem dX11_parse_109 : decode cX11_parse 109 = .ok (.iconst 4, 1) := by decide +kernel
theorem dX11_parse_110 : decode cX11_parse 110 = .ok (.irem, 1) := by decide +kernel
theorem dX11_parse_111 : decode cX11_parse 111 = .ok (.iconst 3, 1) := by decide +kernel
theorem dX11_parse_112 : decode cX11_parse 112 = .ok (.if_icmp .eq 8, 3) := by decide +kernel
theorem dX11_parse_115 : decode cX11_parse 115 = .ok (.bipush (-100), 2) := by decide +kernel
theorem dX11_parse_117 : decode cX11_parse 117 = .ok (.iload_n 2, 1) := by decide +kernel
theorem dX11_parse_118 : decode cX11_parse 118 = .ok (.isub, 1) := by decide +kernel
theorem dX11_parse_119 : decode cX11_parse 119 = .ok (.ireturn, 1) := by decide +kernel
theorem dX11_parse_120 : decode cX11_parse 120 = .ok (.aload_n 0, 1) := by decide +kernel
theorem dX11_parse_121 : decode cX11_parse 121 = .ok (.iload_n 1, 1) := by decide +kernel
theorem dX11_parse_122 : decode cX11_parse 122 = .ok (.invokevirtual 149, 3) := by decide +kernel
theorem dX11_parse_125 : decode cX11_parse 125 = .ok (.aload_n 0, 1) := by decide +kernel
theorem dX11_parse_126 : decode cX11_parse 126 = .ok (.iload_n 1, 1) := by decide +kernel
theorem dX11_parse_127 : decode cX11_parse 127 = .ok (.invokevirtual 128, 3) := by decide +kernel
theorem dX11_parse_130 : decode cX11_parse 130 = .ok (.ireturn, 1) := by decide +kernel
theorem dX11_random_0 : decode cX11_random 0 = .ok (.iload_n 1, 1) := by decide +kernel
theorem dX11_random_1 : decode cX11_random 1 = .ok (.invokestatic 135, 3) := by decide +kernel
theorem dX11_random_4 : decode cX11_random 4 = .ok (.ifCond .eq 13, 3) := by decide +kernel
theorem dX11_random_7 : decode cX11_random 7 = .ok (.iload_n 3, 1) := by decide +kernel
theorem dX11_random_8 : decode cX11_random 8 = .ok (.iconst 0, 1) := by decide +kernel
theorem dX11_random_9 : decode cX11_random 9 = .ok (.bipush 24, 2) := by decide +kernel
theorem dX11_random_11 : decode cX11_random 11 = .ok (.invokestatic 118, 3) := by decide +kernel
theorem dX11_random_14 : decode cX11_random 14 = .ok (.ifCond .ne 6, 3) := by decide +kernel
theorem dX11_random_17 : decode cX11_random 17 = .ok (.bipush (-2), 2) := by decide +kernel
theorem dX11_random_19 : decode cX11_random 19 = .ok (.ireturn, 1) := by decide +kernel
theorem dX11_random_20 : decode cX11_random 20 = .ok (.aload_n 0, 1) := by decide +kernel
theorem dX11_random_21 : decode cX11_random 21 = .ok (.invokevirtual 159, 3) := by decide +kernel
theorem dX11_random_24 : decode cX11_random 24 = .ok (.iload_n 2, 1) := by decide +kernel
theorem dX11_random_25 : decode cX11_random 25 = .ok (.istore 4, 2) := by decide +kernel
theorem dX11_random_27 : decode cX11_random 27 = .ok (.iconst 0, 1) := by decide +kernel
theorem dX11_random_28 : decode cX11_random 28 = .ok (.istore 5, 2) := by decide +kernel
theorem dX11_random_30 : decode cX11_random 30 = .ok (.iload 5, 2) := by decide +kernel
theorem dX11_random_32 : decode cX11_random 32 = .ok (.iload_n 3, 1) := by decide +kernel
theorem dX11_random_33 : decode cX11_random 33 = .ok (.if_icmp .ge 86, 3) := by decide +kernel
theorem dX11_random_36 : decode cX11_random 36 = .ok (.iload 4, 2) := by decide +kernel
theorem dX11_random_38 : decode cX11_random 38 = .ok (.ldc 166, 2) := by decide +kernel
theorem dX11_random_40 : decode cX11_random 40 = .ok (.imul, 1) := by decide +kernel
theorem dX11_random_41 : decode cX11_random 41 = .ok (.sipush 12345, 3) := by decide +kernel
theorem dX11_random_44 : decode cX11_random 44 = .ok (.iadd, 1) := by decide +kernel
theorem dX11_random_45 : decode cX11_random 45 = .ok (.istore 4, 2) := by decide +kernel
theorem dX11_random_47 : decode cX11_random 47 = .ok (.iload 4, 2) := by decide +kernel
theorem dX11_random_49 : decode cX11_random 49 = .ok (.bipush 16, 2) := by decide +kernel
theorem dX11_random_51 : decode cX11_random 51 = .ok (.iushr, 1) := by decide +kernel
theorem dX11_random_52 : decode cX11_random 52 = .ok (.bipush 8, 2) := by decide +kernel
theorem dX11_random_54 : decode cX11_random 54 = .ok (.irem, 1) := by decide +kernel
theorem dX11_random_55 : decode cX11_random 55 = .ok (.istore 6, 2) := by decide +kernel
theorem dX11_random_57 : decode cX11_random 57 = .ok (.iload 4, 2) := by decide +kernel
theorem dX11_random_59 : decode cX11_random 59 = .ok (.ldc 166, 2) := by decide +kernel
theorem dX11_random_61 : decode cX11_random 61 = .ok (.imul, 1) := by decide +kernel
theorem dX11_random_62 : decode cX11_random 62 = .ok (.sipush 12345, 3) := by decide +kernel
theorem dX11_random_65 : decode cX11_random 65 = .ok (.iadd, 1) := by decide +kernel
theorem dX11_random_66 : decode cX11_random 66 = .ok (.istore 4, 2) := by decide +kernel
theorem dX11_random_68 : decode cX11_random 68 = .ok (.iload 4, 2) := by decide +kernel
theorem dX11_random_70 : decode cX11_random 70 = .ok (.bipush 16, 2) := by decide +kernel
theorem dX11_random_72 : decode cX11_random 72 = .ok (.iushr, 1) := by decide +kernel
theorem dX11_random_73 : decode cX11_random 73 = .ok (.iconst 4, 1) := by decide +kernel
theorem dX11_random_74 : decode cX11_random 74 = .ok (.irem, 1) := by decide +kernel
theorem dX11_random_75 : decode cX11_random 75 = .ok (.istore 7, 2) := by decide +kernel
theorem dX11_random_77 : decode cX11_random 77 = .ok (.iload 4, 2) := by decide +kernel
theorem dX11_random_79 : decode cX11_random 79 = .ok (.ldc 166, 2) := by decide +kernel
theorem dX11_random_81 : decode cX11_random 81 = .ok (.imul, 1) := by decide +kernel
theorem dX11_random_82 : decode cX11_random 82 = .ok (.sipush 12345, 3) := by decide +kernel
theorem dX11_random_85 : decode cX11_random 85 = .ok (.iadd, 1) := by decide +kernel
theorem dX11_random_86 : decode cX11_random 86 = .ok (.istore 4, 2) := by decide +kernel
theorem dX11_random_88 : decode cX11_random 88 = .ok (.aload_n 0, 1) := by decide +kernel
theorem dX11_random_89 : decode cX11_random 89 = .ok (.getfield 15, 3) := by decide +kernel
theorem dX11_random_92 : decode cX11_random 92 = .ok (.iconst 4, 1) := by decide +kernel
theorem dX11_random_93 : decode cX11_random 93 = .ok (.iload 6, 2) := by decide +kernel
theorem dX11_random_95 : decode cX11_random 95 = .ok (.imul, 1) := by decide +kernel
theorem dX11_random_96 : decode cX11_random 96 = .ok (.iload 7, 2) := by decide +kernel
theorem dX11_random_98 : decode cX11_random 98 = .ok (.iadd, 1) := by decide +kernel
theorem dX11_random_99 : decode cX11_random 99 = .ok (.dup2, 1) := by decide +kernel
theorem dX11_random_100 : decode cX11_random 100 = .ok (.iaload, 1) := by decide +kernel
theorem dX11_random_101 : decode cX11_random 101 = .ok (.iconst 1, 1) := by decide +kernel
theorem dX11_random_102 : decode cX11_random 102 = .ok (.iload 4, 2) := by decide +kernel
theorem dX11_random_104 : decode cX11_random 104 = .ok (.bipush 16, 2) := by decide +kernel
theorem dX11_random_106 : decode cX11_random 106 = .ok (.iushr, 1) := by decide +kernel
theorem dX11_random_107 : decode cX11_random 107 = .ok (.bipush 8, 2) := by decide +kernel
theorem dX11_random_109 : decode cX11_random 109 = .ok (.irem, 1) := by decide +kernel
theorem dX11_random_110 : decode cX11_random 110 = .ok (.ishl, 1) := by decide +kernel
theorem dX11_random_111 : decode cX11_random 111 = .ok (.ior, 1) := by decide +kernel
theorem dX11_random_112 : decode cX11_random 112 = .ok (.iastore, 1) := by decide +kernel
theorem dX11_random_113 : decode cX11_random 113 = .ok (.iinc 5 1, 3) := by decide +kernel
theorem dX11_random_116 : decode cX11_random 116 = .ok (.goto (-86), 3) := by decide +kernel
theorem dX11_random_119 : decode cX11_random 119 = .ok (.aload_n 0, 1) := by decide +kernel
theorem dX11_random_120 : decode cX11_random 120 = .ok (.iload_n 1, 1) := by decide +kernel
theorem dX11_random_121 : decode cX11_random 121 = .ok (.invokevirtual 149, 3) := by decide +kernel
theorem dX11_random_124 : decode cX11_random 124 = .ok (.aload_n 0, 1) := by decide +kernel
theorem dX11_random_125 : decode cX11_random 125 = .ok (.iload_n 1, 1) := by decide +kernel
theorem dX11_random_126 : decode cX11_random 126 = .ok (.invokevirtual 128, 3) := by decide +kernel
theorem dX11_random_129 : decode cX11_random 129 = .ok (.ireturn, 1) := by decide +kernel
theorem dX11_readWord_0 : decode cX11_readWord 0 = .ok (.aload_n 0, 1) := by decide +kernel
theorem dX11_readWord_1 : decode cX11_readWord 1 = .ok (.aload_n 0, 1) := by decide +kernel
theorem dX11_readWord_2 : decode cX11_readWord 2 = .ok (.getfield 156, 3) := by decide +kernel
theorem dX11_readWord_5 : decode cX11_readWord 5 = .ok (.putfield 167, 3) := by decide +kernel
theorem dX11_readWord_8 : decode cX11_readWord 8 = .ok (.aload_n 0, 1) := by decide +kernel
theorem dX11_readWord_9 : decode cX11_readWord 9 = .ok (.iconst 0, 1) := by decide +kernel
theorem dX11_readWord_10 : decode cX11_readWord 10 = .ok (.putfield 156, 3) := by decide +kernel
theorem dX11_readWord_13 : decode cX11_readWord 13 = .ok (.iconst 0, 1) := by decide +kernel
theorem dX11_readWord_14 : decode cX11_readWord 14 = .ok (.istore_n 1, 1) := by decide +kernel
theorem dX11_readWord_15 : decode cX11_readWord 15 = .ok (.iload_n 1, 1) := by decide +kernel
theorem dX11_readWord_16 : decode cX11_readWord 16 = .ok (.aload_n 0, 1) := by decide +kernel
theorem dX11_readWord_17 : decode cX11_readWord 17 = .ok (.getfield 167, 3) := by decide +kernel
theorem dX11_readWord_20 : decode cX11_readWord 20 = .ok (.if_icmp .ge 42, 3) := by decide +kernel
theorem dX11_readWord_23 : decode cX11_readWord 23 = .ok (.aload_n 0, 1) := by decide +kernel
theorem dX11_readWord_24 : decode cX11_readWord 24 = .ok (.getfield 27, 3) := by decide +kernel
theorem dX11_readWord_27 : decode cX11_readWord 27 = .ok (.iload_n 1, 1) := by decide +kernel
theorem dX11_readWord_28 : decode cX11_readWord 28 = .ok (.iaload, 1) := by decide +kernel
theorem dX11_readWord_29 : decode cX11_readWord 29 = .ok (.bipush 97, 2) := by decide +kernel
theorem dX11_readWord_31 : decode cX11_readWord 31 = .ok (.bipush 100, 2) := by decide +kernel
theorem dX11_readWord_33 : decode cX11_readWord 33 = .ok (.invokestatic 118, 3) := by decide +kernel
theorem dX11_readWord_36 : decode cX11_readWord 36 = .ok (.ifCond .ne 5, 3) := by decide +kernel
theorem dX11_readWord_39 : decode cX11_readWord 39 = .ok (.iload_n 1, 1) := by decide +kernel
theorem dX11_readWord_40 : decode cX11_readWord 40 = .ok (.ireturn, 1) := by decide +kernel
theorem dX11_readWord_41 : decode cX11_readWord 41 = .ok (.aload_n 0, 1) := by decide +kernel
theorem dX11_readWord_42 : decode cX11_readWord 42 = .ok (.getfield 33, 3) := by decide +kernel
theorem dX11_readWord_45 : decode cX11_readWord 45 = .ok (.iload_n 1, 1) := by decide +kernel
theorem dX11_readWord_46 : decode cX11_readWord 46 = .ok (.aload_n 0, 1) := by decide +kernel
theorem dX11_readWord_47 : decode cX11_readWord 47 = .ok (.getfield 27, 3) := by decide +kernel
theorem dX11_readWord_50 : decode cX11_readWord 50 = .ok (.iload_n 1, 1) := by decide +kernel
theorem dX11_readWord_51 : decode cX11_readWord 51 = .ok (.iaload, 1) := by decide +kernel
theorem dX11_readWord_52 : decode cX11_readWord 52 = .ok (.bipush 97, 2) := by decide +kernel
theorem dX11_readWord_54 : decode cX11_readWord 54 = .ok (.isub, 1) := by decide +kernel
theorem dX11_readWord_55 : decode cX11_readWord 55 = .ok (.iastore, 1) := by decide +kernel
theorem dX11_readWord_56 : decode cX11_readWord 56 = .ok (.iinc 1 1, 3) := by decide +kernel
theorem dX11_readWord_59 : decode cX11_readWord 59 = .ok (.goto (-44), 3) := by decide +kernel
theorem dX11_readWord_62 : decode cX11_readWord 62 = .ok (.iconst (-1), 1) := by decide +kernel
theorem dX11_readWord_63 : decode cX11_readWord 63 = .ok (.ireturn, 1) := by decide +kernel
theorem dX11_writeOut_0 : decode cX11_writeOut 0 = .ok (.iconst 0, 1) := by decide +kernel
theorem dX11_writeOut_1 : decode cX11_writeOut 1 = .ok (.istore_n 1, 1) := by decide +kernel
theorem dX11_writeOut_2 : decode cX11_writeOut 2 = .ok (.iload_n 1, 1) := by decide +kernel
theorem dX11_writeOut_3 : decode cX11_writeOut 3 = .ok (.aload_n 0, 1) := by decide +kernel
theorem dX11_writeOut_4 : decode cX11_writeOut 4 = .ok (.getfield 167, 3) := by decide +kernel
theorem dX11_writeOut_7 : decode cX11_writeOut 7 = .ok (.if_icmp .ge 24, 3) := by decide +kernel
theorem dX11_writeOut_10 : decode cX11_writeOut 10 = .ok (.aload_n 0, 1) := by decide +kernel
theorem dX11_writeOut_11 : decode cX11_writeOut 11 = .ok (.getfield 30, 3) := by decide +kernel
theorem dX11_writeOut_14 : decode cX11_writeOut 14 = .ok (.iload_n 1, 1) := by decide +kernel
theorem dX11_writeOut_15 : decode cX11_writeOut 15 = .ok (.bipush 97, 2) := by decide +kernel
theorem dX11_writeOut_17 : decode cX11_writeOut 17 = .ok (.aload_n 0, 1) := by decide +kernel
theorem dX11_writeOut_18 : decode cX11_writeOut 18 = .ok (.getfield 33, 3) := by decide +kernel
theorem dX11_writeOut_21 : decode cX11_writeOut 21 = .ok (.iload_n 1, 1) := by decide +kernel
theorem dX11_writeOut_22 : decode cX11_writeOut 22 = .ok (.iaload, 1) := by decide +kernel
theorem dX11_writeOut_23 : decode cX11_writeOut 23 = .ok (.iadd, 1) := by decide +kernel
theorem dX11_writeOut_24 : decode cX11_writeOut 24 = .ok (.iastore, 1) := by decide +kernel
theorem dX11_writeOut_25 : decode cX11_writeOut 25 = .ok (.iinc 1 1, 3) := by decide +kernel
theorem dX11_writeOut_28 : decode cX11_writeOut 28 = .ok (.goto (-26), 3) := by decide +kernel
theorem dX11_writeOut_31 : decode cX11_writeOut 31 = .ok (.aload_n 0, 1) := by decide +kernel
theorem dX11_writeOut_32 : decode cX11_writeOut 32 = .ok (.aload_n 0, 1) := by decide +kernel
theorem dX11_writeOut_33 : decode cX11_writeOut 33 = .ok (.getfield 167, 3) := by decide +kernel
theorem dX11_writeOut_36 : decode cX11_writeOut 36 = .ok (.putfield 170, 3) := by decide +kernel
theorem dX11_writeOut_39 : decode cX11_writeOut 39 = .ok (.aload_n 0, 1) := by decide +kernel
theorem dX11_writeOut_40 : decode cX11_writeOut 40 = .ok (.getfield 167, 3) := by decide +kernel
theorem dX11_writeOut_43 : decode cX11_writeOut 43 = .ok (.ireturn, 1) := by decide +kernel
theorem dX11_output_0 : decode cX11_output 0 = .ok (.iload_n 1, 1) := by decide +kernel
theorem dX11_output_1 : decode cX11_output 1 = .ok (.iconst 0, 1) := by decide +kernel
theorem dX11_output_2 : decode cX11_output 2 = .ok (.aload_n 0, 1) := by decide +kernel
theorem dX11_output_3 : decode cX11_output 3 = .ok (.getfield 170, 3) := by decide +kernel
theorem dX11_output_6 : decode cX11_output 6 = .ok (.iconst 1, 1) := by decide +kernel
theorem dX11_output_7 : decode cX11_output 7 = .ok (.isub, 1) := by decide +kernel
theorem dX11_output_8 : decode cX11_output 8 = .ok (.invokestatic 118, 3) := by decide +kernel
theorem dX11_output_11 : decode cX11_output 11 = .ok (.ifCond .eq 12, 3) := by decide +kernel
theorem dX11_output_14 : decode cX11_output 14 = .ok (.aload_n 0, 1) := by decide +kernel
theorem dX11_output_15 : decode cX11_output 15 = .ok (.getfield 30, 3) := by decide +kernel
theorem dX11_output_18 : decode cX11_output 18 = .ok (.iload_n 1, 1) := by decide +kernel
theorem dX11_output_19 : decode cX11_output 19 = .ok (.iaload, 1) := by decide +kernel
theorem dX11_output_20 : decode cX11_output 20 = .ok (.goto 4, 3) := by decide +kernel
theorem dX11_output_23 : decode cX11_output 23 = .ok (.iconst (-1), 1) := by decide +kernel
theorem dX11_output_24 : decode cX11_output 24 = .ok (.ireturn, 1) := by decide +kernel
theorem dX11_sign_0 : decode cX11_sign 0 = .ok (.aload_n 0, 1) := by decide +kernel
theorem dX11_sign_1 : decode cX11_sign 1 = .ok (.getfield 30, 3) := by decide +kernel
theorem dX11_sign_4 : decode cX11_sign 4 = .ok (.aload_n 0, 1) := by decide +kernel
theorem dX11_sign_5 : decode cX11_sign 5 = .ok (.getfield 170, 3) := by decide +kernel
theorem dX11_sign_8 : decode cX11_sign 8 = .ok (.iload_n 1, 1) := by decide +kernel
theorem dX11_sign_9 : decode cX11_sign 9 = .ok (.iastore, 1) := by decide +kernel
theorem dX11_sign_10 : decode cX11_sign 10 = .ok (.aload_n 0, 1) := by decide +kernel
theorem dX11_sign_11 : decode cX11_sign 11 = .ok (.dup, 1) := by decide +kernel
theorem dX11_sign_12 : decode cX11_sign 12 = .ok (.getfield 170, 3) := by decide +kernel
theorem dX11_sign_15 : decode cX11_sign 15 = .ok (.iconst 1, 1) := by decide +kernel
theorem dX11_sign_16 : decode cX11_sign 16 = .ok (.iadd, 1) := by decide +kernel
theorem dX11_sign_17 : decode cX11_sign 17 = .ok (.putfield 170, 3) := by decide +kernel
theorem dX11_sign_20 : decode cX11_sign 20 = .ok (.return_, 1) := by decide +kernel
theorem dX11_writeGraph_0 : decode cX11_writeGraph 0 = .ok (.iload_n 1, 1) := by decide +kernel
theorem dX11_writeGraph_1 : decode cX11_writeGraph 1 = .ok (.invokestatic 135, 3) := by decide +kernel
theorem dX11_writeGraph_4 : decode cX11_writeGraph 4 = .ok (.ifCond .ne 6, 3) := by decide +kernel
theorem dX11_writeGraph_7 : decode cX11_writeGraph 7 = .ok (.bipush (-2), 2) := by decide +kernel
theorem dX11_writeGraph_9 : decode cX11_writeGraph 9 = .ok (.ireturn, 1) := by decide +kernel
theorem dX11_writeGraph_10 : decode cX11_writeGraph 10 = .ok (.aload_n 0, 1) := by decide +kernel
theorem dX11_writeGraph_11 : decode cX11_writeGraph 11 = .ok (.iconst 0, 1) := by decide +kernel
theorem dX11_writeGraph_12 : decode cX11_writeGraph 12 = .ok (.putfield 170, 3) := by decide +kernel
theorem dX11_writeGraph_15 : decode cX11_writeGraph 15 = .ok (.iconst 0, 1) := by decide +kernel
theorem dX11_writeGraph_16 : decode cX11_writeGraph 16 = .ok (.istore_n 2, 1) := by decide +kernel
theorem dX11_writeGraph_17 : decode cX11_writeGraph 17 = .ok (.iload_n 2, 1) := by decide +kernel
theorem dX11_writeGraph_18 : decode cX11_writeGraph 18 = .ok (.sipush 256, 3) := by decide +kernel
theorem dX11_writeGraph_21 : decode cX11_writeGraph 21 = .ok (.if_icmp .ge 82, 3) := by decide +kernel
theorem dX11_writeGraph_24 : decode cX11_writeGraph 24 = .ok (.iload_n 2, 1) := by decide +kernel
theorem dX11_writeGraph_25 : decode cX11_writeGraph 25 = .ok (.bipush 32, 2) := by decide +kernel
theorem dX11_writeGraph_27 : decode cX11_writeGraph 27 = .ok (.idiv, 1) := by decide +kernel
theorem dX11_writeGraph_28 : decode cX11_writeGraph 28 = .ok (.istore_n 3, 1) := by decide +kernel
theorem dX11_writeGraph_29 : decode cX11_writeGraph 29 = .ok (.iload_n 2, 1) := by decide +kernel
theorem dX11_writeGraph_30 : decode cX11_writeGraph 30 = .ok (.bipush 8, 2) := by decide +kernel
theorem dX11_writeGraph_32 : decode cX11_writeGraph 32 = .ok (.idiv, 1) := by decide +kernel
theorem dX11_writeGraph_33 : decode cX11_writeGraph 33 = .ok (.iconst 4, 1) := by decide +kernel
theorem dX11_writeGraph_34 : decode cX11_writeGraph 34 = .ok (.irem, 1) := by decide +kernel
theorem dX11_writeGraph_35 : decode cX11_writeGraph 35 = .ok (.istore 4, 2) := by decide +kernel
theorem dX11_writeGraph_37 : decode cX11_writeGraph 37 = .ok (.aload_n 0, 1) := by decide +kernel
theorem dX11_writeGraph_38 : decode cX11_writeGraph 38 = .ok (.iload_n 1, 1) := by decide +kernel
theorem dX11_writeGraph_39 : decode cX11_writeGraph 39 = .ok (.iload_n 3, 1) := by decide +kernel
theorem dX11_writeGraph_40 : decode cX11_writeGraph 40 = .ok (.iload 4, 2) := by decide +kernel
theorem dX11_writeGraph_42 : decode cX11_writeGraph 42 = .ok (.invokevirtual 152, 3) := by decide +kernel
theorem dX11_writeGraph_45 : decode cX11_writeGraph 45 = .ok (.iload_n 2, 1) := by decide +kernel
theorem dX11_writeGraph_46 : decode cX11_writeGraph 46 = .ok (.bipush 8, 2) := by decide +kernel
theorem dX11_writeGraph_48 : decode cX11_writeGraph 48 = .ok (.irem, 1) := by decide +kernel
theorem dX11_writeGraph_49 : decode cX11_writeGraph 49 = .ok (.ishr, 1) := by decide +kernel
theorem dX11_writeGraph_50 : decode cX11_writeGraph 50 = .ok (.iconst 1, 1) := by decide +kernel
theorem dX11_writeGraph_51 : decode cX11_writeGraph 51 = .ok (.iand, 1) := by decide +kernel
theorem dX11_writeGraph_52 : decode cX11_writeGraph 52 = .ok (.iconst 1, 1) := by decide +kernel
theorem dX11_writeGraph_53 : decode cX11_writeGraph 53 = .ok (.if_icmp .ne 44, 3) := by decide +kernel
theorem dX11_writeGraph_56 : decode cX11_writeGraph 56 = .ok (.aload_n 0, 1) := by decide +kernel
theorem dX11_writeGraph_57 : decode cX11_writeGraph 57 = .ok (.getfield 170, 3) := by decide +kernel
theorem dX11_writeGraph_60 : decode cX11_writeGraph 60 = .ok (.ifCond .le 9, 3) := by decide +kernel
theorem dX11_writeGraph_63 : decode cX11_writeGraph 63 = .ok (.aload_n 0, 1) := by decide +kernel
theorem dX11_writeGraph_64 : decode cX11_writeGraph 64 = .ok (.bipush 59, 2) := by decide +kernel
theorem dX11_writeGraph_66 : decode cX11_writeGraph 66 = .ok (.invokevirtual 173, 3) := by decide +kernel
theorem dX11_writeGraph_69 : decode cX11_writeGraph 69 = .ok (.aload_n 0, 1) := by decide +kernel
theorem dX11_writeGraph_70 : decode cX11_writeGraph 70 = .ok (.bipush 48, 2) := by decide +kernel
theorem dX11_writeGraph_72 : decode cX11_writeGraph 72 = .ok (.iload_n 3, 1) := by decide +kernel
theorem dX11_writeGraph_73 : decode cX11_writeGraph 73 = .ok (.iadd, 1) := by decide +kernel
theorem dX11_writeGraph_74 : decode cX11_writeGraph 74 = .ok (.invokevirtual 173, 3) := by decide +kernel
theorem dX11_writeGraph_77 : decode cX11_writeGraph 77 = .ok (.aload_n 0, 1) := by decide +kernel
theorem dX11_writeGraph_78 : decode cX11_writeGraph 78 = .ok (.bipush 97, 2) := by decide +kernel
theorem dX11_writeGraph_80 : decode cX11_writeGraph 80 = .ok (.iload 4, 2) := by decide +kernel
theorem dX11_writeGraph_82 : decode cX11_writeGraph 82 = .ok (.iadd, 1) := by decide +kernel
theorem dX11_writeGraph_83 : decode cX11_writeGraph 83 = .ok (.invokevirtual 173, 3) := by decide +kernel
theorem dX11_writeGraph_86 : decode cX11_writeGraph 86 = .ok (.aload_n 0, 1) := by decide +kernel
theorem dX11_writeGraph_87 : decode cX11_writeGraph 87 = .ok (.bipush 48, 2) := by decide +kernel
theorem dX11_writeGraph_89 : decode cX11_writeGraph 89 = .ok (.iload_n 2, 1) := by decide +kernel
theorem dX11_writeGraph_90 : decode cX11_writeGraph 90 = .ok (.bipush 8, 2) := by decide +kernel
theorem dX11_writeGraph_92 : decode cX11_writeGraph 92 = .ok (.irem, 1) := by decide +kernel
theorem dX11_writeGraph_93 : decode cX11_writeGraph 93 = .ok (.iadd, 1) := by decide +kernel
theorem dX11_writeGraph_94 : decode cX11_writeGraph 94 = .ok (.invokevirtual 173, 3) := by decide +kernel
theorem dX11_writeGraph_97 : decode cX11_writeGraph 97 = .ok (.iinc 2 1, 3) := by decide +kernel
theorem dX11_writeGraph_100 : decode cX11_writeGraph 100 = .ok (.goto (-83), 3) := by decide +kernel
theorem dX11_writeGraph_103 : decode cX11_writeGraph 103 = .ok (.aload_n 0, 1) := by decide +kernel
theorem dX11_writeGraph_104 : decode cX11_writeGraph 104 = .ok (.getfield 170, 3) := by decide +kernel
theorem dX11_writeGraph_107 : decode cX11_writeGraph 107 = .ok (.ireturn, 1) := by decide +kernel
theorem dX11_unionOf_0 : decode cX11_unionOf 0 = .ok (.aload_n 0, 1) := by decide +kernel
theorem dX11_unionOf_1 : decode cX11_unionOf 1 = .ok (.iload_n 1, 1) := by decide +kernel
theorem dX11_unionOf_2 : decode cX11_unionOf 2 = .ok (.iload_n 2, 1) := by decide +kernel
theorem dX11_unionOf_3 : decode cX11_unionOf 3 = .ok (.iconst 0, 1) := by decide +kernel
theorem dX11_unionOf_4 : decode cX11_unionOf 4 = .ok (.invokevirtual 152, 3) := by decide +kernel
theorem dX11_unionOf_7 : decode cX11_unionOf 7 = .ok (.aload_n 0, 1) := by decide +kernel
theorem dX11_unionOf_8 : decode cX11_unionOf 8 = .ok (.iload_n 1, 1) := by decide +kernel
theorem dX11_unionOf_9 : decode cX11_unionOf 9 = .ok (.iload_n 2, 1) := by decide +kernel
theorem dX11_unionOf_10 : decode cX11_unionOf 10 = .ok (.iconst 1, 1) := by decide +kernel
theorem dX11_unionOf_11 : decode cX11_unionOf 11 = .ok (.invokevirtual 152, 3) := by decide +kernel
theorem dX11_unionOf_14 : decode cX11_unionOf 14 = .ok (.ior, 1) := by decide +kernel
theorem dX11_unionOf_15 : decode cX11_unionOf 15 = .ok (.aload_n 0, 1) := by decide +kernel
theorem dX11_unionOf_16 : decode cX11_unionOf 16 = .ok (.iload_n 1, 1) := by decide +kernel
theorem dX11_unionOf_17 : decode cX11_unionOf 17 = .ok (.iload_n 2, 1) := by decide +kernel
theorem dX11_unionOf_18 : decode cX11_unionOf 18 = .ok (.iconst 2, 1) := by decide +kernel
theorem dX11_unionOf_19 : decode cX11_unionOf 19 = .ok (.invokevirtual 152, 3) := by decide +kernel
theorem dX11_unionOf_22 : decode cX11_unionOf 22 = .ok (.ior, 1) := by decide +kernel
theorem dX11_unionOf_23 : decode cX11_unionOf 23 = .ok (.aload_n 0, 1) := by decide +kernel
theorem dX11_unionOf_24 : decode cX11_unionOf 24 = .ok (.iload_n 1, 1) := by decide +kernel
theorem dX11_unionOf_25 : decode cX11_unionOf 25 = .ok (.iload_n 2, 1) := by decide +kernel
theorem dX11_unionOf_26 : decode cX11_unionOf 26 = .ok (.iconst 3, 1) := by decide +kernel
theorem dX11_unionOf_27 : decode cX11_unionOf 27 = .ok (.invokevirtual 152, 3) := by decide +kernel
theorem dX11_unionOf_30 : decode cX11_unionOf 30 = .ok (.ior, 1) := by decide +kernel
theorem dX11_unionOf_31 : decode cX11_unionOf 31 = .ok (.ireturn, 1) := by decide +kernel
theorem dX11_essentialOf_0 : decode cX11_essentialOf 0 = .ok (.sipush 255, 3) := by decide +kernel
theorem dX11_essentialOf_3 : decode cX11_essentialOf 3 = .ok (.istore_n 2, 1) := by decide +kernel
theorem dX11_essentialOf_4 : decode cX11_essentialOf 4 = .ok (.iconst 0, 1) := by decide +kernel
theorem dX11_essentialOf_5 : decode cX11_essentialOf 5 = .ok (.istore_n 3, 1) := by decide +kernel
theorem dX11_essentialOf_6 : decode cX11_essentialOf 6 = .ok (.iload_n 2, 1) := by decide +kernel
theorem dX11_essentialOf_7 : decode cX11_essentialOf 7 = .ok (.iload_n 3, 1) := by decide +kernel
theorem dX11_essentialOf_8 : decode cX11_essentialOf 8 = .ok (.if_icmp .eq 85, 3) := by decide +kernel
theorem dX11_essentialOf_11 : decode cX11_essentialOf 11 = .ok (.iload_n 2, 1) := by decide +kernel
theorem dX11_essentialOf_12 : decode cX11_essentialOf 12 = .ok (.istore_n 3, 1) := by decide +kernel
theorem dX11_essentialOf_13 : decode cX11_essentialOf 13 = .ok (.iconst 0, 1) := by decide +kernel
theorem dX11_essentialOf_14 : decode cX11_essentialOf 14 = .ok (.istore 4, 2) := by decide +kernel
theorem dX11_essentialOf_16 : decode cX11_essentialOf 16 = .ok (.iconst 0, 1) := by decide +kernel
theorem dX11_essentialOf_17 : decode cX11_essentialOf 17 = .ok (.istore 5, 2) := by decide +kernel
theorem dX11_essentialOf_19 : decode cX11_essentialOf 19 = .ok (.iconst 0, 1) := by decide +kernel
theorem dX11_essentialOf_20 : decode cX11_essentialOf 20 = .ok (.istore 6, 2) := by decide +kernel
theorem dX11_essentialOf_22 : decode cX11_essentialOf 22 = .ok (.iload 6, 2) := by decide +kernel
theorem dX11_essentialOf_24 : decode cX11_essentialOf 24 = .ok (.bipush 8, 2) := by decide +kernel
theorem dX11_essentialOf_26 : decode cX11_essentialOf 26 = .ok (.if_icmp .ge 56, 3) := by decide +kernel
theorem dX11_essentialOf_29 : decode cX11_essentialOf 29 = .ok (.iload_n 2, 1) := by decide +kernel
theorem dX11_essentialOf_30 : decode cX11_essentialOf 30 = .ok (.iload 6, 2) := by decide +kernel
theorem dX11_essentialOf_32 : decode cX11_essentialOf 32 = .ok (.ishr, 1) := by decide +kernel
theorem dX11_essentialOf_33 : decode cX11_essentialOf 33 = .ok (.iconst 1, 1) := by decide +kernel
theorem dX11_essentialOf_34 : decode cX11_essentialOf 34 = .ok (.iand, 1) := by decide +kernel
theorem dX11_essentialOf_35 : decode cX11_essentialOf 35 = .ok (.iconst 1, 1) := by decide +kernel
theorem dX11_essentialOf_36 : decode cX11_essentialOf 36 = .ok (.if_icmp .ne 40, 3) := by decide +kernel
theorem dX11_essentialOf_39 : decode cX11_essentialOf 39 = .ok (.iload 4, 2) := by decide +kernel
theorem dX11_essentialOf_41 : decode cX11_essentialOf 41 = .ok (.aload_n 0, 1) := by decide +kernel
theorem dX11_essentialOf_42 : decode cX11_essentialOf 42 = .ok (.iload_n 1, 1) := by decide +kernel
theorem dX11_essentialOf_43 : decode cX11_essentialOf 43 = .ok (.iload 6, 2) := by decide +kernel
theorem dX11_essentialOf_45 : decode cX11_essentialOf 45 = .ok (.invokevirtual 176, 3) := by decide +kernel
theorem dX11_essentialOf_48 : decode cX11_essentialOf 48 = .ok (.ior, 1) := by decide +kernel
theorem dX11_essentialOf_49 : decode cX11_essentialOf 49 = .ok (.istore 4, 2) := by decide +kernel
theorem dX11_essentialOf_51 : decode cX11_essentialOf 51 = .ok (.iload 5, 2) := by decide +kernel
theorem dX11_essentialOf_53 : decode cX11_essentialOf 53 = .ok (.aload_n 0, 1) := by decide +kernel
theorem dX11_essentialOf_54 : decode cX11_essentialOf 54 = .ok (.iload_n 1, 1) := by decide +kernel
theorem dX11_essentialOf_55 : decode cX11_essentialOf 55 = .ok (.iload 6, 2) := by decide +kernel
theorem dX11_essentialOf_57 : decode cX11_essentialOf 57 = .ok (.invokevirtual 176, 3) := by decide +kernel
theorem dX11_essentialOf_60 : decode cX11_essentialOf 60 = .ok (.iload_n 2, 1) := by decide +kernel
theorem dX11_essentialOf_61 : decode cX11_essentialOf 61 = .ok (.iand, 1) := by decide +kernel
theorem dX11_essentialOf_62 : decode cX11_essentialOf 62 = .ok (.ifCond .eq 10, 3) := by decide +kernel
theorem dX11_essentialOf_65 : decode cX11_essentialOf 65 = .ok (.iconst 1, 1) := by decide +kernel
theorem dX11_essentialOf_66 : decode cX11_essentialOf 66 = .ok (.iload 6, 2) := by decide +kernel
theorem dX11_essentialOf_68 : decode cX11_essentialOf 68 = .ok (.ishl, 1) := by decide +kernel
theorem dX11_essentialOf_69 : decode cX11_essentialOf 69 = .ok (.goto 4, 3) := by decide +kernel
theorem dX11_essentialOf_72 : decode cX11_essentialOf 72 = .ok (.iconst 0, 1) := by decide +kernel
theorem dX11_essentialOf_73 : decode cX11_essentialOf 73 = .ok (.ior, 1) := by decide +kernel
theorem dX11_essentialOf_74 : decode cX11_essentialOf 74 = .ok (.istore 5, 2) := by decide +kernel
theorem dX11_essentialOf_76 : decode cX11_essentialOf 76 = .ok (.iinc 6 1, 3) := by decide +kernel
theorem dX11_essentialOf_79 : decode cX11_essentialOf 79 = .ok (.goto (-57), 3) := by decide +kernel
theorem dX11_essentialOf_82 : decode cX11_essentialOf 82 = .ok (.iload_n 2, 1) := by decide +kernel
theorem dX11_essentialOf_83 : decode cX11_essentialOf 83 = .ok (.iload 4, 2) := by decide +kernel
theorem dX11_essentialOf_85 : decode cX11_essentialOf 85 = .ok (.iload 5, 2) := by decide +kernel
theorem dX11_essentialOf_87 : decode cX11_essentialOf 87 = .ok (.iand, 1) := by decide +kernel
theorem dX11_essentialOf_88 : decode cX11_essentialOf 88 = .ok (.iand, 1) := by decide +kernel
theorem dX11_essentialOf_89 : decode cX11_essentialOf 89 = .ok (.istore_n 2, 1) := by decide +kernel
theorem dX11_essentialOf_90 : decode cX11_essentialOf 90 = .ok (.goto (-84), 3) := by decide +kernel
theorem dX11_essentialOf_93 : decode cX11_essentialOf 93 = .ok (.iload_n 2, 1) := by decide +kernel
theorem dX11_essentialOf_94 : decode cX11_essentialOf 94 = .ok (.ireturn, 1) := by decide +kernel
theorem dX11_essential_0 : decode cX11_essential 0 = .ok (.iload_n 1, 1) := by decide +kernel
theorem dX11_essential_1 : decode cX11_essential 1 = .ok (.invokestatic 135, 3) := by decide +kernel
theorem dX11_essential_4 : decode cX11_essential 4 = .ok (.ifCond .eq 11, 3) := by decide +kernel
theorem dX11_essential_7 : decode cX11_essential 7 = .ok (.aload_n 0, 1) := by decide +kernel
theorem dX11_essential_8 : decode cX11_essential 8 = .ok (.iload_n 1, 1) := by decide +kernel
theorem dX11_essential_9 : decode cX11_essential 9 = .ok (.invokevirtual 180, 3) := by decide +kernel
theorem dX11_essential_12 : decode cX11_essential 12 = .ok (.goto 5, 3) := by decide +kernel
theorem dX11_essential_15 : decode cX11_essential 15 = .ok (.bipush (-2), 2) := by decide +kernel
theorem dX11_essential_17 : decode cX11_essential 17 = .ok (.ireturn, 1) := by decide +kernel
theorem dX11_image_0 : decode cX11_image 0 = .ok (.iconst 0, 1) := by decide +kernel
theorem dX11_image_1 : decode cX11_image 1 = .ok (.istore 4, 2) := by decide +kernel
theorem dX11_image_3 : decode cX11_image 3 = .ok (.iconst 0, 1) := by decide +kernel
theorem dX11_image_4 : decode cX11_image 4 = .ok (.istore 5, 2) := by decide +kernel
theorem dX11_image_6 : decode cX11_image 6 = .ok (.iload 5, 2) := by decide +kernel
theorem dX11_image_8 : decode cX11_image 8 = .ok (.bipush 8, 2) := by decide +kernel
theorem dX11_image_10 : decode cX11_image 10 = .ok (.if_icmp .ge 36, 3) := by decide +kernel
theorem dX11_image_13 : decode cX11_image 13 = .ok (.iload 4, 2) := by decide +kernel
theorem dX11_image_15 : decode cX11_image 15 = .ok (.iload_n 2, 1) := by decide +kernel
theorem dX11_image_16 : decode cX11_image 16 = .ok (.iload 5, 2) := by decide +kernel
theorem dX11_image_18 : decode cX11_image 18 = .ok (.ishr, 1) := by decide +kernel
theorem dX11_image_19 : decode cX11_image 19 = .ok (.iconst 1, 1) := by decide +kernel
theorem dX11_image_20 : decode cX11_image 20 = .ok (.iand, 1) := by decide +kernel
theorem dX11_image_21 : decode cX11_image 21 = .ok (.iconst 1, 1) := by decide +kernel
theorem dX11_image_22 : decode cX11_image 22 = .ok (.if_icmp .ne 14, 3) := by decide +kernel
theorem dX11_image_25 : decode cX11_image 25 = .ok (.aload_n 0, 1) := by decide +kernel
theorem dX11_image_26 : decode cX11_image 26 = .ok (.iload_n 1, 1) := by decide +kernel
theorem dX11_image_27 : decode cX11_image 27 = .ok (.iload 5, 2) := by decide +kernel
theorem dX11_image_29 : decode cX11_image 29 = .ok (.iload_n 3, 1) := by decide +kernel
theorem dX11_image_30 : decode cX11_image 30 = .ok (.invokevirtual 152, 3) := by decide +kernel
theorem dX11_image_33 : decode cX11_image 33 = .ok (.goto 4, 3) := by decide +kernel
theorem dX11_image_36 : decode cX11_image 36 = .ok (.iconst 0, 1) := by decide +kernel
theorem dX11_image_37 : decode cX11_image 37 = .ok (.ior, 1) := by decide +kernel
theorem dX11_image_38 : decode cX11_image 38 = .ok (.istore 4, 2) := by decide +kernel
theorem dX11_image_40 : decode cX11_image 40 = .ok (.iinc 5 1, 3) := by decide +kernel
theorem dX11_image_43 : decode cX11_image 43 = .ok (.goto (-37), 3) := by decide +kernel
theorem dX11_image_46 : decode cX11_image 46 = .ok (.iload 4, 2) := by decide +kernel
theorem dX11_image_48 : decode cX11_image 48 = .ok (.ireturn, 1) := by decide +kernel
theorem dX11_step_0 : decode cX11_step 0 = .ok (.iconst 0, 1) := by decide +kernel
theorem dX11_step_1 : decode cX11_step 1 = .ok (.istore 4, 2) := by decide +kernel
theorem dX11_step_3 : decode cX11_step 3 = .ok (.iconst 0, 1) := by decide +kernel
theorem dX11_step_4 : decode cX11_step 4 = .ok (.istore 5, 2) := by decide +kernel
theorem dX11_step_6 : decode cX11_step 6 = .ok (.iload 5, 2) := by decide +kernel
theorem dX11_step_8 : decode cX11_step 8 = .ok (.bipush 8, 2) := by decide +kernel
theorem dX11_step_10 : decode cX11_step 10 = .ok (.if_icmp .ge 37, 3) := by decide +kernel
theorem dX11_step_13 : decode cX11_step 13 = .ok (.iload 4, 2) := by decide +kernel
theorem dX11_step_15 : decode cX11_step 15 = .ok (.iload_n 2, 1) := by decide +kernel
theorem dX11_step_16 : decode cX11_step 16 = .ok (.iload 5, 2) := by decide +kernel
theorem dX11_step_18 : decode cX11_step 18 = .ok (.ishr, 1) := by decide +kernel
theorem dX11_step_19 : decode cX11_step 19 = .ok (.iconst 1, 1) := by decide +kernel
theorem dX11_step_20 : decode cX11_step 20 = .ok (.iand, 1) := by decide +kernel
theorem dX11_step_21 : decode cX11_step 21 = .ok (.iconst 1, 1) := by decide +kernel
theorem dX11_step_22 : decode cX11_step 22 = .ok (.if_icmp .ne 15, 3) := by decide +kernel
theorem dX11_step_25 : decode cX11_step 25 = .ok (.aload_n 0, 1) := by decide +kernel
theorem dX11_step_26 : decode cX11_step 26 = .ok (.iload_n 1, 1) := by decide +kernel
theorem dX11_step_27 : decode cX11_step 27 = .ok (.iload 5, 2) := by decide +kernel
theorem dX11_step_29 : decode cX11_step 29 = .ok (.invokevirtual 176, 3) := by decide +kernel
theorem dX11_step_32 : decode cX11_step 32 = .ok (.iload_n 3, 1) := by decide +kernel
theorem dX11_step_33 : decode cX11_step 33 = .ok (.iand, 1) := by decide +kernel
theorem dX11_step_34 : decode cX11_step 34 = .ok (.goto 4, 3) := by decide +kernel
theorem dX11_step_37 : decode cX11_step 37 = .ok (.iconst 0, 1) := by decide +kernel
theorem dX11_step_38 : decode cX11_step 38 = .ok (.ior, 1) := by decide +kernel
theorem dX11_step_39 : decode cX11_step 39 = .ok (.istore 4, 2) := by decide +kernel
theorem dX11_step_41 : decode cX11_step 41 = .ok (.iinc 5 1, 3) := by decide +kernel
theorem dX11_step_44 : decode cX11_step 44 = .ok (.goto (-38), 3) := by decide +kernel
theorem dX11_step_47 : decode cX11_step 47 = .ok (.iload 4, 2) := by decide +kernel
theorem dX11_step_49 : decode cX11_step 49 = .ok (.ireturn, 1) := by decide +kernel
theorem dX11_isWhole_0 : decode cX11_isWhole 0 = .ok (.aload_n 0, 1) := by decide +kernel
theorem dX11_isWhole_1 : decode cX11_isWhole 1 = .ok (.iload_n 1, 1) := by decide +kernel
theorem dX11_isWhole_2 : decode cX11_isWhole 2 = .ok (.invokevirtual 180, 3) := by decide +kernel
theorem dX11_isWhole_5 : decode cX11_isWhole 5 = .ok (.istore_n 2, 1) := by decide +kernel
theorem dX11_isWhole_6 : decode cX11_isWhole 6 = .ok (.iconst 0, 1) := by decide +kernel
theorem dX11_isWhole_7 : decode cX11_isWhole 7 = .ok (.istore_n 3, 1) := by decide +kernel
theorem dX11_isWhole_8 : decode cX11_isWhole 8 = .ok (.iload_n 3, 1) := by decide +kernel
theorem dX11_isWhole_9 : decode cX11_isWhole 9 = .ok (.bipush 8, 2) := by decide +kernel
theorem dX11_isWhole_11 : decode cX11_isWhole 11 = .ok (.if_icmp .ge 60, 3) := by decide +kernel
theorem dX11_isWhole_14 : decode cX11_isWhole 14 = .ok (.iload_n 2, 1) := by decide +kernel
theorem dX11_isWhole_15 : decode cX11_isWhole 15 = .ok (.iload_n 3, 1) := by decide +kernel
theorem dX11_isWhole_16 : decode cX11_isWhole 16 = .ok (.ishr, 1) := by decide +kernel
theorem dX11_isWhole_17 : decode cX11_isWhole 17 = .ok (.iconst 1, 1) := by decide +kernel
theorem dX11_isWhole_18 : decode cX11_isWhole 18 = .ok (.iand, 1) := by decide +kernel
theorem dX11_isWhole_19 : decode cX11_isWhole 19 = .ok (.iconst 1, 1) := by decide +kernel
theorem dX11_isWhole_20 : decode cX11_isWhole 20 = .ok (.if_icmp .ne 45, 3) := by decide +kernel
theorem dX11_isWhole_23 : decode cX11_isWhole 23 = .ok (.iconst 1, 1) := by decide +kernel
theorem dX11_isWhole_24 : decode cX11_isWhole 24 = .ok (.iload_n 3, 1) := by decide +kernel
theorem dX11_isWhole_25 : decode cX11_isWhole 25 = .ok (.ishl, 1) := by decide +kernel
theorem dX11_isWhole_26 : decode cX11_isWhole 26 = .ok (.istore 4, 2) := by decide +kernel
theorem dX11_isWhole_28 : decode cX11_isWhole 28 = .ok (.iconst 0, 1) := by decide +kernel
theorem dX11_isWhole_29 : decode cX11_isWhole 29 = .ok (.istore 5, 2) := by decide +kernel
theorem dX11_isWhole_31 : decode cX11_isWhole 31 = .ok (.iload 5, 2) := by decide +kernel
theorem dX11_isWhole_33 : decode cX11_isWhole 33 = .ok (.bipush 8, 2) := by decide +kernel
theorem dX11_isWhole_35 : decode cX11_isWhole 35 = .ok (.if_icmp .ge 22, 3) := by decide +kernel
theorem dX11_isWhole_38 : decode cX11_isWhole 38 = .ok (.iload 4, 2) := by decide +kernel
theorem dX11_isWhole_40 : decode cX11_isWhole 40 = .ok (.aload_n 0, 1) := by decide +kernel
theorem dX11_isWhole_41 : decode cX11_isWhole 41 = .ok (.iload_n 1, 1) := by decide +kernel
theorem dX11_isWhole_42 : decode cX11_isWhole 42 = .ok (.iload 4, 2) := by decide +kernel
theorem dX11_isWhole_44 : decode cX11_isWhole 44 = .ok (.iload_n 2, 1) := by decide +kernel
theorem dX11_isWhole_45 : decode cX11_isWhole 45 = .ok (.invokevirtual 183, 3) := by decide +kernel
theorem dX11_isWhole_48 : decode cX11_isWhole 48 = .ok (.ior, 1) := by decide +kernel
theorem dX11_isWhole_49 : decode cX11_isWhole 49 = .ok (.istore 4, 2) := by decide +kernel
theorem dX11_isWhole_51 : decode cX11_isWhole 51 = .ok (.iinc 5 1, 3) := by decide +kernel
theorem dX11_isWhole_54 : decode cX11_isWhole 54 = .ok (.goto (-23), 3) := by decide +kernel
theorem dX11_isWhole_57 : decode cX11_isWhole 57 = .ok (.iload 4, 2) := by decide +kernel
theorem dX11_isWhole_59 : decode cX11_isWhole 59 = .ok (.iload_n 2, 1) := by decide +kernel
theorem dX11_isWhole_60 : decode cX11_isWhole 60 = .ok (.if_icmp .eq 5, 3) := by decide +kernel
theorem dX11_isWhole_63 : decode cX11_isWhole 63 = .ok (.iconst 0, 1) := by decide +kernel
theorem dX11_isWhole_64 : decode cX11_isWhole 64 = .ok (.ireturn, 1) := by decide +kernel
theorem dX11_isWhole_65 : decode cX11_isWhole 65 = .ok (.iinc 3 1, 3) := by decide +kernel
theorem dX11_isWhole_68 : decode cX11_isWhole 68 = .ok (.goto (-60), 3) := by decide +kernel
theorem dX11_isWhole_71 : decode cX11_isWhole 71 = .ok (.iload_n 2, 1) := by decide +kernel
theorem dX11_isWhole_72 : decode cX11_isWhole 72 = .ok (.ifCond .eq 7, 3) := by decide +kernel
theorem dX11_isWhole_75 : decode cX11_isWhole 75 = .ok (.iconst 1, 1) := by decide +kernel
theorem dX11_isWhole_76 : decode cX11_isWhole 76 = .ok (.goto 4, 3) := by decide +kernel
theorem dX11_isWhole_79 : decode cX11_isWhole 79 = .ok (.iconst 0, 1) := by decide +kernel
theorem dX11_isWhole_80 : decode cX11_isWhole 80 = .ok (.ireturn, 1) := by decide +kernel
theorem dX11_isIrreducible_0 : decode cX11_isIrreducible 0 = .ok (.iload_n 1, 1) := by decide +kernel
theorem dX11_isIrreducible_1 : decode cX11_isIrreducible 1 = .ok (.invokestatic 135, 3) := by decide +kernel
theorem dX11_isIrreducible_4 : decode cX11_isIrreducible 4 = .ok (.ifCond .ne 8, 3) := by decide +kernel
theorem dX11_isIrreducible_7 : decode cX11_isIrreducible 7 = .ok (.bipush (-2), 2) := by decide +kernel
theorem dX11_isIrreducible_9 : decode cX11_isIrreducible 9 = .ok (.goto 16, 3) := by decide +kernel
theorem dX11_isIrreducible_12 : decode cX11_isIrreducible 12 = .ok (.aload_n 0, 1) := by decide +kernel
theorem dX11_isIrreducible_13 : decode cX11_isIrreducible 13 = .ok (.iload_n 1, 1) := by decide +kernel
theorem dX11_isIrreducible_14 : decode cX11_isIrreducible 14 = .ok (.invokevirtual 186, 3) := by decide +kernel
theorem dX11_isIrreducible_17 : decode cX11_isIrreducible 17 = .ok (.ifCond .eq 7, 3) := by decide +kernel
theorem dX11_isIrreducible_20 : decode cX11_isIrreducible 20 = .ok (.iconst 1, 1) := by decide +kernel
theorem dX11_isIrreducible_21 : decode cX11_isIrreducible 21 = .ok (.goto 4, 3) := by decide +kernel
theorem dX11_isIrreducible_24 : decode cX11_isIrreducible 24 = .ok (.iconst 0, 1) := by decide +kernel
theorem dX11_isIrreducible_25 : decode cX11_isIrreducible 25 = .ok (.ireturn, 1) := by decide +kernel
theorem dX11_gcd_0 : decode cX11_gcd 0 = .ok (.lload_n 0, 1) := by decide +kernel
theorem dX11_gcd_1 : decode cX11_gcd 1 = .ok (.lstore 4, 2) := by decide +kernel
theorem dX11_gcd_3 : decode cX11_gcd 3 = .ok (.lload_n 2, 1) := by decide +kernel
theorem dX11_gcd_4 : decode cX11_gcd 4 = .ok (.lstore 6, 2) := by decide +kernel
theorem dX11_gcd_6 : decode cX11_gcd 6 = .ok (.lload 6, 2) := by decide +kernel
theorem dX11_gcd_8 : decode cX11_gcd 8 = .ok (.lconst 0, 1) := by decide +kernel
theorem dX11_gcd_9 : decode cX11_gcd 9 = .ok (.lcmp, 1) := by decide +kernel
theorem dX11_gcd_10 : decode cX11_gcd 10 = .ok (.ifCond .eq 21, 3) := by decide +kernel
theorem dX11_gcd_13 : decode cX11_gcd 13 = .ok (.lload 4, 2) := by decide +kernel
theorem dX11_gcd_15 : decode cX11_gcd 15 = .ok (.lload 6, 2) := by decide +kernel
theorem dX11_gcd_17 : decode cX11_gcd 17 = .ok (.lrem, 1) := by decide +kernel
