theorem dX5_trace_7 : decode cX5_trace 7 = .ok (.if_icmp .ge 23, 3) := by decide +kernel
theorem dX5_trace_10 : decode cX5_trace 10 = .ok (.lload_n 1, 1) := by decide +kernel
theorem dX5_trace_11 : decode cX5_trace 11 = .ok (.aload_n 0, 1) := by decide +kernel
theorem dX5_trace_12 : decode cX5_trace 12 = .ok (.getfield 18, 3) := by decide +kernel
theorem dX5_trace_15 : decode cX5_trace 15 = .ok (.bipush 8, 2) := by decide +kernel
theorem dX5_trace_17 : decode cX5_trace 17 = .ok (.iload_n 3, 1) := by decide +kernel
theorem dX5_trace_18 : decode cX5_trace 18 = .ok (.imul, 1) := by decide +kernel
theorem dX5_trace_19 : decode cX5_trace 19 = .ok (.iload_n 3, 1) := by decide +kernel
theorem dX5_trace_20 : decode cX5_trace 20 = .ok (.iadd, 1) := by decide +kernel
theorem dX5_trace_21 : decode cX5_trace 21 = .ok (.laload, 1) := by decide +kernel
theorem dX5_trace_22 : decode cX5_trace 22 = .ok (.ladd, 1) := by decide +kernel
theorem dX5_trace_23 : decode cX5_trace 23 = .ok (.lstore_n 1, 1) := by decide +kernel
theorem dX5_trace_24 : decode cX5_trace 24 = .ok (.iinc 3 1, 3) := by decide +kernel
theorem dX5_trace_27 : decode cX5_trace 27 = .ok (.goto (-23), 3) := by decide +kernel
theorem dX5_trace_30 : decode cX5_trace 30 = .ok (.lload_n 1, 1) := by decide +kernel
theorem dX5_trace_31 : decode cX5_trace 31 = .ok (.lreturn, 1) := by decide +kernel
theorem dX6_init_0 : decode cX6_init 0 = .ok (.aload_n 0, 1) := by decide +kernel
theorem dX6_init_1 : decode cX6_init 1 = .ok (.invokespecial 3, 3) := by decide +kernel
theorem dX6_init_4 : decode cX6_init 4 = .ok (.aload_n 0, 1) := by decide +kernel
theorem dX6_init_5 : decode cX6_init 5 = .ok (.sipush 256, 3) := by decide +kernel
theorem dX6_init_8 : decode cX6_init 8 = .ok (.newarray .int, 2) := by decide +kernel
theorem dX6_init_10 : decode cX6_init 10 = .ok (.putfield 11, 3) := by decide +kernel
theorem dX6_init_13 : decode cX6_init 13 = .ok (.aload_n 0, 1) := by decide +kernel
theorem dX6_init_14 : decode cX6_init 14 = .ok (.sipush 256, 3) := by decide +kernel
theorem dX6_init_17 : decode cX6_init 17 = .ok (.newarray .int, 2) := by decide +kernel
theorem dX6_init_19 : decode cX6_init 19 = .ok (.putfield 15, 3) := by decide +kernel
theorem dX6_init_22 : decode cX6_init 22 = .ok (.aload_n 0, 1) := by decide +kernel
theorem dX6_init_23 : decode cX6_init 23 = .ok (.sipush 1024, 3) := by decide +kernel
theorem dX6_init_26 : decode cX6_init 26 = .ok (.newarray .int, 2) := by decide +kernel
theorem dX6_init_28 : decode cX6_init 28 = .ok (.putfield 18, 3) := by decide +kernel
theorem dX6_init_31 : decode cX6_init 31 = .ok (.aload_n 0, 1) := by decide +kernel
theorem dX6_init_32 : decode cX6_init 32 = .ok (.sipush 256, 3) := by decide +kernel
theorem dX6_init_35 : decode cX6_init 35 = .ok (.newarray .int, 2) := by decide +kernel
theorem dX6_init_37 : decode cX6_init 37 = .ok (.putfield 21, 3) := by decide +kernel
theorem dX6_init_40 : decode cX6_init 40 = .ok (.aload_n 0, 1) := by decide +kernel
theorem dX6_init_41 : decode cX6_init 41 = .ok (.bipush 8, 2) := by decide +kernel
theorem dX6_init_43 : decode cX6_init 43 = .ok (.newarray .int, 2) := by decide +kernel
theorem dX6_init_45 : decode cX6_init 45 = .ok (.putfield 24, 3) := by decide +kernel
theorem dX6_init_48 : decode cX6_init 48 = .ok (.return_, 1) := by decide +kernel
theorem dX6_build_0 : decode cX6_build 0 = .ok (.aload_n 0, 1) := by decide +kernel
theorem dX6_build_1 : decode cX6_build 1 = .ok (.getfield 15, 3) := by decide +kernel
theorem dX6_build_4 : decode cX6_build 4 = .ok (.sipush 255, 3) := by decide +kernel
theorem dX6_build_7 : decode cX6_build 7 = .ok (.invokestatic 27, 3) := by decide +kernel
theorem dX6_build_10 : decode cX6_build 10 = .ok (.aload_n 0, 1) := by decide +kernel
theorem dX6_build_11 : decode cX6_build 11 = .ok (.iconst 0, 1) := by decide +kernel
theorem dX6_build_12 : decode cX6_build 12 = .ok (.putfield 33, 3) := by decide +kernel
theorem dX6_build_15 : decode cX6_build 15 = .ok (.aload_n 0, 1) := by decide +kernel
theorem dX6_build_16 : decode cX6_build 16 = .ok (.aload_n 1, 1) := by decide +kernel
theorem dX6_build_17 : decode cX6_build 17 = .ok (.invokevirtual 37, 3) := by decide +kernel
theorem dX6_build_20 : decode cX6_build 20 = .ok (.iconst 0, 1) := by decide +kernel
theorem dX6_build_21 : decode cX6_build 21 = .ok (.invokevirtual 43, 3) := by decide +kernel
theorem dX6_build_24 : decode cX6_build 24 = .ok (.pop, 1) := by decide +kernel
theorem dX6_build_25 : decode cX6_build 25 = .ok (.iconst 0, 1) := by decide +kernel
theorem dX6_build_26 : decode cX6_build 26 = .ok (.istore_n 2, 1) := by decide +kernel
theorem dX6_build_27 : decode cX6_build 27 = .ok (.iload_n 2, 1) := by decide +kernel
theorem dX6_build_28 : decode cX6_build 28 = .ok (.aload_n 0, 1) := by decide +kernel
theorem dX6_build_29 : decode cX6_build 29 = .ok (.getfield 33, 3) := by decide +kernel
theorem dX6_build_32 : decode cX6_build 32 = .ok (.if_icmp .ge 60, 3) := by decide +kernel
theorem dX6_build_35 : decode cX6_build 35 = .ok (.iload_n 2, 1) := by decide +kernel
theorem dX6_build_36 : decode cX6_build 36 = .ok (.sipush 255, 3) := by decide +kernel
theorem dX6_build_39 : decode cX6_build 39 = .ok (.if_icmp .ge 53, 3) := by decide +kernel
theorem dX6_build_42 : decode cX6_build 42 = .ok (.iconst 0, 1) := by decide +kernel
theorem dX6_build_43 : decode cX6_build 43 = .ok (.istore_n 3, 1) := by decide +kernel
theorem dX6_build_44 : decode cX6_build 44 = .ok (.iload_n 3, 1) := by decide +kernel
theorem dX6_build_45 : decode cX6_build 45 = .ok (.iconst 4, 1) := by decide +kernel
theorem dX6_build_46 : decode cX6_build 46 = .ok (.if_icmp .ge 40, 3) := by decide +kernel
theorem dX6_build_49 : decode cX6_build 49 = .ok (.iconst 4, 1) := by decide +kernel
theorem dX6_build_50 : decode cX6_build 50 = .ok (.iload_n 2, 1) := by decide +kernel
theorem dX6_build_51 : decode cX6_build 51 = .ok (.imul, 1) := by decide +kernel
theorem dX6_build_52 : decode cX6_build 52 = .ok (.iload_n 3, 1) := by decide +kernel
theorem dX6_build_53 : decode cX6_build 53 = .ok (.iadd, 1) := by decide +kernel
theorem dX6_build_54 : decode cX6_build 54 = .ok (.istore 4, 2) := by decide +kernel
theorem dX6_build_56 : decode cX6_build 56 = .ok (.aload_n 0, 1) := by decide +kernel
theorem dX6_build_57 : decode cX6_build 57 = .ok (.getfield 18, 3) := by decide +kernel
theorem dX6_build_60 : decode cX6_build 60 = .ok (.iload 4, 2) := by decide +kernel
theorem dX6_build_62 : decode cX6_build 62 = .ok (.aload_n 0, 1) := by decide +kernel
theorem dX6_build_63 : decode cX6_build 63 = .ok (.aload_n 1, 1) := by decide +kernel
theorem dX6_build_64 : decode cX6_build 64 = .ok (.aload_n 0, 1) := by decide +kernel
theorem dX6_build_65 : decode cX6_build 65 = .ok (.getfield 11, 3) := by decide +kernel
theorem dX6_build_68 : decode cX6_build 68 = .ok (.iload_n 2, 1) := by decide +kernel
theorem dX6_build_69 : decode cX6_build 69 = .ok (.iaload, 1) := by decide +kernel
theorem dX6_build_70 : decode cX6_build 70 = .ok (.iload_n 3, 1) := by decide +kernel
theorem dX6_build_71 : decode cX6_build 71 = .ok (.invokevirtual 47, 3) := by decide +kernel
theorem dX6_build_74 : decode cX6_build 74 = .ok (.iload 4, 2) := by decide +kernel
theorem dX6_build_76 : decode cX6_build 76 = .ok (.invokevirtual 43, 3) := by decide +kernel
theorem dX6_build_79 : decode cX6_build 79 = .ok (.iastore, 1) := by decide +kernel
theorem dX6_build_80 : decode cX6_build 80 = .ok (.iinc 3 1, 3) := by decide +kernel
theorem dX6_build_83 : decode cX6_build 83 = .ok (.goto (-39), 3) := by decide +kernel
theorem dX6_build_86 : decode cX6_build 86 = .ok (.iinc 2 1, 3) := by decide +kernel
theorem dX6_build_89 : decode cX6_build 89 = .ok (.goto (-62), 3) := by decide +kernel
theorem dX6_build_92 : decode cX6_build 92 = .ok (.return_, 1) := by decide +kernel
theorem dX6_note_0 : decode cX6_note 0 = .ok (.iload_n 1, 1) := by decide +kernel
theorem dX6_note_1 : decode cX6_note 1 = .ok (.ifCond .le 10, 3) := by decide +kernel
theorem dX6_note_4 : decode cX6_note 4 = .ok (.iload_n 1, 1) := by decide +kernel
theorem dX6_note_5 : decode cX6_note 5 = .ok (.sipush 256, 3) := by decide +kernel
theorem dX6_note_8 : decode cX6_note 8 = .ok (.if_icmp .lt 7, 3) := by decide +kernel
theorem dX6_note_11 : decode cX6_note 11 = .ok (.sipush 255, 3) := by decide +kernel
theorem dX6_note_14 : decode cX6_note 14 = .ok (.ireturn, 1) := by decide +kernel
theorem dX6_note_15 : decode cX6_note 15 = .ok (.aload_n 0, 1) := by decide +kernel
theorem dX6_note_16 : decode cX6_note 16 = .ok (.getfield 15, 3) := by decide +kernel
theorem dX6_note_19 : decode cX6_note 19 = .ok (.iload_n 1, 1) := by decide +kernel
theorem dX6_note_20 : decode cX6_note 20 = .ok (.iaload, 1) := by decide +kernel
theorem dX6_note_21 : decode cX6_note 21 = .ok (.sipush 255, 3) := by decide +kernel
theorem dX6_note_24 : decode cX6_note 24 = .ok (.if_icmp .ne 60, 3) := by decide +kernel
theorem dX6_note_27 : decode cX6_note 27 = .ok (.aload_n 0, 1) := by decide +kernel
theorem dX6_note_28 : decode cX6_note 28 = .ok (.getfield 33, 3) := by decide +kernel
theorem dX6_note_31 : decode cX6_note 31 = .ok (.ifCond .lt 53, 3) := by decide +kernel
theorem dX6_note_34 : decode cX6_note 34 = .ok (.aload_n 0, 1) := by decide +kernel
theorem dX6_note_35 : decode cX6_note 35 = .ok (.getfield 33, 3) := by decide +kernel
theorem dX6_note_38 : decode cX6_note 38 = .ok (.sipush 255, 3) := by decide +kernel
theorem dX6_note_41 : decode cX6_note 41 = .ok (.if_icmp .ge 43, 3) := by decide +kernel
theorem dX6_note_44 : decode cX6_note 44 = .ok (.aload_n 0, 1) := by decide +kernel
theorem dX6_note_45 : decode cX6_note 45 = .ok (.getfield 15, 3) := by decide +kernel
theorem dX6_note_48 : decode cX6_note 48 = .ok (.iload_n 1, 1) := by decide +kernel
theorem dX6_note_49 : decode cX6_note 49 = .ok (.aload_n 0, 1) := by decide +kernel
theorem dX6_note_50 : decode cX6_note 50 = .ok (.getfield 33, 3) := by decide +kernel
theorem dX6_note_53 : decode cX6_note 53 = .ok (.iastore, 1) := by decide +kernel
theorem dX6_note_54 : decode cX6_note 54 = .ok (.aload_n 0, 1) := by decide +kernel
theorem dX6_note_55 : decode cX6_note 55 = .ok (.getfield 11, 3) := by decide +kernel
theorem dX6_note_58 : decode cX6_note 58 = .ok (.aload_n 0, 1) := by decide +kernel
theorem dX6_note_59 : decode cX6_note 59 = .ok (.getfield 33, 3) := by decide +kernel
theorem dX6_note_62 : decode cX6_note 62 = .ok (.iload_n 1, 1) := by decide +kernel
theorem dX6_note_63 : decode cX6_note 63 = .ok (.iastore, 1) := by decide +kernel
theorem dX6_note_64 : decode cX6_note 64 = .ok (.aload_n 0, 1) := by decide +kernel
theorem dX6_note_65 : decode cX6_note 65 = .ok (.getfield 21, 3) := by decide +kernel
theorem dX6_note_68 : decode cX6_note 68 = .ok (.aload_n 0, 1) := by decide +kernel
theorem dX6_note_69 : decode cX6_note 69 = .ok (.getfield 33, 3) := by decide +kernel
theorem dX6_note_72 : decode cX6_note 72 = .ok (.iload_n 2, 1) := by decide +kernel
theorem dX6_note_73 : decode cX6_note 73 = .ok (.iastore, 1) := by decide +kernel
theorem dX6_note_74 : decode cX6_note 74 = .ok (.aload_n 0, 1) := by decide +kernel
theorem dX6_note_75 : decode cX6_note 75 = .ok (.dup, 1) := by decide +kernel
theorem dX6_note_76 : decode cX6_note 76 = .ok (.getfield 33, 3) := by decide +kernel
theorem dX6_note_79 : decode cX6_note 79 = .ok (.iconst 1, 1) := by decide +kernel
theorem dX6_note_80 : decode cX6_note 80 = .ok (.iadd, 1) := by decide +kernel
theorem dX6_note_81 : decode cX6_note 81 = .ok (.putfield 33, 3) := by decide +kernel
theorem dX6_note_84 : decode cX6_note 84 = .ok (.aload_n 0, 1) := by decide +kernel
theorem dX6_note_85 : decode cX6_note 85 = .ok (.getfield 15, 3) := by decide +kernel
theorem dX6_note_88 : decode cX6_note 88 = .ok (.iload_n 1, 1) := by decide +kernel
theorem dX6_note_89 : decode cX6_note 89 = .ok (.iaload, 1) := by decide +kernel
theorem dX6_note_90 : decode cX6_note 90 = .ok (.ireturn, 1) := by decide +kernel
theorem dX6_size_0 : decode cX6_size 0 = .ok (.aload_n 0, 1) := by decide +kernel
theorem dX6_size_1 : decode cX6_size 1 = .ok (.getfield 33, 3) := by decide +kernel
theorem dX6_size_4 : decode cX6_size 4 = .ok (.ireturn, 1) := by decide +kernel
theorem dX6_start_0 : decode cX6_start 0 = .ok (.aload_n 0, 1) := by decide +kernel
theorem dX6_start_1 : decode cX6_start 1 = .ok (.getfield 33, 3) := by decide +kernel
theorem dX6_start_4 : decode cX6_start 4 = .ok (.ifCond .le 7, 3) := by decide +kernel
theorem dX6_start_7 : decode cX6_start 7 = .ok (.iconst 0, 1) := by decide +kernel
theorem dX6_start_8 : decode cX6_start 8 = .ok (.goto 6, 3) := by decide +kernel
theorem dX6_start_11 : decode cX6_start 11 = .ok (.sipush 255, 3) := by decide +kernel
theorem dX6_start_14 : decode cX6_start 14 = .ok (.ireturn, 1) := by decide +kernel
theorem dX6_set_0 : decode cX6_set 0 = .ok (.iload_n 1, 1) := by decide +kernel
theorem dX6_set_1 : decode cX6_set 1 = .ok (.ifCond .lt 27, 3) := by decide +kernel
theorem dX6_set_4 : decode cX6_set 4 = .ok (.iload_n 1, 1) := by decide +kernel
theorem dX6_set_5 : decode cX6_set 5 = .ok (.aload_n 0, 1) := by decide +kernel
theorem dX6_set_6 : decode cX6_set 6 = .ok (.getfield 33, 3) := by decide +kernel
theorem dX6_set_9 : decode cX6_set 9 = .ok (.if_icmp .ge 19, 3) := by decide +kernel
theorem dX6_set_12 : decode cX6_set 12 = .ok (.iload_n 1, 1) := by decide +kernel
theorem dX6_set_13 : decode cX6_set 13 = .ok (.sipush 255, 3) := by decide +kernel
theorem dX6_set_16 : decode cX6_set 16 = .ok (.if_icmp .ge 12, 3) := by decide +kernel
theorem dX6_set_19 : decode cX6_set 19 = .ok (.aload_n 0, 1) := by decide +kernel
theorem dX6_set_20 : decode cX6_set 20 = .ok (.getfield 11, 3) := by decide +kernel
theorem dX6_set_23 : decode cX6_set 23 = .ok (.iload_n 1, 1) := by decide +kernel
theorem dX6_set_24 : decode cX6_set 24 = .ok (.iaload, 1) := by decide +kernel
theorem dX6_set_25 : decode cX6_set 25 = .ok (.goto 4, 3) := by decide +kernel
theorem dX6_set_28 : decode cX6_set 28 = .ok (.iconst 0, 1) := by decide +kernel
theorem dX6_set_29 : decode cX6_set 29 = .ok (.ireturn, 1) := by decide +kernel
theorem dX6_after_0 : decode cX6_after 0 = .ok (.iload_n 1, 1) := by decide +kernel
theorem dX6_after_1 : decode cX6_after 1 = .ok (.ifCond .lt 31, 3) := by decide +kernel
theorem dX6_after_4 : decode cX6_after 4 = .ok (.iload_n 1, 1) := by decide +kernel
theorem dX6_after_5 : decode cX6_after 5 = .ok (.aload_n 0, 1) := by decide +kernel
theorem dX6_after_6 : decode cX6_after 6 = .ok (.getfield 33, 3) := by decide +kernel
theorem dX6_after_9 : decode cX6_after 9 = .ok (.if_icmp .ge 23, 3) := by decide +kernel
theorem dX6_after_12 : decode cX6_after 12 = .ok (.iload_n 1, 1) := by decide +kernel
theorem dX6_after_13 : decode cX6_after 13 = .ok (.sipush 255, 3) := by decide +kernel
theorem dX6_after_16 : decode cX6_after 16 = .ok (.if_icmp .ge 16, 3) := by decide +kernel
theorem dX6_after_19 : decode cX6_after 19 = .ok (.iload_n 2, 1) := by decide +kernel
theorem dX6_after_20 : decode cX6_after 20 = .ok (.ifCond .lt 12, 3) := by decide +kernel
theorem dX6_after_23 : decode cX6_after 23 = .ok (.iload_n 2, 1) := by decide +kernel
theorem dX6_after_24 : decode cX6_after 24 = .ok (.iconst 4, 1) := by decide +kernel
theorem dX6_after_25 : decode cX6_after 25 = .ok (.if_icmp .ge 7, 3) := by decide +kernel
theorem dX6_after_28 : decode cX6_after 28 = .ok (.iconst 1, 1) := by decide +kernel
theorem dX6_after_29 : decode cX6_after 29 = .ok (.goto 4, 3) := by decide +kernel
theorem dX6_after_32 : decode cX6_after 32 = .ok (.iconst 0, 1) := by decide +kernel
theorem dX6_after_33 : decode cX6_after 33 = .ok (.istore_n 3, 1) := by decide +kernel
theorem dX6_after_34 : decode cX6_after 34 = .ok (.iload_n 3, 1) := by decide +kernel
theorem dX6_after_35 : decode cX6_after 35 = .ok (.ifCond .eq 16, 3) := by decide +kernel
theorem dX6_after_38 : decode cX6_after 38 = .ok (.aload_n 0, 1) := by decide +kernel
theorem dX6_after_39 : decode cX6_after 39 = .ok (.getfield 18, 3) := by decide +kernel
theorem dX6_after_42 : decode cX6_after 42 = .ok (.iconst 4, 1) := by decide +kernel
theorem dX6_after_43 : decode cX6_after 43 = .ok (.iload_n 1, 1) := by decide +kernel
theorem dX6_after_44 : decode cX6_after 44 = .ok (.imul, 1) := by decide +kernel
theorem dX6_after_45 : decode cX6_after 45 = .ok (.iload_n 2, 1) := by decide +kernel
theorem dX6_after_46 : decode cX6_after 46 = .ok (.iadd, 1) := by decide +kernel
theorem dX6_after_47 : decode cX6_after 47 = .ok (.iaload, 1) := by decide +kernel
theorem dX6_after_48 : decode cX6_after 48 = .ok (.goto 6, 3) := by decide +kernel
theorem dX6_after_51 : decode cX6_after 51 = .ok (.sipush 255, 3) := by decide +kernel
theorem dX6_after_54 : decode cX6_after 54 = .ok (.ireturn, 1) := by decide +kernel
theorem dX6_spellPath_0 : decode cX6_spellPath 0 = .ok (.aload_n 2, 1) := by decide +kernel
theorem dX6_spellPath_1 : decode cX6_spellPath 1 = .ok (.invokevirtual 50, 3) := by decide +kernel
theorem dX6_spellPath_4 : decode cX6_spellPath 4 = .ok (.iload_n 1, 1) := by decide +kernel
theorem dX6_spellPath_5 : decode cX6_spellPath 5 = .ok (.istore_n 3, 1) := by decide +kernel
theorem dX6_spellPath_6 : decode cX6_spellPath 6 = .ok (.iconst 0, 1) := by decide +kernel
theorem dX6_spellPath_7 : decode cX6_spellPath 7 = .ok (.istore 4, 2) := by decide +kernel
theorem dX6_spellPath_9 : decode cX6_spellPath 9 = .ok (.iload 4, 2) := by decide +kernel
theorem dX6_spellPath_11 : decode cX6_spellPath 11 = .ok (.sipush 256, 3) := by decide +kernel
theorem dX6_spellPath_14 : decode cX6_spellPath 14 = .ok (.if_icmp .ge 49, 3) := by decide +kernel
theorem dX6_spellPath_17 : decode cX6_spellPath 17 = .ok (.iload_n 3, 1) := by decide +kernel
theorem dX6_spellPath_18 : decode cX6_spellPath 18 = .ok (.ifCond .le 45, 3) := by decide +kernel
theorem dX6_spellPath_21 : decode cX6_spellPath 21 = .ok (.iload_n 3, 1) := by decide +kernel
theorem dX6_spellPath_22 : decode cX6_spellPath 22 = .ok (.aload_n 0, 1) := by decide +kernel
theorem dX6_spellPath_23 : decode cX6_spellPath 23 = .ok (.getfield 33, 3) := by decide +kernel
theorem dX6_spellPath_26 : decode cX6_spellPath 26 = .ok (.if_icmp .ge 37, 3) := by decide +kernel
theorem dX6_spellPath_29 : decode cX6_spellPath 29 = .ok (.iload_n 3, 1) := by decide +kernel
theorem dX6_spellPath_30 : decode cX6_spellPath 30 = .ok (.sipush 255, 3) := by decide +kernel
theorem dX6_spellPath_33 : decode cX6_spellPath 33 = .ok (.if_icmp .ge 30, 3) := by decide +kernel
theorem dX6_spellPath_36 : decode cX6_spellPath 36 = .ok (.aload_n 2, 1) := by decide +kernel
theorem dX6_spellPath_37 : decode cX6_spellPath 37 = .ok (.aload_n 0, 1) := by decide +kernel
theorem dX6_spellPath_38 : decode cX6_spellPath 38 = .ok (.getfield 21, 3) := by decide +kernel
theorem dX6_spellPath_41 : decode cX6_spellPath 41 = .ok (.iload_n 3, 1) := by decide +kernel
theorem dX6_spellPath_42 : decode cX6_spellPath 42 = .ok (.iaload, 1) := by decide +kernel
theorem dX6_spellPath_43 : decode cX6_spellPath 43 = .ok (.iconst 4, 1) := by decide +kernel
theorem dX6_spellPath_44 : decode cX6_spellPath 44 = .ok (.irem, 1) := by decide +kernel
theorem dX6_spellPath_45 : decode cX6_spellPath 45 = .ok (.invokevirtual 55, 3) := by decide +kernel
theorem dX6_spellPath_48 : decode cX6_spellPath 48 = .ok (.aload_n 0, 1) := by decide +kernel
theorem dX6_spellPath_49 : decode cX6_spellPath 49 = .ok (.getfield 21, 3) := by decide +kernel
theorem dX6_spellPath_52 : decode cX6_spellPath 52 = .ok (.iload_n 3, 1) := by decide +kernel
theorem dX6_spellPath_53 : decode cX6_spellPath 53 = .ok (.iaload, 1) := by decide +kernel
theorem dX6_spellPath_54 : decode cX6_spellPath 54 = .ok (.iconst 4, 1) := by decide +kernel
theorem dX6_spellPath_55 : decode cX6_spellPath 55 = .ok (.idiv, 1) := by decide +kernel
theorem dX6_spellPath_56 : decode cX6_spellPath 56 = .ok (.istore_n 3, 1) := by decide +kernel
theorem dX6_spellPath_57 : decode cX6_spellPath 57 = .ok (.iinc 4 1, 3) := by decide +kernel
theorem dX6_spellPath_60 : decode cX6_spellPath 60 = .ok (.goto (-51), 3) := by decide +kernel
theorem dX6_spellPath_63 : decode cX6_spellPath 63 = .ok (.aload_n 2, 1) := by decide +kernel
theorem dX6_spellPath_64 : decode cX6_spellPath 64 = .ok (.invokevirtual 59, 3) := by decide +kernel
theorem dX6_spellPath_67 : decode cX6_spellPath 67 = .ok (.return_, 1) := by decide +kernel
theorem dX6_countForbidden_0 : decode cX6_countForbidden 0 = .ok (.iload_n 1, 1) := by decide +kernel
theorem dX6_countForbidden_1 : decode cX6_countForbidden 1 = .ok (.iconst 1, 1) := by decide +kernel
theorem dX6_countForbidden_2 : decode cX6_countForbidden 2 = .ok (.bipush 6, 2) := by decide +kernel
theorem dX6_countForbidden_4 : decode cX6_countForbidden 4 = .ok (.invokestatic 62, 3) := by decide +kernel
theorem dX6_countForbidden_7 : decode cX6_countForbidden 7 = .ok (.ifCond .eq 16, 3) := by decide +kernel
theorem dX6_countForbidden_10 : decode cX6_countForbidden 10 = .ok (.aload_n 0, 1) := by decide +kernel
theorem dX6_countForbidden_11 : decode cX6_countForbidden 11 = .ok (.iload_n 1, 1) := by decide +kernel
theorem dX6_countForbidden_12 : decode cX6_countForbidden 12 = .ok (.aload_n 0, 1) := by decide +kernel
theorem dX6_countForbidden_13 : decode cX6_countForbidden 13 = .ok (.invokevirtual 66, 3) := by decide +kernel
theorem dX6_countForbidden_16 : decode cX6_countForbidden 16 = .ok (.iconst (-1), 1) := by decide +kernel
theorem dX6_countForbidden_17 : decode cX6_countForbidden 17 = .ok (.invokevirtual 69, 3) := by decide +kernel
theorem dX6_countForbidden_20 : decode cX6_countForbidden 20 = .ok (.goto 4, 3) := by decide +kernel
theorem dX6_countForbidden_23 : decode cX6_countForbidden 23 = .ok (.iconst 0, 1) := by decide +kernel
theorem dX6_countForbidden_24 : decode cX6_countForbidden 24 = .ok (.ireturn, 1) := by decide +kernel
theorem dX6_spellForbidden_0 : decode cX6_spellForbidden 0 = .ok (.aload_n 3, 1) := by decide +kernel
theorem dX6_spellForbidden_1 : decode cX6_spellForbidden 1 = .ok (.invokevirtual 50, 3) := by decide +kernel
theorem dX6_spellForbidden_4 : decode cX6_spellForbidden 4 = .ok (.iload_n 2, 1) := by decide +kernel
theorem dX6_spellForbidden_5 : decode cX6_spellForbidden 5 = .ok (.istore 4, 2) := by decide +kernel
theorem dX6_spellForbidden_7 : decode cX6_spellForbidden 7 = .ok (.aload_n 0, 1) := by decide +kernel
theorem dX6_spellForbidden_8 : decode cX6_spellForbidden 8 = .ok (.invokevirtual 66, 3) := by decide +kernel
theorem dX6_spellForbidden_11 : decode cX6_spellForbidden 11 = .ok (.istore 5, 2) := by decide +kernel
theorem dX6_spellForbidden_13 : decode cX6_spellForbidden 13 = .ok (.iconst (-1), 1) := by decide +kernel
theorem dX6_spellForbidden_14 : decode cX6_spellForbidden 14 = .ok (.istore 6, 2) := by decide +kernel
theorem dX6_spellForbidden_16 : decode cX6_spellForbidden 16 = .ok (.iload_n 1, 1) := by decide +kernel
theorem dX6_spellForbidden_17 : decode cX6_spellForbidden 17 = .ok (.istore 7, 2) := by decide +kernel
theorem dX6_spellForbidden_19 : decode cX6_spellForbidden 19 = .ok (.iload 7, 2) := by decide +kernel
theorem dX6_spellForbidden_21 : decode cX6_spellForbidden 21 = .ok (.ifCond .le 81, 3) := by decide +kernel
theorem dX6_spellForbidden_24 : decode cX6_spellForbidden 24 = .ok (.iconst 0, 1) := by decide +kernel
theorem dX6_spellForbidden_25 : decode cX6_spellForbidden 25 = .ok (.istore 8, 2) := by decide +kernel
theorem dX6_spellForbidden_27 : decode cX6_spellForbidden 27 = .ok (.iload 8, 2) := by decide +kernel
theorem dX6_spellForbidden_29 : decode cX6_spellForbidden 29 = .ok (.iconst 4, 1) := by decide +kernel
theorem dX6_spellForbidden_30 : decode cX6_spellForbidden 30 = .ok (.if_icmp .ge 66, 3) := by decide +kernel
theorem dX6_spellForbidden_33 : decode cX6_spellForbidden 33 = .ok (.aload_n 0, 1) := by decide +kernel
theorem dX6_spellForbidden_34 : decode cX6_spellForbidden 34 = .ok (.iload 7, 2) := by decide +kernel
theorem dX6_spellForbidden_36 : decode cX6_spellForbidden 36 = .ok (.iload 5, 2) := by decide +kernel
theorem dX6_spellForbidden_38 : decode cX6_spellForbidden 38 = .ok (.iload 6, 2) := by decide +kernel
theorem dX6_spellForbidden_40 : decode cX6_spellForbidden 40 = .ok (.iload 8, 2) := by decide +kernel
theorem dX6_spellForbidden_42 : decode cX6_spellForbidden 42 = .ok (.invokevirtual 73, 3) := by decide +kernel
theorem dX6_spellForbidden_45 : decode cX6_spellForbidden 45 = .ok (.istore 9, 2) := by decide +kernel
theorem dX6_spellForbidden_47 : decode cX6_spellForbidden 47 = .ok (.iload 4, 2) := by decide +kernel
theorem dX6_spellForbidden_49 : decode cX6_spellForbidden 49 = .ok (.iload 9, 2) := by decide +kernel
theorem dX6_spellForbidden_51 : decode cX6_spellForbidden 51 = .ok (.if_icmp .ge 32, 3) := by decide +kernel
theorem dX6_spellForbidden_54 : decode cX6_spellForbidden 54 = .ok (.aload_n 3, 1) := by decide +kernel
theorem dX6_spellForbidden_55 : decode cX6_spellForbidden 55 = .ok (.iload 8, 2) := by decide +kernel
theorem dX6_spellForbidden_57 : decode cX6_spellForbidden 57 = .ok (.invokevirtual 55, 3) := by decide +kernel
theorem dX6_spellForbidden_60 : decode cX6_spellForbidden 60 = .ok (.aload_n 0, 1) := by decide +kernel
theorem dX6_spellForbidden_61 : decode cX6_spellForbidden 61 = .ok (.iload 5, 2) := by decide +kernel
theorem dX6_spellForbidden_63 : decode cX6_spellForbidden 63 = .ok (.iload 8, 2) := by decide +kernel
theorem dX6_spellForbidden_65 : decode cX6_spellForbidden 65 = .ok (.invokevirtual 77, 3) := by decide +kernel
theorem dX6_spellForbidden_68 : decode cX6_spellForbidden 68 = .ok (.istore 5, 2) := by decide +kernel
theorem dX6_spellForbidden_70 : decode cX6_spellForbidden 70 = .ok (.aload_n 0, 1) := by decide +kernel
theorem dX6_spellForbidden_71 : decode cX6_spellForbidden 71 = .ok (.iload 6, 2) := by decide +kernel
theorem dX6_spellForbidden_73 : decode cX6_spellForbidden 73 = .ok (.iload 8, 2) := by decide +kernel
theorem dX6_spellForbidden_75 : decode cX6_spellForbidden 75 = .ok (.invokevirtual 80, 3) := by decide +kernel
theorem dX6_spellForbidden_78 : decode cX6_spellForbidden 78 = .ok (.istore 6, 2) := by decide +kernel
theorem dX6_spellForbidden_80 : decode cX6_spellForbidden 80 = .ok (.goto 16, 3) := by decide +kernel
theorem dX6_spellForbidden_83 : decode cX6_spellForbidden 83 = .ok (.iload 4, 2) := by decide +kernel
theorem dX6_spellForbidden_85 : decode cX6_spellForbidden 85 = .ok (.iload 9, 2) := by decide +kernel
theorem dX6_spellForbidden_87 : decode cX6_spellForbidden 87 = .ok (.isub, 1) := by decide +kernel
theorem dX6_spellForbidden_88 : decode cX6_spellForbidden 88 = .ok (.istore 4, 2) := by decide +kernel
theorem dX6_spellForbidden_90 : decode cX6_spellForbidden 90 = .ok (.iinc 8 1, 3) := by decide +kernel
theorem dX6_spellForbidden_93 : decode cX6_spellForbidden 93 = .ok (.goto (-66), 3) := by decide +kernel
theorem dX6_spellForbidden_96 : decode cX6_spellForbidden 96 = .ok (.iinc 7 (-1), 3) := by decide +kernel
theorem dX6_spellForbidden_99 : decode cX6_spellForbidden 99 = .ok (.goto (-80), 3) := by decide +kernel
theorem dX6_spellForbidden_102 : decode cX6_spellForbidden 102 = .ok (.return_, 1) := by decide +kernel
theorem dX6_countForbiddenFrom_0 : decode cX6_countForbiddenFrom 0 = .ok (.iconst 0, 1) := by decide +kernel
theorem dX6_countForbiddenFrom_1 : decode cX6_countForbiddenFrom 1 = .ok (.istore 4, 2) := by decide +kernel
theorem dX6_countForbiddenFrom_3 : decode cX6_countForbiddenFrom 3 = .ok (.iconst 0, 1) := by decide +kernel
theorem dX6_countForbiddenFrom_4 : decode cX6_countForbiddenFrom 4 = .ok (.istore 5, 2) := by decide +kernel
theorem dX6_countForbiddenFrom_6 : decode cX6_countForbiddenFrom 6 = .ok (.iload 5, 2) := by decide +kernel
theorem dX6_countForbiddenFrom_8 : decode cX6_countForbiddenFrom 8 = .ok (.iconst 4, 1) := by decide +kernel
theorem dX6_countForbiddenFrom_9 : decode cX6_countForbiddenFrom 9 = .ok (.if_icmp .ge 23, 3) := by decide +kernel
theorem dX6_countForbiddenFrom_12 : decode cX6_countForbiddenFrom 12 = .ok (.iload 4, 2) := by decide +kernel
theorem dX6_countForbiddenFrom_14 : decode cX6_countForbiddenFrom 14 = .ok (.aload_n 0, 1) := by decide +kernel
theorem dX6_countForbiddenFrom_15 : decode cX6_countForbiddenFrom 15 = .ok (.iload_n 1, 1) := by decide +kernel
theorem dX6_countForbiddenFrom_16 : decode cX6_countForbiddenFrom 16 = .ok (.iload_n 2, 1) := by decide +kernel
theorem dX6_countForbiddenFrom_17 : decode cX6_countForbiddenFrom 17 = .ok (.iload_n 3, 1) := by decide +kernel
theorem dX6_countForbiddenFrom_18 : decode cX6_countForbiddenFrom 18 = .ok (.iload 5, 2) := by decide +kernel
theorem dX6_countForbiddenFrom_20 : decode cX6_countForbiddenFrom 20 = .ok (.invokevirtual 73, 3) := by decide +kernel
theorem dX6_countForbiddenFrom_23 : decode cX6_countForbiddenFrom 23 = .ok (.iadd, 1) := by decide +kernel
theorem dX6_countForbiddenFrom_24 : decode cX6_countForbiddenFrom 24 = .ok (.istore 4, 2) := by decide +kernel
theorem dX6_countForbiddenFrom_26 : decode cX6_countForbiddenFrom 26 = .ok (.iinc 5 1, 3) := by decide +kernel
theorem dX6_countForbiddenFrom_29 : decode cX6_countForbiddenFrom 29 = .ok (.goto (-23), 3) := by decide +kernel
theorem dX6_countForbiddenFrom_32 : decode cX6_countForbiddenFrom 32 = .ok (.iload 4, 2) := by decide +kernel
theorem dX6_countForbiddenFrom_34 : decode cX6_countForbiddenFrom 34 = .ok (.ireturn, 1) := by decide +kernel
theorem dX6_countForbiddenBy_0 : decode cX6_countForbiddenBy 0 = .ok (.aload_n 0, 1) := by decide +kernel
theorem dX6_countForbiddenBy_1 : decode cX6_countForbiddenBy 1 = .ok (.iload_n 2, 1) := by decide +kernel
theorem dX6_countForbiddenBy_2 : decode cX6_countForbiddenBy 2 = .ok (.iload 4, 2) := by decide +kernel
theorem dX6_countForbiddenBy_4 : decode cX6_countForbiddenBy 4 = .ok (.invokevirtual 77, 3) := by decide +kernel
theorem dX6_countForbiddenBy_7 : decode cX6_countForbiddenBy 7 = .ok (.istore 5, 2) := by decide +kernel
theorem dX6_countForbiddenBy_9 : decode cX6_countForbiddenBy 9 = .ok (.aload_n 0, 1) := by decide +kernel
theorem dX6_countForbiddenBy_10 : decode cX6_countForbiddenBy 10 = .ok (.iload_n 3, 1) := by decide +kernel
theorem dX6_countForbiddenBy_11 : decode cX6_countForbiddenBy 11 = .ok (.iload 4, 2) := by decide +kernel
theorem dX6_countForbiddenBy_13 : decode cX6_countForbiddenBy 13 = .ok (.invokevirtual 80, 3) := by decide +kernel
theorem dX6_countForbiddenBy_16 : decode cX6_countForbiddenBy 16 = .ok (.istore 6, 2) := by decide +kernel
theorem dX6_countForbiddenBy_18 : decode cX6_countForbiddenBy 18 = .ok (.iload_n 1, 1) := by decide +kernel
theorem dX6_countForbiddenBy_19 : decode cX6_countForbiddenBy 19 = .ok (.iconst 1, 1) := by decide +kernel
theorem dX6_countForbiddenBy_20 : decode cX6_countForbiddenBy 20 = .ok (.if_icmp .gt 25, 3) := by decide +kernel
theorem dX6_countForbiddenBy_23 : decode cX6_countForbiddenBy 23 = .ok (.iload 5, 2) := by decide +kernel
theorem dX6_countForbiddenBy_25 : decode cX6_countForbiddenBy 25 = .ok (.sipush 255, 3) := by decide +kernel
theorem dX6_countForbiddenBy_28 : decode cX6_countForbiddenBy 28 = .ok (.if_icmp .ne 15, 3) := by decide +kernel
theorem dX6_countForbiddenBy_31 : decode cX6_countForbiddenBy 31 = .ok (.iload 6, 2) := by decide +kernel
theorem dX6_countForbiddenBy_33 : decode cX6_countForbiddenBy 33 = .ok (.sipush 255, 3) := by decide +kernel
theorem dX6_countForbiddenBy_36 : decode cX6_countForbiddenBy 36 = .ok (.if_icmp .eq 7, 3) := by decide +kernel
theorem dX6_countForbiddenBy_39 : decode cX6_countForbiddenBy 39 = .ok (.iconst 1, 1) := by decide +kernel
theorem dX6_countForbiddenBy_40 : decode cX6_countForbiddenBy 40 = .ok (.goto 4, 3) := by decide +kernel
theorem dX6_countForbiddenBy_43 : decode cX6_countForbiddenBy 43 = .ok (.iconst 0, 1) := by decide +kernel
theorem dX6_countForbiddenBy_44 : decode cX6_countForbiddenBy 44 = .ok (.ireturn, 1) := by decide +kernel
theorem dX6_countForbiddenBy_45 : decode cX6_countForbiddenBy 45 = .ok (.iload 5, 2) := by decide +kernel
theorem dX6_countForbiddenBy_47 : decode cX6_countForbiddenBy 47 = .ok (.sipush 255, 3) := by decide +kernel
theorem dX6_countForbiddenBy_50 : decode cX6_countForbiddenBy 50 = .ok (.if_icmp .ne 7, 3) := by decide +kernel
theorem dX6_countForbiddenBy_53 : decode cX6_countForbiddenBy 53 = .ok (.iconst 0, 1) := by decide +kernel
theorem dX6_countForbiddenBy_54 : decode cX6_countForbiddenBy 54 = .ok (.goto 14, 3) := by decide +kernel
theorem dX6_countForbiddenBy_57 : decode cX6_countForbiddenBy 57 = .ok (.aload_n 0, 1) := by decide +kernel
theorem dX6_countForbiddenBy_58 : decode cX6_countForbiddenBy 58 = .ok (.iload_n 1, 1) := by decide +kernel
theorem dX6_countForbiddenBy_59 : decode cX6_countForbiddenBy 59 = .ok (.iconst 1, 1) := by decide +kernel
theorem dX6_countForbiddenBy_60 : decode cX6_countForbiddenBy 60 = .ok (.isub, 1) := by decide +kernel
theorem dX6_countForbiddenBy_61 : decode cX6_countForbiddenBy 61 = .ok (.iload 5, 2) := by decide +kernel
theorem dX6_countForbiddenBy_63 : decode cX6_countForbiddenBy 63 = .ok (.iload 6, 2) := by decide +kernel
theorem dX6_countForbiddenBy_65 : decode cX6_countForbiddenBy 65 = .ok (.invokevirtual 69, 3) := by decide +kernel
theorem dX6_countForbiddenBy_68 : decode cX6_countForbiddenBy 68 = .ok (.ireturn, 1) := by decide +kernel
theorem dX6_tailAfter_0 : decode cX6_tailAfter 0 = .ok (.iload_n 1, 1) := by decide +kernel
theorem dX6_tailAfter_1 : decode cX6_tailAfter 1 = .ok (.iconst (-1), 1) := by decide +kernel
theorem dX6_tailAfter_2 : decode cX6_tailAfter 2 = .ok (.if_icmp .ne 10, 3) := by decide +kernel
theorem dX6_tailAfter_5 : decode cX6_tailAfter 5 = .ok (.aload_n 0, 1) := by decide +kernel
theorem dX6_tailAfter_6 : decode cX6_tailAfter 6 = .ok (.invokevirtual 66, 3) := by decide +kernel
theorem dX6_tailAfter_9 : decode cX6_tailAfter 9 = .ok (.goto 9, 3) := by decide +kernel
theorem dX6_tailAfter_12 : decode cX6_tailAfter 12 = .ok (.aload_n 0, 1) := by decide +kernel
theorem dX6_tailAfter_13 : decode cX6_tailAfter 13 = .ok (.iload_n 1, 1) := by decide +kernel
theorem dX6_tailAfter_14 : decode cX6_tailAfter 14 = .ok (.iload_n 2, 1) := by decide +kernel
theorem dX6_tailAfter_15 : decode cX6_tailAfter 15 = .ok (.invokevirtual 77, 3) := by decide +kernel
theorem dX6_tailAfter_18 : decode cX6_tailAfter 18 = .ok (.ireturn, 1) := by decide +kernel
theorem dX6_countOrbits_0 : decode cX6_countOrbits 0 = .ok (.iload_n 1, 1) := by decide +kernel
theorem dX6_countOrbits_1 : decode cX6_countOrbits 1 = .ok (.iconst 1, 1) := by decide +kernel
theorem dX6_countOrbits_2 : decode cX6_countOrbits 2 = .ok (.bipush 7, 2) := by decide +kernel
theorem dX6_countOrbits_4 : decode cX6_countOrbits 4 = .ok (.invokestatic 62, 3) := by decide +kernel
theorem dX6_countOrbits_7 : decode cX6_countOrbits 7 = .ok (.ifCond .ne 5, 3) := by decide +kernel
theorem dX6_countOrbits_10 : decode cX6_countOrbits 10 = .ok (.iconst 0, 1) := by decide +kernel
theorem dX6_countOrbits_11 : decode cX6_countOrbits 11 = .ok (.ireturn, 1) := by decide +kernel
theorem dX6_countOrbits_12 : decode cX6_countOrbits 12 = .ok (.aload_n 0, 1) := by decide +kernel
theorem dX6_countOrbits_13 : decode cX6_countOrbits 13 = .ok (.getfield 24, 3) := by decide +kernel
theorem dX6_countOrbits_16 : decode cX6_countOrbits 16 = .ok (.iconst 0, 1) := by decide +kernel
theorem dX6_countOrbits_17 : decode cX6_countOrbits 17 = .ok (.iconst 0, 1) := by decide +kernel
theorem dX6_countOrbits_18 : decode cX6_countOrbits 18 = .ok (.iastore, 1) := by decide +kernel
theorem dX6_countOrbits_19 : decode cX6_countOrbits 19 = .ok (.aload_n 0, 1) := by decide +kernel
theorem dX6_countOrbits_20 : decode cX6_countOrbits 20 = .ok (.iconst 1, 1) := by decide +kernel
theorem dX6_countOrbits_21 : decode cX6_countOrbits 21 = .ok (.iconst 1, 1) := by decide +kernel
theorem dX6_countOrbits_22 : decode cX6_countOrbits 22 = .ok (.iload_n 1, 1) := by decide +kernel
theorem dX6_countOrbits_23 : decode cX6_countOrbits 23 = .ok (.aload_n 0, 1) := by decide +kernel
theorem dX6_countOrbits_24 : decode cX6_countOrbits 24 = .ok (.invokevirtual 66, 3) := by decide +kernel
theorem dX6_countOrbits_27 : decode cX6_countOrbits 27 = .ok (.invokevirtual 83, 3) := by decide +kernel
theorem dX6_countOrbits_30 : decode cX6_countOrbits 30 = .ok (.ireturn, 1) := by decide +kernel
theorem dX6_countNecklaces_0 : decode cX6_countNecklaces 0 = .ok (.iload 4, 2) := by decide +kernel
theorem dX6_countNecklaces_2 : decode cX6_countNecklaces 2 = .ok (.sipush 255, 3) := by decide +kernel
theorem dX6_countNecklaces_5 : decode cX6_countNecklaces 5 = .ok (.if_icmp .ne 5, 3) := by decide +kernel
theorem dX6_countNecklaces_8 : decode cX6_countNecklaces 8 = .ok (.iconst 0, 1) := by decide +kernel
theorem dX6_countNecklaces_9 : decode cX6_countNecklaces 9 = .ok (.ireturn, 1) := by decide +kernel
theorem dX6_countNecklaces_10 : decode cX6_countNecklaces 10 = .ok (.iload_n 1, 1) := by decide +kernel
theorem dX6_countNecklaces_11 : decode cX6_countNecklaces 11 = .ok (.iconst 1, 1) := by decide +kernel
theorem dX6_countNecklaces_12 : decode cX6_countNecklaces 12 = .ok (.if_icmp .lt 14, 3) := by decide +kernel
theorem dX6_countNecklaces_15 : decode cX6_countNecklaces 15 = .ok (.iload_n 1, 1) := by decide +kernel
theorem dX6_countNecklaces_16 : decode cX6_countNecklaces 16 = .ok (.iload_n 3, 1) := by decide +kernel
theorem dX6_countNecklaces_17 : decode cX6_countNecklaces 17 = .ok (.if_icmp .gt 9, 3) := by decide +kernel
theorem dX6_countNecklaces_20 : decode cX6_countNecklaces 20 = .ok (.iload_n 1, 1) := by decide +kernel
theorem dX6_countNecklaces_21 : decode cX6_countNecklaces 21 = .ok (.bipush 7, 2) := by decide +kernel
theorem dX6_countNecklaces_23 : decode cX6_countNecklaces 23 = .ok (.if_icmp .le 24, 3) := by decide +kernel
theorem dX6_countNecklaces_26 : decode cX6_countNecklaces 26 = .ok (.iload_n 2, 1) := by decide +kernel
theorem dX6_countNecklaces_27 : decode cX6_countNecklaces 27 = .ok (.iload_n 3, 1) := by decide +kernel
theorem dX6_countNecklaces_28 : decode cX6_countNecklaces 28 = .ok (.if_icmp .ne 17, 3) := by decide +kernel
theorem dX6_countNecklaces_31 : decode cX6_countNecklaces 31 = .ok (.aload_n 0, 1) := by decide +kernel
theorem dX6_countNecklaces_32 : decode cX6_countNecklaces 32 = .ok (.iload_n 3, 1) := by decide +kernel
theorem dX6_countNecklaces_33 : decode cX6_countNecklaces 33 = .ok (.iload 4, 2) := by decide +kernel
theorem dX6_countNecklaces_35 : decode cX6_countNecklaces 35 = .ok (.invokevirtual 86, 3) := by decide +kernel
theorem dX6_countNecklaces_38 : decode cX6_countNecklaces 38 = .ok (.ifCond .eq 7, 3) := by decide +kernel
theorem dX6_countNecklaces_41 : decode cX6_countNecklaces 41 = .ok (.iconst 1, 1) := by decide +kernel
theorem dX6_countNecklaces_42 : decode cX6_countNecklaces 42 = .ok (.goto 4, 3) := by decide +kernel
theorem dX6_countNecklaces_45 : decode cX6_countNecklaces 45 = .ok (.iconst 0, 1) := by decide +kernel
theorem dX6_countNecklaces_46 : decode cX6_countNecklaces 46 = .ok (.ireturn, 1) := by decide +kernel
theorem dX6_countNecklaces_47 : decode cX6_countNecklaces 47 = .ok (.iconst 0, 1) := by decide +kernel
theorem dX6_countNecklaces_48 : decode cX6_countNecklaces 48 = .ok (.istore 5, 2) := by decide +kernel
theorem dX6_countNecklaces_50 : decode cX6_countNecklaces 50 = .ok (.iload_n 2, 1) := by decide +kernel
theorem dX6_countNecklaces_51 : decode cX6_countNecklaces 51 = .ok (.iconst 1, 1) := by decide +kernel
theorem dX6_countNecklaces_52 : decode cX6_countNecklaces 52 = .ok (.if_icmp .lt 19, 3) := by decide +kernel
theorem dX6_countNecklaces_55 : decode cX6_countNecklaces 55 = .ok (.iload_n 2, 1) := by decide +kernel
theorem dX6_countNecklaces_56 : decode cX6_countNecklaces 56 = .ok (.iload_n 1, 1) := by decide +kernel
theorem dX6_countNecklaces_57 : decode cX6_countNecklaces 57 = .ok (.if_icmp .gt 14, 3) := by decide +kernel
theorem dX6_countNecklaces_60 : decode cX6_countNecklaces 60 = .ok (.aload_n 0, 1) := by decide +kernel
theorem dX6_countNecklaces_61 : decode cX6_countNecklaces 61 = .ok (.getfield 24, 3) := by decide +kernel
theorem dX6_countNecklaces_64 : decode cX6_countNecklaces 64 = .ok (.iload_n 1, 1) := by decide +kernel
theorem dX6_countNecklaces_65 : decode cX6_countNecklaces 65 = .ok (.iload_n 2, 1) := by decide +kernel
theorem dX6_countNecklaces_66 : decode cX6_countNecklaces 66 = .ok (.isub, 1) := by decide +kernel
theorem dX6_countNecklaces_67 : decode cX6_countNecklaces 67 = .ok (.iaload, 1) := by decide +kernel
theorem dX6_countNecklaces_68 : decode cX6_countNecklaces 68 = .ok (.goto 4, 3) := by decide +kernel
theorem dX6_countNecklaces_71 : decode cX6_countNecklaces 71 = .ok (.iconst 0, 1) := by decide +kernel
theorem dX6_countNecklaces_72 : decode cX6_countNecklaces 72 = .ok (.istore 6, 2) := by decide +kernel
theorem dX6_countNecklaces_74 : decode cX6_countNecklaces 74 = .ok (.iload 6, 2) := by decide +kernel
theorem dX6_countNecklaces_76 : decode cX6_countNecklaces 76 = .ok (.istore 7, 2) := by decide +kernel
theorem dX6_countNecklaces_78 : decode cX6_countNecklaces 78 = .ok (.iload 7, 2) := by decide +kernel
theorem dX6_countNecklaces_80 : decode cX6_countNecklaces 80 = .ok (.iconst 4, 1) := by decide +kernel
theorem dX6_countNecklaces_81 : decode cX6_countNecklaces 81 = .ok (.if_icmp .ge 54, 3) := by decide +kernel
theorem dX6_countNecklaces_84 : decode cX6_countNecklaces 84 = .ok (.aload_n 0, 1) := by decide +kernel
theorem dX6_countNecklaces_85 : decode cX6_countNecklaces 85 = .ok (.getfield 24, 3) := by decide +kernel
theorem dX6_countNecklaces_88 : decode cX6_countNecklaces 88 = .ok (.iload_n 1, 1) := by decide +kernel
theorem dX6_countNecklaces_89 : decode cX6_countNecklaces 89 = .ok (.iload 7, 2) := by decide +kernel
theorem dX6_countNecklaces_91 : decode cX6_countNecklaces 91 = .ok (.iastore, 1) := by decide +kernel
theorem dX6_countNecklaces_92 : decode cX6_countNecklaces 92 = .ok (.iload 7, 2) := by decide +kernel
theorem dX6_countNecklaces_94 : decode cX6_countNecklaces 94 = .ok (.iload 6, 2) := by decide +kernel
theorem dX6_countNecklaces_96 : decode cX6_countNecklaces 96 = .ok (.if_icmp .ne 7, 3) := by decide +kernel
theorem dX6_countNecklaces_99 : decode cX6_countNecklaces 99 = .ok (.iload_n 2, 1) := by decide +kernel
theorem dX6_countNecklaces_100 : decode cX6_countNecklaces 100 = .ok (.goto 4, 3) := by decide +kernel
theorem dX6_countNecklaces_103 : decode cX6_countNecklaces 103 = .ok (.iload_n 1, 1) := by decide +kernel
theorem dX6_countNecklaces_104 : decode cX6_countNecklaces 104 = .ok (.istore 8, 2) := by decide +kernel
theorem dX6_countNecklaces_106 : decode cX6_countNecklaces 106 = .ok (.iload 5, 2) := by decide +kernel
theorem dX6_countNecklaces_108 : decode cX6_countNecklaces 108 = .ok (.aload_n 0, 1) := by decide +kernel
theorem dX6_countNecklaces_109 : decode cX6_countNecklaces 109 = .ok (.iload_n 1, 1) := by decide +kernel
theorem dX6_countNecklaces_110 : decode cX6_countNecklaces 110 = .ok (.iconst 1, 1) := by decide +kernel
theorem dX6_countNecklaces_111 : decode cX6_countNecklaces 111 = .ok (.iadd, 1) := by decide +kernel
theorem dX6_countNecklaces_112 : decode cX6_countNecklaces 112 = .ok (.iload 8, 2) := by decide +kernel
theorem dX6_countNecklaces_114 : decode cX6_countNecklaces 114 = .ok (.iload_n 3, 1) := by decide +kernel
theorem dX6_countNecklaces_115 : decode cX6_countNecklaces 115 = .ok (.aload_n 0, 1) := by decide +kernel
theorem dX6_countNecklaces_116 : decode cX6_countNecklaces 116 = .ok (.iload 4, 2) := by decide +kernel
theorem dX6_countNecklaces_118 : decode cX6_countNecklaces 118 = .ok (.iload 7, 2) := by decide +kernel
theorem dX6_countNecklaces_120 : decode cX6_countNecklaces 120 = .ok (.invokevirtual 77, 3) := by decide +kernel
theorem dX6_countNecklaces_123 : decode cX6_countNecklaces 123 = .ok (.invokevirtual 83, 3) := by decide +kernel
theorem dX6_countNecklaces_126 : decode cX6_countNecklaces 126 = .ok (.iadd, 1) := by decide +kernel
theorem dX6_countNecklaces_127 : decode cX6_countNecklaces 127 = .ok (.istore 5, 2) := by decide +kernel
theorem dX6_countNecklaces_129 : decode cX6_countNecklaces 129 = .ok (.iinc 7 1, 3) := by decide +kernel
theorem dX6_countNecklaces_132 : decode cX6_countNecklaces 132 = .ok (.goto (-54), 3) := by decide +kernel
theorem dX6_countNecklaces_135 : decode cX6_countNecklaces 135 = .ok (.iload 5, 2) := by decide +kernel
theorem dX6_countNecklaces_137 : decode cX6_countNecklaces 137 = .ok (.ireturn, 1) := by decide +kernel
theorem dX6_repeatsForever_0 : decode cX6_repeatsForever 0 = .ok (.aload_n 0, 1) := by decide +kernel
theorem dX6_repeatsForever_1 : decode cX6_repeatsForever 1 = .ok (.invokevirtual 66, 3) := by decide +kernel
theorem dX6_repeatsForever_4 : decode cX6_repeatsForever 4 = .ok (.istore_n 3, 1) := by decide +kernel
theorem dX6_repeatsForever_5 : decode cX6_repeatsForever 5 = .ok (.iload_n 2, 1) := by decide +kernel
theorem dX6_repeatsForever_6 : decode cX6_repeatsForever 6 = .ok (.istore 4, 2) := by decide +kernel
theorem dX6_repeatsForever_8 : decode cX6_repeatsForever 8 = .ok (.iconst 0, 1) := by decide +kernel
theorem dX6_repeatsForever_9 : decode cX6_repeatsForever 9 = .ok (.istore 5, 2) := by decide +kernel
theorem dX6_repeatsForever_11 : decode cX6_repeatsForever 11 = .ok (.iload 5, 2) := by decide +kernel
theorem dX6_repeatsForever_13 : decode cX6_repeatsForever 13 = .ok (.bipush 8, 2) := by decide +kernel
theorem dX6_repeatsForever_15 : decode cX6_repeatsForever 15 = .ok (.if_icmp .gt 55, 3) := by decide +kernel
theorem dX6_repeatsForever_18 : decode cX6_repeatsForever 18 = .ok (.iload 4, 2) := by decide +kernel
theorem dX6_repeatsForever_20 : decode cX6_repeatsForever 20 = .ok (.iload_n 3, 1) := by decide +kernel
theorem dX6_repeatsForever_21 : decode cX6_repeatsForever 21 = .ok (.if_icmp .eq 49, 3) := by decide +kernel
theorem dX6_repeatsForever_24 : decode cX6_repeatsForever 24 = .ok (.iload 4, 2) := by decide +kernel
theorem dX6_repeatsForever_26 : decode cX6_repeatsForever 26 = .ok (.istore_n 3, 1) := by decide +kernel
theorem dX6_repeatsForever_27 : decode cX6_repeatsForever 27 = .ok (.iconst 1, 1) := by decide +kernel
theorem dX6_repeatsForever_28 : decode cX6_repeatsForever 28 = .ok (.istore 6, 2) := by decide +kernel
theorem dX6_repeatsForever_30 : decode cX6_repeatsForever 30 = .ok (.iload 6, 2) := by decide +kernel
theorem dX6_repeatsForever_32 : decode cX6_repeatsForever 32 = .ok (.iload_n 1, 1) := by decide +kernel
theorem dX6_repeatsForever_33 : decode cX6_repeatsForever 33 = .ok (.if_icmp .gt 31, 3) := by decide +kernel
theorem dX6_repeatsForever_36 : decode cX6_repeatsForever 36 = .ok (.iload 6, 2) := by decide +kernel
theorem dX6_repeatsForever_38 : decode cX6_repeatsForever 38 = .ok (.bipush 7, 2) := by decide +kernel
theorem dX6_repeatsForever_40 : decode cX6_repeatsForever 40 = .ok (.if_icmp .gt 24, 3) := by decide +kernel
theorem dX6_repeatsForever_43 : decode cX6_repeatsForever 43 = .ok (.aload_n 0, 1) := by decide +kernel
theorem dX6_repeatsForever_44 : decode cX6_repeatsForever 44 = .ok (.iload 4, 2) := by decide +kernel
theorem dX6_repeatsForever_46 : decode cX6_repeatsForever 46 = .ok (.aload_n 0, 1) := by decide +kernel
theorem dX6_repeatsForever_47 : decode cX6_repeatsForever 47 = .ok (.getfield 24, 3) := by decide +kernel
theorem dX6_repeatsForever_50 : decode cX6_repeatsForever 50 = .ok (.iload 6, 2) := by decide +kernel
theorem dX6_repeatsForever_52 : decode cX6_repeatsForever 52 = .ok (.iaload, 1) := by decide +kernel
theorem dX6_repeatsForever_53 : decode cX6_repeatsForever 53 = .ok (.invokevirtual 77, 3) := by decide +kernel
theorem dX6_repeatsForever_56 : decode cX6_repeatsForever 56 = .ok (.istore 4, 2) := by decide +kernel
theorem dX6_repeatsForever_58 : decode cX6_repeatsForever 58 = .ok (.iinc 6 1, 3) := by decide +kernel
theorem dX6_repeatsForever_61 : decode cX6_repeatsForever 61 = .ok (.goto (-31), 3) := by decide +kernel
theorem dX6_repeatsForever_64 : decode cX6_repeatsForever 64 = .ok (.iinc 5 1, 3) := by decide +kernel
theorem dX6_repeatsForever_67 : decode cX6_repeatsForever 67 = .ok (.goto (-56), 3) := by decide +kernel
theorem dX6_repeatsForever_70 : decode cX6_repeatsForever 70 = .ok (.iload 4, 2) := by decide +kernel
theorem dX6_repeatsForever_72 : decode cX6_repeatsForever 72 = .ok (.sipush 255, 3) := by decide +kernel
theorem dX6_repeatsForever_75 : decode cX6_repeatsForever 75 = .ok (.if_icmp .eq 7, 3) := by decide +kernel
theorem dX6_repeatsForever_78 : decode cX6_repeatsForever 78 = .ok (.iconst 1, 1) := by decide +kernel
theorem dX6_repeatsForever_79 : decode cX6_repeatsForever 79 = .ok (.goto 4, 3) := by decide +kernel
theorem dX6_repeatsForever_82 : decode cX6_repeatsForever 82 = .ok (.iconst 0, 1) := by decide +kernel
theorem dX6_repeatsForever_83 : decode cX6_repeatsForever 83 = .ok (.ireturn, 1) := by decide +kernel
theorem dX7_init_0 : decode cX7_init 0 = .ok (.aload_n 0, 1) := by decide +kernel
theorem dX7_init_1 : decode cX7_init 1 = .ok (.invokespecial 1, 3) := by decide +kernel
theorem dX7_init_4 : decode cX7_init 4 = .ok (.aload_n 0, 1) := by decide +kernel
theorem dX7_init_5 : decode cX7_init 5 = .ok (.iload_n 1, 1) := by decide +kernel
theorem dX7_init_6 : decode cX7_init 6 = .ok (.ifCond .le 7, 3) := by decide +kernel
theorem dX7_init_9 : decode cX7_init 9 = .ok (.iload_n 1, 1) := by decide +kernel
theorem dX7_init_10 : decode cX7_init 10 = .ok (.goto 4, 3) := by decide +kernel
theorem dX7_init_13 : decode cX7_init 13 = .ok (.iconst 0, 1) := by decide +kernel
theorem dX7_init_14 : decode cX7_init 14 = .ok (.newarray .char, 2) := by decide +kernel
theorem dX7_init_16 : decode cX7_init 16 = .ok (.putfield 7, 3) := by decide +kernel
theorem dX7_init_19 : decode cX7_init 19 = .ok (.return_, 1) := by decide +kernel
theorem dX7_length_0 : decode cX7_length 0 = .ok (.aload_n 0, 1) := by decide +kernel
theorem dX7_length_1 : decode cX7_length 1 = .ok (.getfield 13, 3) := by decide +kernel
theorem dX7_length_4 : decode cX7_length 4 = .ok (.ireturn, 1) := by decide +kernel
theorem dX7_clear_0 : decode cX7_clear 0 = .ok (.aload_n 0, 1) := by decide +kernel
theorem dX7_clear_1 : decode cX7_clear 1 = .ok (.iconst 0, 1) := by decide +kernel
theorem dX7_clear_2 : decode cX7_clear 2 = .ok (.putfield 13, 3) := by decide +kernel
theorem dX7_clear_5 : decode cX7_clear 5 = .ok (.return_, 1) := by decide +kernel
theorem dX7_add_0 : decode cX7_add 0 = .ok (.aload_n 0, 1) := by decide +kernel
theorem dX7_add_1 : decode cX7_add 1 = .ok (.getfield 13, 3) := by decide +kernel
theorem dX7_add_4 : decode cX7_add 4 = .ok (.ifCond .lt 15, 3) := by decide +kernel
theorem dX7_add_7 : decode cX7_add 7 = .ok (.aload_n 0, 1) := by decide +kernel
theorem dX7_add_8 : decode cX7_add 8 = .ok (.getfield 13, 3) := by decide +kernel
theorem dX7_add_11 : decode cX7_add 11 = .ok (.aload_n 0, 1) := by decide +kernel
theorem dX7_add_12 : decode cX7_add 12 = .ok (.getfield 7, 3) := by decide +kernel
theorem dX7_add_15 : decode cX7_add 15 = .ok (.arraylength, 1) := by decide +kernel
theorem dX7_add_16 : decode cX7_add 16 = .ok (.if_icmp .lt 5, 3) := by decide +kernel
theorem dX7_add_19 : decode cX7_add 19 = .ok (.iconst 0, 1) := by decide +kernel
theorem dX7_add_20 : decode cX7_add 20 = .ok (.ireturn, 1) := by decide +kernel
theorem dX7_add_21 : decode cX7_add 21 = .ok (.aload_n 0, 1) := by decide +kernel
theorem dX7_add_22 : decode cX7_add 22 = .ok (.getfield 7, 3) := by decide +kernel
theorem dX7_add_25 : decode cX7_add 25 = .ok (.aload_n 0, 1) := by decide +kernel
theorem dX7_add_26 : decode cX7_add 26 = .ok (.getfield 13, 3) := by decide +kernel
theorem dX7_add_29 : decode cX7_add 29 = .ok (.iload_n 1, 1) := by decide +kernel
theorem dX7_add_30 : decode cX7_add 30 = .ok (.i2c, 1) := by decide +kernel
theorem dX7_add_31 : decode cX7_add 31 = .ok (.castore, 1) := by decide +kernel
theorem dX7_add_32 : decode cX7_add 32 = .ok (.aload_n 0, 1) := by decide +kernel
theorem dX7_add_33 : decode cX7_add 33 = .ok (.dup, 1) := by decide +kernel
theorem dX7_add_34 : decode cX7_add 34 = .ok (.getfield 13, 3) := by decide +kernel
theorem dX7_add_37 : decode cX7_add 37 = .ok (.iconst 1, 1) := by decide +kernel
theorem dX7_add_38 : decode cX7_add 38 = .ok (.iadd, 1) := by decide +kernel
theorem dX7_add_39 : decode cX7_add 39 = .ok (.putfield 13, 3) := by decide +kernel
theorem dX7_add_42 : decode cX7_add 42 = .ok (.iconst 1, 1) := by decide +kernel
theorem dX7_add_43 : decode cX7_add 43 = .ok (.ireturn, 1) := by decide +kernel
theorem dX7_addLetter_0 : decode cX7_addLetter 0 = .ok (.aload_n 0, 1) := by decide +kernel
theorem dX7_addLetter_1 : decode cX7_addLetter 1 = .ok (.bipush 97, 2) := by decide +kernel
theorem dX7_addLetter_3 : decode cX7_addLetter 3 = .ok (.iload_n 1, 1) := by decide +kernel
theorem dX7_addLetter_4 : decode cX7_addLetter 4 = .ok (.iadd, 1) := by decide +kernel
theorem dX7_addLetter_5 : decode cX7_addLetter 5 = .ok (.invokevirtual 17, 3) := by decide +kernel
theorem dX7_addLetter_8 : decode cX7_addLetter 8 = .ok (.pop, 1) := by decide +kernel
theorem dX7_addLetter_9 : decode cX7_addLetter 9 = .ok (.return_, 1) := by decide +kernel
theorem dX7_at_0 : decode cX7_at 0 = .ok (.iload_n 1, 1) := by decide +kernel
theorem dX7_at_1 : decode cX7_at 1 = .ok (.ifCond .lt 29, 3) := by decide +kernel
theorem dX7_at_4 : decode cX7_at 4 = .ok (.iload_n 1, 1) := by decide +kernel
theorem dX7_at_5 : decode cX7_at 5 = .ok (.aload_n 0, 1) := by decide +kernel
theorem dX7_at_6 : decode cX7_at 6 = .ok (.getfield 13, 3) := by decide +kernel
theorem dX7_at_9 : decode cX7_at 9 = .ok (.if_icmp .ge 21, 3) := by decide +kernel
theorem dX7_at_12 : decode cX7_at 12 = .ok (.iload_n 1, 1) := by decide +kernel
theorem dX7_at_13 : decode cX7_at 13 = .ok (.aload_n 0, 1) := by decide +kernel
theorem dX7_at_14 : decode cX7_at 14 = .ok (.getfield 7, 3) := by decide +kernel
theorem dX7_at_17 : decode cX7_at 17 = .ok (.arraylength, 1) := by decide +kernel
theorem dX7_at_18 : decode cX7_at 18 = .ok (.if_icmp .ge 12, 3) := by decide +kernel
theorem dX7_at_21 : decode cX7_at 21 = .ok (.aload_n 0, 1) := by decide +kernel
theorem dX7_at_22 : decode cX7_at 22 = .ok (.getfield 7, 3) := by decide +kernel
theorem dX7_at_25 : decode cX7_at 25 = .ok (.iload_n 1, 1) := by decide +kernel
theorem dX7_at_26 : decode cX7_at 26 = .ok (.caload, 1) := by decide +kernel
theorem dX7_at_27 : decode cX7_at 27 = .ok (.goto 4, 3) := by decide +kernel
theorem dX7_at_30 : decode cX7_at 30 = .ok (.iconst 0, 1) := by decide +kernel
theorem dX7_at_31 : decode cX7_at 31 = .ok (.ireturn, 1) := by decide +kernel
theorem dX7_turnAround_0 : decode cX7_turnAround 0 = .ok (.aload_n 0, 1) := by decide +kernel
theorem dX7_turnAround_1 : decode cX7_turnAround 1 = .ok (.getfield 13, 3) := by decide +kernel
theorem dX7_turnAround_4 : decode cX7_turnAround 4 = .ok (.aload_n 0, 1) := by decide +kernel
theorem dX7_turnAround_5 : decode cX7_turnAround 5 = .ok (.getfield 7, 3) := by decide +kernel
theorem dX7_turnAround_8 : decode cX7_turnAround 8 = .ok (.arraylength, 1) := by decide +kernel
theorem dX7_turnAround_9 : decode cX7_turnAround 9 = .ok (.invokestatic 21, 3) := by decide +kernel
theorem dX7_turnAround_12 : decode cX7_turnAround 12 = .ok (.iconst 1, 1) := by decide +kernel
theorem dX7_turnAround_13 : decode cX7_turnAround 13 = .ok (.isub, 1) := by decide +kernel
theorem dX7_turnAround_14 : decode cX7_turnAround 14 = .ok (.istore_n 1, 1) := by decide +kernel
theorem dX7_turnAround_15 : decode cX7_turnAround 15 = .ok (.iconst 0, 1) := by decide +kernel
theorem dX7_turnAround_16 : decode cX7_turnAround 16 = .ok (.istore_n 2, 1) := by decide +kernel
theorem dX7_turnAround_17 : decode cX7_turnAround 17 = .ok (.iload_n 2, 1) := by decide +kernel
theorem dX7_turnAround_18 : decode cX7_turnAround 18 = .ok (.iload_n 1, 1) := by decide +kernel
theorem dX7_turnAround_19 : decode cX7_turnAround 19 = .ok (.if_icmp .ge 38, 3) := by decide +kernel
theorem dX7_turnAround_22 : decode cX7_turnAround 22 = .ok (.aload_n 0, 1) := by decide +kernel
theorem dX7_turnAround_23 : decode cX7_turnAround 23 = .ok (.getfield 7, 3) := by decide +kernel
theorem dX7_turnAround_26 : decode cX7_turnAround 26 = .ok (.iload_n 2, 1) := by decide +kernel
theorem dX7_turnAround_27 : decode cX7_turnAround 27 = .ok (.caload, 1) := by decide +kernel
theorem dX7_turnAround_28 : decode cX7_turnAround 28 = .ok (.istore_n 3, 1) := by decide +kernel
theorem dX7_turnAround_29 : decode cX7_turnAround 29 = .ok (.aload_n 0, 1) := by decide +kernel
theorem dX7_turnAround_30 : decode cX7_turnAround 30 = .ok (.getfield 7, 3) := by decide +kernel
theorem dX7_turnAround_33 : decode cX7_turnAround 33 = .ok (.iload_n 2, 1) := by decide +kernel
theorem dX7_turnAround_34 : decode cX7_turnAround 34 = .ok (.aload_n 0, 1) := by decide +kernel
theorem dX7_turnAround_35 : decode cX7_turnAround 35 = .ok (.getfield 7, 3) := by decide +kernel
theorem dX7_turnAround_38 : decode cX7_turnAround 38 = .ok (.iload_n 1, 1) := by decide +kernel
theorem dX7_turnAround_39 : decode cX7_turnAround 39 = .ok (.caload, 1) := by decide +kernel
theorem dX7_turnAround_40 : decode cX7_turnAround 40 = .ok (.castore, 1) := by decide +kernel
theorem dX7_turnAround_41 : decode cX7_turnAround 41 = .ok (.aload_n 0, 1) := by decide +kernel
theorem dX7_turnAround_42 : decode cX7_turnAround 42 = .ok (.getfield 7, 3) := by decide +kernel
theorem dX7_turnAround_45 : decode cX7_turnAround 45 = .ok (.iload_n 1, 1) := by decide +kernel
theorem dX7_turnAround_46 : decode cX7_turnAround 46 = .ok (.iload_n 3, 1) := by decide +kernel
theorem dX7_turnAround_47 : decode cX7_turnAround 47 = .ok (.castore, 1) := by decide +kernel
theorem dX7_turnAround_48 : decode cX7_turnAround 48 = .ok (.iinc 1 (-1), 3) := by decide +kernel
theorem dX7_turnAround_51 : decode cX7_turnAround 51 = .ok (.iinc 2 1, 3) := by decide +kernel
theorem dX7_turnAround_54 : decode cX7_turnAround 54 = .ok (.goto (-37), 3) := by decide +kernel
theorem dX7_turnAround_57 : decode cX7_turnAround 57 = .ok (.return_, 1) := by decide +kernel
theorem dX8_init_0 : decode cX8_init 0 = .ok (.aload_n 0, 1) := by decide +kernel
theorem dX8_init_1 : decode cX8_init 1 = .ok (.invokespecial 3, 3) := by decide +kernel
theorem dX8_init_4 : decode cX8_init 4 = .ok (.aload_n 0, 1) := by decide +kernel
theorem dX8_init_5 : decode cX8_init 5 = .ok (.sipush 256, 3) := by decide +kernel
theorem dX8_init_8 : decode cX8_init 8 = .ok (.newarray .long, 2) := by decide +kernel
theorem dX8_init_10 : decode cX8_init 10 = .ok (.putfield 11, 3) := by decide +kernel
theorem dX8_init_13 : decode cX8_init 13 = .ok (.aload_n 0, 1) := by decide +kernel
theorem dX8_init_14 : decode cX8_init 14 = .ok (.bipush 64, 2) := by decide +kernel
theorem dX8_init_16 : decode cX8_init 16 = .ok (.newarray .int, 2) := by decide +kernel
theorem dX8_init_18 : decode cX8_init 18 = .ok (.putfield 15, 3) := by decide +kernel
theorem dX8_init_21 : decode cX8_init 21 = .ok (.return_, 1) := by decide +kernel
theorem dX8_clear_0 : decode cX8_clear 0 = .ok (.aload_n 0, 1) := by decide +kernel
theorem dX8_clear_1 : decode cX8_clear 1 = .ok (.getfield 11, 3) := by decide +kernel
theorem dX8_clear_4 : decode cX8_clear 4 = .ok (.lconst 0, 1) := by decide +kernel
theorem dX8_clear_5 : decode cX8_clear 5 = .ok (.invokestatic 19, 3) := by decide +kernel
theorem dX8_clear_8 : decode cX8_clear 8 = .ok (.return_, 1) := by decide +kernel
theorem dX8_link_0 : decode cX8_link 0 = .ok (.iload_n 1, 1) := by decide +kernel
theorem dX8_link_1 : decode cX8_link 1 = .ok (.ifCond .lt 30, 3) := by decide +kernel
theorem dX8_link_4 : decode cX8_link 4 = .ok (.iload_n 1, 1) := by decide +kernel
theorem dX8_link_5 : decode cX8_link 5 = .ok (.bipush 64, 2) := by decide +kernel
theorem dX8_link_7 : decode cX8_link 7 = .ok (.if_icmp .ge 24, 3) := by decide +kernel
theorem dX8_link_10 : decode cX8_link 10 = .ok (.iload_n 2, 1) := by decide +kernel
theorem dX8_link_11 : decode cX8_link 11 = .ok (.invokestatic 25, 3) := by decide +kernel
theorem dX8_link_14 : decode cX8_link 14 = .ok (.ifCond .eq 17, 3) := by decide +kernel
theorem dX8_link_17 : decode cX8_link 17 = .ok (.aload_n 0, 1) := by decide +kernel
theorem dX8_link_18 : decode cX8_link 18 = .ok (.getfield 11, 3) := by decide +kernel
theorem dX8_link_21 : decode cX8_link 21 = .ok (.iconst 4, 1) := by decide +kernel
theorem dX8_link_22 : decode cX8_link 22 = .ok (.iload_n 1, 1) := by decide +kernel
theorem dX8_link_23 : decode cX8_link 23 = .ok (.imul, 1) := by decide +kernel
theorem dX8_link_24 : decode cX8_link 24 = .ok (.iload_n 2, 1) := by decide +kernel
theorem dX8_link_25 : decode cX8_link 25 = .ok (.iadd, 1) := by decide +kernel
theorem dX8_link_26 : decode cX8_link 26 = .ok (.dup2, 1) := by decide +kernel
theorem dX8_link_27 : decode cX8_link 27 = .ok (.laload, 1) := by decide +kernel
theorem dX8_link_28 : decode cX8_link 28 = .ok (.lload_n 3, 1) := by decide +kernel
theorem dX8_link_29 : decode cX8_link 29 = .ok (.lor, 1) := by decide +kernel
theorem dX8_link_30 : decode cX8_link 30 = .ok (.lastore, 1) := by decide +kernel
theorem dX8_link_31 : decode cX8_link 31 = .ok (.return_, 1) := by decide +kernel
theorem dX8_compressCore_0 : decode cX8_compressCore 0 = .ok (.aload_n 0, 1) := by decide +kernel
theorem dX8_compressCore_1 : decode cX8_compressCore 1 = .ok (.invokevirtual 29, 3) := by decide +kernel
theorem dX8_compressCore_4 : decode cX8_compressCore 4 = .ok (.lstore_n 2, 1) := by decide +kernel
theorem dX8_compressCore_5 : decode cX8_compressCore 5 = .ok (.lload_n 2, 1) := by decide +kernel
theorem dX8_compressCore_6 : decode cX8_compressCore 6 = .ok (.invokestatic 33, 3) := by decide +kernel
theorem dX8_compressCore_9 : decode cX8_compressCore 9 = .ok (.istore 4, 2) := by decide +kernel
theorem dX8_compressCore_11 : decode cX8_compressCore 11 = .ok (.iload 4, 2) := by decide +kernel
theorem dX8_compressCore_13 : decode cX8_compressCore 13 = .ok (.bipush 8, 2) := by decide +kernel
theorem dX8_compressCore_15 : decode cX8_compressCore 15 = .ok (.if_icmp .gt 54, 3) := by decide +kernel
theorem dX8_compressCore_18 : decode cX8_compressCore 18 = .ok (.aload_n 0, 1) := by decide +kernel
theorem dX8_compressCore_19 : decode cX8_compressCore 19 = .ok (.lload_n 2, 1) := by decide +kernel
theorem dX8_compressCore_20 : decode cX8_compressCore 20 = .ok (.invokevirtual 39, 3) := by decide +kernel
theorem dX8_compressCore_23 : decode cX8_compressCore 23 = .ok (.aload_n 1, 1) := by decide +kernel
theorem dX8_compressCore_24 : decode cX8_compressCore 24 = .ok (.invokevirtual 43, 3) := by decide +kernel
theorem dX8_compressCore_27 : decode cX8_compressCore 27 = .ok (.iconst 0, 1) := by decide +kernel
theorem dX8_compressCore_28 : decode cX8_compressCore 28 = .ok (.istore 5, 2) := by decide +kernel
theorem dX8_compressCore_30 : decode cX8_compressCore 30 = .ok (.iload 5, 2) := by decide +kernel
theorem dX8_compressCore_32 : decode cX8_compressCore 32 = .ok (.bipush 64, 2) := by decide +kernel
theorem dX8_compressCore_34 : decode cX8_compressCore 34 = .ok (.if_icmp .ge 35, 3) := by decide +kernel
theorem dX8_compressCore_37 : decode cX8_compressCore 37 = .ok (.lload_n 2, 1) := by decide +kernel
theorem dX8_compressCore_38 : decode cX8_compressCore 38 = .ok (.iload 5, 2) := by decide +kernel
theorem dX8_compressCore_40 : decode cX8_compressCore 40 = .ok (.lshr, 1) := by decide +kernel
theorem dX8_compressCore_41 : decode cX8_compressCore 41 = .ok (.lconst 1, 1) := by decide +kernel
theorem dX8_compressCore_42 : decode cX8_compressCore 42 = .ok (.land, 1) := by decide +kernel
theorem dX8_compressCore_43 : decode cX8_compressCore 43 = .ok (.lconst 0, 1) := by decide +kernel
theorem dX8_compressCore_44 : decode cX8_compressCore 44 = .ok (.lcmp, 1) := by decide +kernel
theorem dX8_compressCore_45 : decode cX8_compressCore 45 = .ok (.ifCond .eq 18, 3) := by decide +kernel
theorem dX8_compressCore_48 : decode cX8_compressCore 48 = .ok (.aload_n 0, 1) := by decide +kernel
theorem dX8_compressCore_49 : decode cX8_compressCore 49 = .ok (.iload 5, 2) := by decide +kernel
theorem dX8_compressCore_51 : decode cX8_compressCore 51 = .ok (.aload_n 0, 1) := by decide +kernel
theorem dX8_compressCore_52 : decode cX8_compressCore 52 = .ok (.getfield 15, 3) := by decide +kernel
theorem dX8_compressCore_55 : decode cX8_compressCore 55 = .ok (.iload 5, 2) := by decide +kernel
theorem dX8_compressCore_57 : decode cX8_compressCore 57 = .ok (.iaload, 1) := by decide +kernel
theorem dX8_compressCore_58 : decode cX8_compressCore 58 = .ok (.lload_n 2, 1) := by decide +kernel
theorem dX8_compressCore_59 : decode cX8_compressCore 59 = .ok (.aload_n 1, 1) := by decide +kernel
theorem dX8_compressCore_60 : decode cX8_compressCore 60 = .ok (.invokevirtual 48, 3) := by decide +kernel
theorem dX8_compressCore_63 : decode cX8_compressCore 63 = .ok (.iinc 5 1, 3) := by decide +kernel
theorem dX8_compressCore_66 : decode cX8_compressCore 66 = .ok (.goto (-36), 3) := by decide +kernel
theorem dX8_compressCore_69 : decode cX8_compressCore 69 = .ok (.iload 4, 2) := by decide +kernel
theorem dX8_compressCore_71 : decode cX8_compressCore 71 = .ok (.ireturn, 1) := by decide +kernel
theorem dX8_trim_0 : decode cX8_trim 0 = .ok (.ldc2_w 52, 3) := by decide +kernel
theorem dX8_trim_3 : decode cX8_trim 3 = .ok (.lstore_n 1, 1) := by decide +kernel
theorem dX8_trim_4 : decode cX8_trim 4 = .ok (.iconst 1, 1) := by decide +kernel
theorem dX8_trim_5 : decode cX8_trim 5 = .ok (.istore_n 3, 1) := by decide +kernel
theorem dX8_trim_6 : decode cX8_trim 6 = .ok (.iconst 0, 1) := by decide +kernel
theorem dX8_trim_7 : decode cX8_trim 7 = .ok (.istore 4, 2) := by decide +kernel
theorem dX8_trim_9 : decode cX8_trim 9 = .ok (.iload 4, 2) := by decide +kernel
theorem dX8_trim_11 : decode cX8_trim 11 = .ok (.bipush 64, 2) := by decide +kernel
theorem dX8_trim_13 : decode cX8_trim 13 = .ok (.if_icmp .gt 112, 3) := by decide +kernel
theorem dX8_trim_16 : decode cX8_trim 16 = .ok (.iload_n 3, 1) := by decide +kernel
theorem dX8_trim_17 : decode cX8_trim 17 = .ok (.ifCond .eq 108, 3) := by decide +kernel
theorem dX8_trim_20 : decode cX8_trim 20 = .ok (.lconst 0, 1) := by decide +kernel
theorem dX8_trim_21 : decode cX8_trim 21 = .ok (.lstore 5, 2) := by decide +kernel
theorem dX8_trim_23 : decode cX8_trim 23 = .ok (.lconst 0, 1) := by decide +kernel
theorem dX8_trim_24 : decode cX8_trim 24 = .ok (.lstore 7, 2) := by decide +kernel
theorem dX8_trim_26 : decode cX8_trim 26 = .ok (.iconst 0, 1) := by decide +kernel
theorem dX8_trim_27 : decode cX8_trim 27 = .ok (.istore 9, 2) := by decide +kernel
theorem dX8_trim_29 : decode cX8_trim 29 = .ok (.iload 9, 2) := by decide +kernel
theorem dX8_trim_31 : decode cX8_trim 31 = .ok (.bipush 64, 2) := by decide +kernel
theorem dX8_trim_33 : decode cX8_trim 33 = .ok (.if_icmp .ge 61, 3) := by decide +kernel
theorem dX8_trim_36 : decode cX8_trim 36 = .ok (.lload_n 1, 1) := by decide +kernel
theorem dX8_trim_37 : decode cX8_trim 37 = .ok (.iload 9, 2) := by decide +kernel
theorem dX8_trim_39 : decode cX8_trim 39 = .ok (.lshr, 1) := by decide +kernel
theorem dX8_trim_40 : decode cX8_trim 40 = .ok (.lconst 1, 1) := by decide +kernel
theorem dX8_trim_41 : decode cX8_trim 41 = .ok (.land, 1) := by decide +kernel
theorem dX8_trim_42 : decode cX8_trim 42 = .ok (.lconst 0, 1) := by decide +kernel
theorem dX8_trim_43 : decode cX8_trim 43 = .ok (.lcmp, 1) := by decide +kernel
theorem dX8_trim_44 : decode cX8_trim 44 = .ok (.ifCond .eq 14, 3) := by decide +kernel
theorem dX8_trim_47 : decode cX8_trim 47 = .ok (.aload_n 0, 1) := by decide +kernel
theorem dX8_trim_48 : decode cX8_trim 48 = .ok (.iload 9, 2) := by decide +kernel
theorem dX8_trim_50 : decode cX8_trim 50 = .ok (.invokevirtual 54, 3) := by decide +kernel
theorem dX8_trim_53 : decode cX8_trim 53 = .ok (.lload_n 1, 1) := by decide +kernel
theorem dX8_trim_54 : decode cX8_trim 54 = .ok (.land, 1) := by decide +kernel
theorem dX8_trim_55 : decode cX8_trim 55 = .ok (.goto 4, 3) := by decide +kernel
theorem dX8_trim_58 : decode cX8_trim 58 = .ok (.lconst 0, 1) := by decide +kernel
theorem dX8_trim_59 : decode cX8_trim 59 = .ok (.lstore 10, 2) := by decide +kernel
theorem dX8_trim_61 : decode cX8_trim 61 = .ok (.lload 5, 2) := by decide +kernel
theorem dX8_trim_63 : decode cX8_trim 63 = .ok (.lload 10, 2) := by decide +kernel
theorem dX8_trim_65 : decode cX8_trim 65 = .ok (.lor, 1) := by decide +kernel
theorem dX8_trim_66 : decode cX8_trim 66 = .ok (.lstore 5, 2) := by decide +kernel
theorem dX8_trim_68 : decode cX8_trim 68 = .ok (.lload 7, 2) := by decide +kernel
theorem dX8_trim_70 : decode cX8_trim 70 = .ok (.lload 10, 2) := by decide +kernel
theorem dX8_trim_72 : decode cX8_trim 72 = .ok (.lconst 0, 1) := by decide +kernel
theorem dX8_trim_73 : decode cX8_trim 73 = .ok (.lcmp, 1) := by decide +kernel
theorem dX8_trim_74 : decode cX8_trim 74 = .ok (.ifCond .eq 10, 3) := by decide +kernel
theorem dX8_trim_77 : decode cX8_trim 77 = .ok (.lconst 1, 1) := by decide +kernel
theorem dX8_trim_78 : decode cX8_trim 78 = .ok (.iload 9, 2) := by decide +kernel
theorem dX8_trim_80 : decode cX8_trim 80 = .ok (.lshl, 1) := by decide +kernel
theorem dX8_trim_81 : decode cX8_trim 81 = .ok (.goto 4, 3) := by decide +kernel
theorem dX8_trim_84 : decode cX8_trim 84 = .ok (.lconst 0, 1) := by decide +kernel
theorem dX8_trim_85 : decode cX8_trim 85 = .ok (.lor, 1) := by decide +kernel
theorem dX8_trim_86 : decode cX8_trim 86 = .ok (.lstore 7, 2) := by decide +kernel
theorem dX8_trim_88 : decode cX8_trim 88 = .ok (.iinc 9 1, 3) := by decide +kernel
theorem dX8_trim_91 : decode cX8_trim 91 = .ok (.goto (-62), 3) := by decide +kernel
theorem dX8_trim_94 : decode cX8_trim 94 = .ok (.lload_n 1, 1) := by decide +kernel
theorem dX8_trim_95 : decode cX8_trim 95 = .ok (.lload 5, 2) := by decide +kernel
theorem dX8_trim_97 : decode cX8_trim 97 = .ok (.land, 1) := by decide +kernel
theorem dX8_trim_98 : decode cX8_trim 98 = .ok (.lload 7, 2) := by decide +kernel
theorem dX8_trim_100 : decode cX8_trim 100 = .ok (.land, 1) := by decide +kernel
theorem dX8_trim_101 : decode cX8_trim 101 = .ok (.lstore 9, 2) := by decide +kernel
theorem dX8_trim_103 : decode cX8_trim 103 = .ok (.lload 9, 2) := by decide +kernel
theorem dX8_trim_105 : decode cX8_trim 105 = .ok (.lload_n 1, 1) := by decide +kernel
theorem dX8_trim_106 : decode cX8_trim 106 = .ok (.lcmp, 1) := by decide +kernel
theorem dX8_trim_107 : decode cX8_trim 107 = .ok (.ifCond .eq 7, 3) := by decide +kernel
theorem dX8_trim_110 : decode cX8_trim 110 = .ok (.iconst 1, 1) := by decide +kernel
theorem dX8_trim_111 : decode cX8_trim 111 = .ok (.goto 4, 3) := by decide +kernel
theorem dX8_trim_114 : decode cX8_trim 114 = .ok (.iconst 0, 1) := by decide +kernel
theorem dX8_trim_115 : decode cX8_trim 115 = .ok (.istore_n 3, 1) := by decide +kernel
theorem dX8_trim_116 : decode cX8_trim 116 = .ok (.lload 9, 2) := by decide +kernel
theorem dX8_trim_118 : decode cX8_trim 118 = .ok (.lstore_n 1, 1) := by decide +kernel
theorem dX8_trim_119 : decode cX8_trim 119 = .ok (.iinc 4 1, 3) := by decide +kernel
theorem dX8_trim_122 : decode cX8_trim 122 = .ok (.goto (-113), 3) := by decide +kernel
theorem dX8_trim_125 : decode cX8_trim 125 = .ok (.lload_n 1, 1) := by decide +kernel
theorem dX8_trim_126 : decode cX8_trim 126 = .ok (.lreturn, 1) := by decide +kernel
theorem dX8_successors_0 : decode cX8_successors 0 = .ok (.lconst 0, 1) := by decide +kernel
theorem dX8_successors_1 : decode cX8_successors 1 = .ok (.lstore_n 2, 1) := by decide +kernel
theorem dX8_successors_2 : decode cX8_successors 2 = .ok (.iconst 0, 1) := by decide +kernel
theorem dX8_successors_3 : decode cX8_successors 3 = .ok (.istore 4, 2) := by decide +kernel
theorem dX8_successors_5 : decode cX8_successors 5 = .ok (.iload 4, 2) := by decide +kernel
theorem dX8_successors_7 : decode cX8_successors 7 = .ok (.iconst 4, 1) := by decide +kernel
theorem dX8_successors_8 : decode cX8_successors 8 = .ok (.if_icmp .ge 19, 3) := by decide +kernel
theorem dX8_successors_11 : decode cX8_successors 11 = .ok (.lload_n 2, 1) := by decide +kernel
theorem dX8_successors_12 : decode cX8_successors 12 = .ok (.aload_n 0, 1) := by decide +kernel
theorem dX8_successors_13 : decode cX8_successors 13 = .ok (.iload_n 1, 1) := by decide +kernel
theorem dX8_successors_14 : decode cX8_successors 14 = .ok (.iload 4, 2) := by decide +kernel
theorem dX8_successors_16 : decode cX8_successors 16 = .ok (.invokevirtual 58, 3) := by decide +kernel
theorem dX8_successors_19 : decode cX8_successors 19 = .ok (.lor, 1) := by decide +kernel
theorem dX8_successors_20 : decode cX8_successors 20 = .ok (.lstore_n 2, 1) := by decide +kernel
theorem dX8_successors_21 : decode cX8_successors 21 = .ok (.iinc 4 1, 3) := by decide +kernel
theorem dX8_successors_24 : decode cX8_successors 24 = .ok (.goto (-19), 3) := by decide +kernel
theorem dX8_successors_27 : decode cX8_successors 27 = .ok (.lload_n 2, 1) := by decide +kernel
theorem dX8_successors_28 : decode cX8_successors 28 = .ok (.lreturn, 1) := by decide +kernel
theorem dX8_row_0 : decode cX8_row 0 = .ok (.iload_n 1, 1) := by decide +kernel
theorem dX8_row_1 : decode cX8_row 1 = .ok (.ifCond .lt 29, 3) := by decide +kernel
theorem dX8_row_4 : decode cX8_row 4 = .ok (.iload_n 1, 1) := by decide +kernel
theorem dX8_row_5 : decode cX8_row 5 = .ok (.bipush 64, 2) := by decide +kernel
theorem dX8_row_7 : decode cX8_row 7 = .ok (.if_icmp .ge 23, 3) := by decide +kernel
theorem dX8_row_10 : decode cX8_row 10 = .ok (.iload_n 2, 1) := by decide +kernel
theorem dX8_row_11 : decode cX8_row 11 = .ok (.invokestatic 25, 3) := by decide +kernel
theorem dX8_row_14 : decode cX8_row 14 = .ok (.ifCond .eq 16, 3) := by decide +kernel
theorem dX8_row_17 : decode cX8_row 17 = .ok (.aload_n 0, 1) := by decide +kernel
theorem dX8_row_18 : decode cX8_row 18 = .ok (.getfield 11, 3) := by decide +kernel
theorem dX8_row_21 : decode cX8_row 21 = .ok (.iconst 4, 1) := by decide +kernel
theorem dX8_row_22 : decode cX8_row 22 = .ok (.iload_n 1, 1) := by decide +kernel
theorem dX8_row_23 : decode cX8_row 23 = .ok (.imul, 1) := by decide +kernel
theorem dX8_row_24 : decode cX8_row 24 = .ok (.iload_n 2, 1) := by decide +kernel
theorem dX8_row_25 : decode cX8_row 25 = .ok (.iadd, 1) := by decide +kernel
theorem dX8_row_26 : decode cX8_row 26 = .ok (.laload, 1) := by decide +kernel
theorem dX8_row_27 : decode cX8_row 27 = .ok (.goto 4, 3) := by decide +kernel
theorem dX8_row_30 : decode cX8_row 30 = .ok (.lconst 0, 1) := by decide +kernel
theorem dX8_row_31 : decode cX8_row 31 = .ok (.lreturn, 1) := by decide +kernel
theorem dX8_numberVertices_0 : decode cX8_numberVertices 0 = .ok (.iconst 0, 1) := by decide +kernel
theorem dX8_numberVertices_1 : decode cX8_numberVertices 1 = .ok (.istore_n 3, 1) := by decide +kernel
theorem dX8_numberVertices_2 : decode cX8_numberVertices 2 = .ok (.iconst 0, 1) := by decide +kernel
theorem dX8_numberVertices_3 : decode cX8_numberVertices 3 = .ok (.istore 4, 2) := by decide +kernel
theorem dX8_numberVertices_5 : decode cX8_numberVertices 5 = .ok (.iload 4, 2) := by decide +kernel
theorem dX8_numberVertices_7 : decode cX8_numberVertices 7 = .ok (.bipush 64, 2) := by decide +kernel
theorem dX8_numberVertices_9 : decode cX8_numberVertices 9 = .ok (.if_icmp .ge 31, 3) := by decide +kernel
theorem dX8_numberVertices_12 : decode cX8_numberVertices 12 = .ok (.aload_n 0, 1) := by decide +kernel
theorem dX8_numberVertices_13 : decode cX8_numberVertices 13 = .ok (.getfield 15, 3) := by decide +kernel
theorem dX8_numberVertices_16 : decode cX8_numberVertices 16 = .ok (.iload 4, 2) := by decide +kernel
theorem dX8_numberVertices_18 : decode cX8_numberVertices 18 = .ok (.iload_n 3, 1) := by decide +kernel
theorem dX8_numberVertices_19 : decode cX8_numberVertices 19 = .ok (.iastore, 1) := by decide +kernel
theorem dX8_numberVertices_20 : decode cX8_numberVertices 20 = .ok (.lload_n 1, 1) := by decide +kernel
theorem dX8_numberVertices_21 : decode cX8_numberVertices 21 = .ok (.iload 4, 2) := by decide +kernel
theorem dX8_numberVertices_23 : decode cX8_numberVertices 23 = .ok (.lshr, 1) := by decide +kernel
theorem dX8_numberVertices_24 : decode cX8_numberVertices 24 = .ok (.lconst 1, 1) := by decide +kernel
theorem dX8_numberVertices_25 : decode cX8_numberVertices 25 = .ok (.land, 1) := by decide +kernel
theorem dX8_numberVertices_26 : decode cX8_numberVertices 26 = .ok (.lconst 0, 1) := by decide +kernel
theorem dX8_numberVertices_27 : decode cX8_numberVertices 27 = .ok (.lcmp, 1) := by decide +kernel
theorem dX8_numberVertices_28 : decode cX8_numberVertices 28 = .ok (.ifCond .eq 6, 3) := by decide +kernel
theorem dX8_numberVertices_31 : decode cX8_numberVertices 31 = .ok (.iinc 3 1, 3) := by decide +kernel
theorem dX8_numberVertices_34 : decode cX8_numberVertices 34 = .ok (.iinc 4 1, 3) := by decide +kernel
theorem dX8_numberVertices_37 : decode cX8_numberVertices 37 = .ok (.goto (-32), 3) := by decide +kernel
theorem dX8_numberVertices_40 : decode cX8_numberVertices 40 = .ok (.return_, 1) := by decide +kernel
theorem dX8_copyEdges_0 : decode cX8_copyEdges 0 = .ok (.iconst 0, 1) := by decide +kernel
theorem dX8_copyEdges_1 : decode cX8_copyEdges 1 = .ok (.istore 6, 2) := by decide +kernel
theorem dX8_copyEdges_3 : decode cX8_copyEdges 3 = .ok (.iload 6, 2) := by decide +kernel
theorem dX8_copyEdges_5 : decode cX8_copyEdges 5 = .ok (.iconst 4, 1) := by decide +kernel
theorem dX8_copyEdges_6 : decode cX8_copyEdges 6 = .ok (.if_icmp .ge 63, 3) := by decide +kernel
theorem dX8_copyEdges_9 : decode cX8_copyEdges 9 = .ok (.aload_n 0, 1) := by decide +kernel
theorem dX8_copyEdges_10 : decode cX8_copyEdges 10 = .ok (.iload_n 1, 1) := by decide +kernel
theorem dX8_copyEdges_11 : decode cX8_copyEdges 11 = .ok (.iload 6, 2) := by decide +kernel
theorem dX8_copyEdges_13 : decode cX8_copyEdges 13 = .ok (.invokevirtual 58, 3) := by decide +kernel
theorem dX8_copyEdges_16 : decode cX8_copyEdges 16 = .ok (.lload_n 3, 1) := by decide +kernel
theorem dX8_copyEdges_17 : decode cX8_copyEdges 17 = .ok (.land, 1) := by decide +kernel
theorem dX8_copyEdges_18 : decode cX8_copyEdges 18 = .ok (.lstore 7, 2) := by decide +kernel
theorem dX8_copyEdges_20 : decode cX8_copyEdges 20 = .ok (.iconst 0, 1) := by decide +kernel
theorem dX8_copyEdges_21 : decode cX8_copyEdges 21 = .ok (.istore 9, 2) := by decide +kernel
theorem dX8_copyEdges_23 : decode cX8_copyEdges 23 = .ok (.iload 9, 2) := by decide +kernel
theorem dX8_copyEdges_25 : decode cX8_copyEdges 25 = .ok (.bipush 64, 2) := by decide +kernel
theorem dX8_copyEdges_27 : decode cX8_copyEdges 27 = .ok (.if_icmp .ge 36, 3) := by decide +kernel
theorem dX8_copyEdges_30 : decode cX8_copyEdges 30 = .ok (.lload 7, 2) := by decide +kernel
theorem dX8_copyEdges_32 : decode cX8_copyEdges 32 = .ok (.iload 9, 2) := by decide +kernel
theorem dX8_copyEdges_34 : decode cX8_copyEdges 34 = .ok (.lshr, 1) := by decide +kernel
theorem dX8_copyEdges_35 : decode cX8_copyEdges 35 = .ok (.lconst 1, 1) := by decide +kernel
theorem dX8_copyEdges_36 : decode cX8_copyEdges 36 = .ok (.land, 1) := by decide +kernel
theorem dX8_copyEdges_37 : decode cX8_copyEdges 37 = .ok (.lconst 0, 1) := by decide +kernel
theorem dX8_copyEdges_38 : decode cX8_copyEdges 38 = .ok (.lcmp, 1) := by decide +kernel
theorem dX8_copyEdges_39 : decode cX8_copyEdges 39 = .ok (.ifCond .eq 18, 3) := by decide +kernel
theorem dX8_copyEdges_42 : decode cX8_copyEdges 42 = .ok (.aload 5, 2) := by decide +kernel
theorem dX8_copyEdges_44 : decode cX8_copyEdges 44 = .ok (.iload_n 2, 1) := by decide +kernel
theorem dX8_copyEdges_45 : decode cX8_copyEdges 45 = .ok (.iload 6, 2) := by decide +kernel
theorem dX8_copyEdges_47 : decode cX8_copyEdges 47 = .ok (.aload_n 0, 1) := by decide +kernel
theorem dX8_copyEdges_48 : decode cX8_copyEdges 48 = .ok (.getfield 15, 3) := by decide +kernel
theorem dX8_copyEdges_51 : decode cX8_copyEdges 51 = .ok (.iload 9, 2) := by decide +kernel
theorem dX8_copyEdges_53 : decode cX8_copyEdges 53 = .ok (.iaload, 1) := by decide +kernel
theorem dX8_copyEdges_54 : decode cX8_copyEdges 54 = .ok (.invokevirtual 62, 3) := by decide +kernel
theorem dX8_copyEdges_57 : decode cX8_copyEdges 57 = .ok (.iinc 9 1, 3) := by decide +kernel
theorem dX8_copyEdges_60 : decode cX8_copyEdges 60 = .ok (.goto (-37), 3) := by decide +kernel
theorem dX8_copyEdges_63 : decode cX8_copyEdges 63 = .ok (.iinc 6 1, 3) := by decide +kernel
theorem dX8_copyEdges_66 : decode cX8_copyEdges 66 = .ok (.goto (-63), 3) := by decide +kernel
theorem dX8_copyEdges_69 : decode cX8_copyEdges 69 = .ok (.return_, 1) := by decide +kernel
theorem dX9_init_0 : decode cX9_init 0 = .ok (.aload_n 0, 1) := by decide +kernel
theorem dX9_init_1 : decode cX9_init 1 = .ok (.invokespecial 3, 3) := by decide +kernel
theorem dX9_init_4 : decode cX9_init 4 = .ok (.aload_n 0, 1) := by decide +kernel
theorem dX9_init_5 : decode cX9_init 5 = .ok (.sipush 7936, 3) := by decide +kernel
theorem dX9_init_8 : decode cX9_init 8 = .ok (.newarray .long, 2) := by decide +kernel
theorem dX9_init_10 : decode cX9_init 10 = .ok (.putfield 11, 3) := by decide +kernel
theorem dX9_init_13 : decode cX9_init 13 = .ok (.aload_n 0, 1) := by decide +kernel
theorem dX9_init_14 : decode cX9_init 14 = .ok (.sipush 255, 3) := by decide +kernel
theorem dX9_init_17 : decode cX9_init 17 = .ok (.putfield 17, 3) := by decide +kernel
theorem dX9_init_20 : decode cX9_init 20 = .ok (.return_, 1) := by decide +kernel
theorem dX9_fill_0 : decode cX9_fill 0 = .ok (.aload_n 0, 1) := by decide +kernel
theorem dX9_fill_1 : decode cX9_fill 1 = .ok (.aload_n 1, 1) := by decide +kernel
theorem dX9_fill_2 : decode cX9_fill 2 = .ok (.invokevirtual 21, 3) := by decide +kernel
theorem dX9_fill_5 : decode cX9_fill 5 = .ok (.putfield 17, 3) := by decide +kernel
theorem dX9_fill_8 : decode cX9_fill 8 = .ok (.iconst 0, 1) := by decide +kernel
theorem dX9_fill_9 : decode cX9_fill 9 = .ok (.istore_n 3, 1) := by decide +kernel
theorem dX9_fill_10 : decode cX9_fill 10 = .ok (.iload_n 3, 1) := by decide +kernel
theorem dX9_fill_11 : decode cX9_fill 11 = .ok (.aload_n 1, 1) := by decide +kernel
theorem dX9_fill_12 : decode cX9_fill 12 = .ok (.invokevirtual 24, 3) := by decide +kernel
theorem dX9_fill_15 : decode cX9_fill 15 = .ok (.if_icmp .ge 23, 3) := by decide +kernel
theorem dX9_fill_18 : decode cX9_fill 18 = .ok (.iload_n 3, 1) := by decide +kernel
theorem dX9_fill_19 : decode cX9_fill 19 = .ok (.sipush 255, 3) := by decide +kernel
theorem dX9_fill_22 : decode cX9_fill 22 = .ok (.if_icmp .ge 16, 3) := by decide +kernel
theorem dX9_fill_25 : decode cX9_fill 25 = .ok (.aload_n 0, 1) := by decide +kernel
theorem dX9_fill_26 : decode cX9_fill 26 = .ok (.getfield 11, 3) := by decide +kernel
theorem dX9_fill_29 : decode cX9_fill 29 = .ok (.iload_n 3, 1) := by decide +kernel
theorem dX9_fill_30 : decode cX9_fill 30 = .ok (.lconst 1, 1) := by decide +kernel
theorem dX9_fill_31 : decode cX9_fill 31 = .ok (.lastore, 1) := by decide +kernel
theorem dX9_fill_32 : decode cX9_fill 32 = .ok (.iinc 3 1, 3) := by decide +kernel
theorem dX9_fill_35 : decode cX9_fill 35 = .ok (.goto (-25), 3) := by decide +kernel
theorem dX9_fill_38 : decode cX9_fill 38 = .ok (.iconst 1, 1) := by decide +kernel
theorem dX9_fill_39 : decode cX9_fill 39 = .ok (.istore_n 3, 1) := by decide +kernel
theorem dX9_fill_40 : decode cX9_fill 40 = .ok (.iload_n 3, 1) := by decide +kernel
theorem dX9_fill_41 : decode cX9_fill 41 = .ok (.iload_n 2, 1) := by decide +kernel
theorem dX9_fill_42 : decode cX9_fill 42 = .ok (.if_icmp .gt 94, 3) := by decide +kernel
theorem dX9_fill_45 : decode cX9_fill 45 = .ok (.iload_n 3, 1) := by decide +kernel
theorem dX9_fill_46 : decode cX9_fill 46 = .ok (.bipush 30, 2) := by decide +kernel
theorem dX9_fill_48 : decode cX9_fill 48 = .ok (.if_icmp .gt 88, 3) := by decide +kernel
theorem dX9_fill_51 : decode cX9_fill 51 = .ok (.iconst 0, 1) := by decide +kernel
theorem dX9_fill_52 : decode cX9_fill 52 = .ok (.istore 4, 2) := by decide +kernel
theorem dX9_fill_54 : decode cX9_fill 54 = .ok (.iload 4, 2) := by decide +kernel
theorem dX9_fill_56 : decode cX9_fill 56 = .ok (.aload_n 1, 1) := by decide +kernel
theorem dX9_fill_57 : decode cX9_fill 57 = .ok (.invokevirtual 24, 3) := by decide +kernel
theorem dX9_fill_60 : decode cX9_fill 60 = .ok (.if_icmp .ge 70, 3) := by decide +kernel
theorem dX9_fill_63 : decode cX9_fill 63 = .ok (.iload 4, 2) := by decide +kernel
theorem dX9_fill_65 : decode cX9_fill 65 = .ok (.sipush 255, 3) := by decide +kernel
theorem dX9_fill_68 : decode cX9_fill 68 = .ok (.if_icmp .ge 62, 3) := by decide +kernel
theorem dX9_fill_71 : decode cX9_fill 71 = .ok (.lconst 0, 1) := by decide +kernel
theorem dX9_fill_72 : decode cX9_fill 72 = .ok (.lstore 5, 2) := by decide +kernel
theorem dX9_fill_74 : decode cX9_fill 74 = .ok (.iconst 0, 1) := by decide +kernel
theorem dX9_fill_75 : decode cX9_fill 75 = .ok (.istore 7, 2) := by decide +kernel
theorem dX9_fill_77 : decode cX9_fill 77 = .ok (.iload 7, 2) := by decide +kernel
theorem dX9_fill_79 : decode cX9_fill 79 = .ok (.iconst 4, 1) := by decide +kernel
theorem dX9_fill_80 : decode cX9_fill 80 = .ok (.if_icmp .ge 29, 3) := by decide +kernel
theorem dX9_fill_83 : decode cX9_fill 83 = .ok (.lload 5, 2) := by decide +kernel
theorem dX9_fill_85 : decode cX9_fill 85 = .ok (.aload_n 0, 1) := by decide +kernel
theorem dX9_fill_86 : decode cX9_fill 86 = .ok (.aload_n 1, 1) := by decide +kernel
theorem dX9_fill_87 : decode cX9_fill 87 = .ok (.iload 4, 2) := by decide +kernel
theorem dX9_fill_89 : decode cX9_fill 89 = .ok (.iload 7, 2) := by decide +kernel
theorem dX9_fill_91 : decode cX9_fill 91 = .ok (.invokevirtual 27, 3) := by decide +kernel
theorem dX9_fill_94 : decode cX9_fill 94 = .ok (.iload_n 3, 1) := by decide +kernel
theorem dX9_fill_95 : decode cX9_fill 95 = .ok (.iconst 1, 1) := by decide +kernel
theorem dX9_fill_96 : decode cX9_fill 96 = .ok (.isub, 1) := by decide +kernel
theorem dX9_fill_97 : decode cX9_fill 97 = .ok (.invokevirtual 31, 3) := by decide +kernel
theorem dX9_fill_100 : decode cX9_fill 100 = .ok (.ladd, 1) := by decide +kernel
theorem dX9_fill_101 : decode cX9_fill 101 = .ok (.lstore 5, 2) := by decide +kernel
theorem dX9_fill_103 : decode cX9_fill 103 = .ok (.iinc 7 1, 3) := by decide +kernel
theorem dX9_fill_106 : decode cX9_fill 106 = .ok (.goto (-29), 3) := by decide +kernel
theorem dX9_fill_109 : decode cX9_fill 109 = .ok (.aload_n 0, 1) := by decide +kernel
theorem dX9_fill_110 : decode cX9_fill 110 = .ok (.getfield 11, 3) := by decide +kernel
theorem dX9_fill_113 : decode cX9_fill 113 = .ok (.sipush 256, 3) := by decide +kernel
theorem dX9_fill_116 : decode cX9_fill 116 = .ok (.iload_n 3, 1) := by decide +kernel
theorem dX9_fill_117 : decode cX9_fill 117 = .ok (.imul, 1) := by decide +kernel
theorem dX9_fill_118 : decode cX9_fill 118 = .ok (.iload 4, 2) := by decide +kernel
theorem dX9_fill_120 : decode cX9_fill 120 = .ok (.iadd, 1) := by decide +kernel
theorem dX9_fill_121 : decode cX9_fill 121 = .ok (.lload 5, 2) := by decide +kernel
theorem dX9_fill_123 : decode cX9_fill 123 = .ok (.lastore, 1) := by decide +kernel
theorem dX9_fill_124 : decode cX9_fill 124 = .ok (.iinc 4 1, 3) := by decide +kernel
theorem dX9_fill_127 : decode cX9_fill 127 = .ok (.goto (-73), 3) := by decide +kernel
theorem dX9_fill_130 : decode cX9_fill 130 = .ok (.iinc 3 1, 3) := by decide +kernel
theorem dX9_fill_133 : decode cX9_fill 133 = .ok (.goto (-93), 3) := by decide +kernel
theorem dX9_fill_136 : decode cX9_fill 136 = .ok (.return_, 1) := by decide +kernel
theorem dX9_total_0 : decode cX9_total 0 = .ok (.aload_n 0, 1) := by decide +kernel
theorem dX9_total_1 : decode cX9_total 1 = .ok (.aload_n 0, 1) := by decide +kernel
theorem dX9_total_2 : decode cX9_total 2 = .ok (.getfield 17, 3) := by decide +kernel
theorem dX9_total_5 : decode cX9_total 5 = .ok (.iload_n 1, 1) := by decide +kernel
theorem dX9_total_6 : decode cX9_total 6 = .ok (.invokevirtual 31, 3) := by decide +kernel
theorem dX9_total_9 : decode cX9_total 9 = .ok (.lreturn, 1) := by decide +kernel
theorem dX9_count_0 : decode cX9_count 0 = .ok (.iload_n 1, 1) := by decide +kernel
theorem dX9_count_1 : decode cX9_count 1 = .ok (.ifCond .lt 24, 3) := by decide +kernel
theorem dX9_count_4 : decode cX9_count 4 = .ok (.iload_n 1, 1) := by decide +kernel
theorem dX9_count_5 : decode cX9_count 5 = .ok (.sipush 255, 3) := by decide +kernel
theorem dX9_count_8 : decode cX9_count 8 = .ok (.if_icmp .ge 17, 3) := by decide +kernel
theorem dX9_count_11 : decode cX9_count 11 = .ok (.iload_n 2, 1) := by decide +kernel
theorem dX9_count_12 : decode cX9_count 12 = .ok (.ifCond .lt 13, 3) := by decide +kernel
theorem dX9_count_15 : decode cX9_count 15 = .ok (.iload_n 2, 1) := by decide +kernel
theorem dX9_count_16 : decode cX9_count 16 = .ok (.bipush 30, 2) := by decide +kernel
theorem dX9_count_18 : decode cX9_count 18 = .ok (.if_icmp .gt 7, 3) := by decide +kernel
theorem dX9_count_21 : decode cX9_count 21 = .ok (.iconst 1, 1) := by decide +kernel
theorem dX9_count_22 : decode cX9_count 22 = .ok (.goto 4, 3) := by decide +kernel
theorem dX9_count_25 : decode cX9_count 25 = .ok (.iconst 0, 1) := by decide +kernel
theorem dX9_count_26 : decode cX9_count 26 = .ok (.istore_n 3, 1) := by decide +kernel
theorem dX9_count_27 : decode cX9_count 27 = .ok (.iload_n 3, 1) := by decide +kernel
theorem dX9_count_28 : decode cX9_count 28 = .ok (.ifCond .eq 18, 3) := by decide +kernel
theorem dX9_count_31 : decode cX9_count 31 = .ok (.aload_n 0, 1) := by decide +kernel
theorem dX9_count_32 : decode cX9_count 32 = .ok (.getfield 11, 3) := by decide +kernel
theorem dX9_count_35 : decode cX9_count 35 = .ok (.sipush 256, 3) := by decide +kernel
theorem dX9_count_38 : decode cX9_count 38 = .ok (.iload_n 2, 1) := by decide +kernel
theorem dX9_count_39 : decode cX9_count 39 = .ok (.imul, 1) := by decide +kernel
theorem dX9_count_40 : decode cX9_count 40 = .ok (.iload_n 1, 1) := by decide +kernel
theorem dX9_count_41 : decode cX9_count 41 = .ok (.iadd, 1) := by decide +kernel
theorem dX9_count_42 : decode cX9_count 42 = .ok (.laload, 1) := by decide +kernel
theorem dX9_count_43 : decode cX9_count 43 = .ok (.goto 4, 3) := by decide +kernel
theorem dX9_count_46 : decode cX9_count 46 = .ok (.lconst 0, 1) := by decide +kernel
theorem dX9_count_47 : decode cX9_count 47 = .ok (.lreturn, 1) := by decide +kernel
theorem dX9_spell_0 : decode cX9_spell 0 = .ok (.aload 5, 2) := by decide +kernel
theorem dX9_spell_2 : decode cX9_spell 2 = .ok (.invokevirtual 35, 3) := by decide +kernel
theorem dX9_spell_5 : decode cX9_spell 5 = .ok (.lload_n 3, 1) := by decide +kernel
theorem dX9_spell_6 : decode cX9_spell 6 = .ok (.lstore 6, 2) := by decide +kernel
theorem dX9_spell_8 : decode cX9_spell 8 = .ok (.aload_n 0, 1) := by decide +kernel
theorem dX9_spell_9 : decode cX9_spell 9 = .ok (.getfield 17, 3) := by decide +kernel
theorem dX9_spell_12 : decode cX9_spell 12 = .ok (.istore 8, 2) := by decide +kernel
theorem dX9_spell_14 : decode cX9_spell 14 = .ok (.iload_n 2, 1) := by decide +kernel
theorem dX9_spell_15 : decode cX9_spell 15 = .ok (.istore 9, 2) := by decide +kernel
theorem dX9_spell_17 : decode cX9_spell 17 = .ok (.iload 9, 2) := by decide +kernel
theorem dX9_spell_19 : decode cX9_spell 19 = .ok (.ifCond .le 75, 3) := by decide +kernel
theorem dX9_spell_22 : decode cX9_spell 22 = .ok (.iconst 0, 1) := by decide +kernel
theorem dX9_spell_23 : decode cX9_spell 23 = .ok (.istore 10, 2) := by decide +kernel
theorem dX9_spell_25 : decode cX9_spell 25 = .ok (.iload 10, 2) := by decide +kernel
theorem dX9_spell_27 : decode cX9_spell 27 = .ok (.iconst 4, 1) := by decide +kernel
theorem dX9_spell_28 : decode cX9_spell 28 = .ok (.if_icmp .ge 60, 3) := by decide +kernel
theorem dX9_spell_31 : decode cX9_spell 31 = .ok (.aload_n 1, 1) := by decide +kernel
theorem dX9_spell_32 : decode cX9_spell 32 = .ok (.iload 8, 2) := by decide +kernel
theorem dX9_spell_34 : decode cX9_spell 34 = .ok (.iload 10, 2) := by decide +kernel
theorem dX9_spell_36 : decode cX9_spell 36 = .ok (.invokevirtual 27, 3) := by decide +kernel
theorem dX9_spell_39 : decode cX9_spell 39 = .ok (.istore 11, 2) := by decide +kernel
theorem dX9_spell_41 : decode cX9_spell 41 = .ok (.aload_n 0, 1) := by decide +kernel
theorem dX9_spell_42 : decode cX9_spell 42 = .ok (.iload 11, 2) := by decide +kernel
theorem dX9_spell_44 : decode cX9_spell 44 = .ok (.iload 9, 2) := by decide +kernel
theorem dX9_spell_46 : decode cX9_spell 46 = .ok (.iconst 1, 1) := by decide +kernel
theorem dX9_spell_47 : decode cX9_spell 47 = .ok (.isub, 1) := by decide +kernel
theorem dX9_spell_48 : decode cX9_spell 48 = .ok (.invokevirtual 31, 3) := by decide +kernel
theorem dX9_spell_51 : decode cX9_spell 51 = .ok (.lstore 12, 2) := by decide +kernel
theorem dX9_spell_53 : decode cX9_spell 53 = .ok (.lload 6, 2) := by decide +kernel
theorem dX9_spell_55 : decode cX9_spell 55 = .ok (.lload 12, 2) := by decide +kernel
theorem dX9_spell_57 : decode cX9_spell 57 = .ok (.lcmp, 1) := by decide +kernel
theorem dX9_spell_58 : decode cX9_spell 58 = .ok (.ifCond .ge 17, 3) := by decide +kernel
theorem dX9_spell_61 : decode cX9_spell 61 = .ok (.aload 5, 2) := by decide +kernel
theorem dX9_spell_63 : decode cX9_spell 63 = .ok (.iload 10, 2) := by decide +kernel
theorem dX9_spell_65 : decode cX9_spell 65 = .ok (.invokevirtual 40, 3) := by decide +kernel
theorem dX9_spell_68 : decode cX9_spell 68 = .ok (.iload 11, 2) := by decide +kernel
theorem dX9_spell_70 : decode cX9_spell 70 = .ok (.istore 8, 2) := by decide +kernel
theorem dX9_spell_72 : decode cX9_spell 72 = .ok (.goto 16, 3) := by decide +kernel
theorem dX9_spell_75 : decode cX9_spell 75 = .ok (.lload 6, 2) := by decide +kernel
theorem dX9_spell_77 : decode cX9_spell 77 = .ok (.lload 12, 2) := by decide +kernel
theorem dX9_spell_79 : decode cX9_spell 79 = .ok (.lsub, 1) := by decide +kernel
theorem dX9_spell_80 : decode cX9_spell 80 = .ok (.lstore 6, 2) := by decide +kernel
theorem dX9_spell_82 : decode cX9_spell 82 = .ok (.iinc 10 1, 3) := by decide +kernel
theorem dX9_spell_85 : decode cX9_spell 85 = .ok (.goto (-60), 3) := by decide +kernel
theorem dX9_spell_88 : decode cX9_spell 88 = .ok (.iinc 9 (-1), 3) := by decide +kernel
theorem dX9_spell_91 : decode cX9_spell 91 = .ok (.goto (-74), 3) := by decide +kernel
theorem dX9_spell_94 : decode cX9_spell 94 = .ok (.return_, 1) := by decide +kernel
theorem dX10_init_0 : decode cX10_init 0 = .ok (.aload_n 0, 1) := by decide +kernel
theorem dX10_init_1 : decode cX10_init 1 = .ok (.invokespecial 3, 3) := by decide +kernel
theorem dX10_init_4 : decode cX10_init 4 = .ok (.aload_n 0, 1) := by decide +kernel
theorem dX10_init_5 : decode cX10_init 5 = .ok (.bipush 6, 2) := by decide +kernel
theorem dX10_init_7 : decode cX10_init 7 = .ok (.anewarray 11, 3) := by decide +kernel
theorem dX10_init_10 : decode cX10_init 10 = .ok (.putfield 13, 3) := by decide +kernel
theorem dX10_init_13 : decode cX10_init 13 = .ok (.aload_n 0, 1) := by decide +kernel
theorem dX10_init_14 : decode cX10_init 14 = .ok (.bipush 6, 2) := by decide +kernel
theorem dX10_init_16 : decode cX10_init 16 = .ok (.anewarray 11, 3) := by decide +kernel
theorem dX10_init_19 : decode cX10_init 19 = .ok (.putfield 17, 3) := by decide +kernel
theorem dX10_init_22 : decode cX10_init 22 = .ok (.aload_n 0, 1) := by decide +kernel
theorem dX10_init_23 : decode cX10_init 23 = .ok (.new 20, 3) := by decide +kernel
theorem dX10_init_26 : decode cX10_init 26 = .ok (.dup, 1) := by decide +kernel
theorem dX10_init_27 : decode cX10_init 27 = .ok (.invokespecial 22, 3) := by decide +kernel
theorem dX10_init_30 : decode cX10_init 30 = .ok (.putfield 23, 3) := by decide +kernel
theorem dX10_init_33 : decode cX10_init 33 = .ok (.aload_n 0, 1) := by decide +kernel
theorem dX10_init_34 : decode cX10_init 34 = .ok (.new 27, 3) := by decide +kernel
theorem dX10_init_37 : decode cX10_init 37 = .ok (.dup, 1) := by decide +kernel
theorem dX10_init_38 : decode cX10_init 38 = .ok (.bipush 120, 2) := by decide +kernel
theorem dX10_init_40 : decode cX10_init 40 = .ok (.invokespecial 29, 3) := by decide +kernel
theorem dX10_init_43 : decode cX10_init 43 = .ok (.putfield 32, 3) := by decide +kernel
theorem dX10_init_46 : decode cX10_init 46 = .ok (.aload_n 0, 1) := by decide +kernel
theorem dX10_init_47 : decode cX10_init 47 = .ok (.new 27, 3) := by decide +kernel
theorem dX10_init_50 : decode cX10_init 50 = .ok (.dup, 1) := by decide +kernel
theorem dX10_init_51 : decode cX10_init 51 = .ok (.sipush 1024, 3) := by decide +kernel
theorem dX10_init_54 : decode cX10_init 54 = .ok (.invokespecial 29, 3) := by decide +kernel
theorem dX10_init_57 : decode cX10_init 57 = .ok (.putfield 36, 3) := by decide +kernel
theorem dX10_init_60 : decode cX10_init 60 = .ok (.aload_n 0, 1) := by decide +kernel
theorem dX10_init_61 : decode cX10_init 61 = .ok (.iconst 4, 1) := by decide +kernel
theorem dX10_init_62 : decode cX10_init 62 = .ok (.anewarray 39, 3) := by decide +kernel
theorem dX10_init_65 : decode cX10_init 65 = .ok (.putfield 41, 3) := by decide +kernel
theorem dX10_init_68 : decode cX10_init 68 = .ok (.aload_n 0, 1) := by decide +kernel
theorem dX10_init_69 : decode cX10_init 69 = .ok (.new 11, 3) := by decide +kernel
theorem dX10_init_72 : decode cX10_init 72 = .ok (.dup, 1) := by decide +kernel
theorem dX10_init_73 : decode cX10_init 73 = .ok (.invokespecial 45, 3) := by decide +kernel
theorem dX10_init_76 : decode cX10_init 76 = .ok (.putfield 46, 3) := by decide +kernel
theorem dX10_init_79 : decode cX10_init 79 = .ok (.aload_n 0, 1) := by decide +kernel
theorem dX10_init_80 : decode cX10_init 80 = .ok (.new 11, 3) := by decide +kernel
theorem dX10_init_83 : decode cX10_init 83 = .ok (.dup, 1) := by decide +kernel
theorem dX10_init_84 : decode cX10_init 84 = .ok (.invokespecial 45, 3) := by decide +kernel
theorem dX10_init_87 : decode cX10_init 87 = .ok (.putfield 50, 3) := by decide +kernel
theorem dX10_init_90 : decode cX10_init 90 = .ok (.aload_n 0, 1) := by decide +kernel
theorem dX10_init_91 : decode cX10_init 91 = .ok (.new 11, 3) := by decide +kernel
theorem dX10_init_94 : decode cX10_init 94 = .ok (.dup, 1) := by decide +kernel
theorem dX10_init_95 : decode cX10_init 95 = .ok (.invokespecial 45, 3) := by decide +kernel
theorem dX10_init_98 : decode cX10_init 98 = .ok (.putfield 53, 3) := by decide +kernel
theorem dX10_init_101 : decode cX10_init 101 = .ok (.aload_n 0, 1) := by decide +kernel
theorem dX10_init_102 : decode cX10_init 102 = .ok (.new 56, 3) := by decide +kernel
theorem dX10_init_105 : decode cX10_init 105 = .ok (.dup, 1) := by decide +kernel
theorem dX10_init_106 : decode cX10_init 106 = .ok (.invokespecial 58, 3) := by decide +kernel
theorem dX10_init_109 : decode cX10_init 109 = .ok (.putfield 59, 3) := by decide +kernel
theorem dX10_init_112 : decode cX10_init 112 = .ok (.aload_n 0, 1) := by decide +kernel
theorem dX10_init_113 : decode cX10_init 113 = .ok (.new 56, 3) := by decide +kernel
theorem dX10_init_116 : decode cX10_init 116 = .ok (.dup, 1) := by decide +kernel
theorem dX10_init_117 : decode cX10_init 117 = .ok (.invokespecial 58, 3) := by decide +kernel
theorem dX10_init_120 : decode cX10_init 120 = .ok (.putfield 63, 3) := by decide +kernel
theorem dX10_init_123 : decode cX10_init 123 = .ok (.aload_n 0, 1) := by decide +kernel
theorem dX10_init_124 : decode cX10_init 124 = .ok (.new 66, 3) := by decide +kernel
theorem dX10_init_127 : decode cX10_init 127 = .ok (.dup, 1) := by decide +kernel
theorem dX10_init_128 : decode cX10_init 128 = .ok (.invokespecial 68, 3) := by decide +kernel
theorem dX10_init_131 : decode cX10_init 131 = .ok (.putfield 69, 3) := by decide +kernel
theorem dX10_init_134 : decode cX10_init 134 = .ok (.aload_n 0, 1) := by decide +kernel
theorem dX10_init_135 : decode cX10_init 135 = .ok (.new 73, 3) := by decide +kernel
theorem dX10_init_138 : decode cX10_init 138 = .ok (.dup, 1) := by decide +kernel
theorem dX10_init_139 : decode cX10_init 139 = .ok (.invokespecial 75, 3) := by decide +kernel
theorem dX10_init_142 : decode cX10_init 142 = .ok (.putfield 76, 3) := by decide +kernel
theorem dX10_init_145 : decode cX10_init 145 = .ok (.aload_n 0, 1) := by decide +kernel
theorem dX10_init_146 : decode cX10_init 146 = .ok (.new 80, 3) := by decide +kernel
theorem dX10_init_149 : decode cX10_init 149 = .ok (.dup, 1) := by decide +kernel
theorem dX10_init_150 : decode cX10_init 150 = .ok (.invokespecial 82, 3) := by decide +kernel
theorem dX10_init_153 : decode cX10_init 153 = .ok (.putfield 83, 3) := by decide +kernel
theorem dX10_init_156 : decode cX10_init 156 = .ok (.aload_n 0, 1) := by decide +kernel
theorem dX10_init_157 : decode cX10_init 157 = .ok (.new 87, 3) := by decide +kernel
theorem dX10_init_160 : decode cX10_init 160 = .ok (.dup, 1) := by decide +kernel
theorem dX10_init_161 : decode cX10_init 161 = .ok (.invokespecial 89, 3) := by decide +kernel
theorem dX10_init_164 : decode cX10_init 164 = .ok (.putfield 90, 3) := by decide +kernel
theorem dX10_init_167 : decode cX10_init 167 = .ok (.aload_n 0, 1) := by decide +kernel
theorem dX10_init_168 : decode cX10_init 168 = .ok (.new 94, 3) := by decide +kernel
theorem dX10_init_171 : decode cX10_init 171 = .ok (.dup, 1) := by decide +kernel
theorem dX10_init_172 : decode cX10_init 172 = .ok (.invokespecial 96, 3) := by decide +kernel
theorem dX10_init_175 : decode cX10_init 175 = .ok (.putfield 97, 3) := by decide +kernel
theorem dX10_init_178 : decode cX10_init 178 = .ok (.iconst 0, 1) := by decide +kernel
theorem dX10_init_179 : decode cX10_init 179 = .ok (.istore_n 1, 1) := by decide +kernel
theorem dX10_init_180 : decode cX10_init 180 = .ok (.iload_n 1, 1) := by decide +kernel
theorem dX10_init_181 : decode cX10_init 181 = .ok (.bipush 6, 2) := by decide +kernel
theorem dX10_init_183 : decode cX10_init 183 = .ok (.if_icmp .ge 35, 3) := by decide +kernel
theorem dX10_init_186 : decode cX10_init 186 = .ok (.aload_n 0, 1) := by decide +kernel
theorem dX10_init_187 : decode cX10_init 187 = .ok (.getfield 13, 3) := by decide +kernel
theorem dX10_init_190 : decode cX10_init 190 = .ok (.iload_n 1, 1) := by decide +kernel
theorem dX10_init_191 : decode cX10_init 191 = .ok (.new 11, 3) := by decide +kernel
theorem dX10_init_194 : decode cX10_init 194 = .ok (.dup, 1) := by decide +kernel
theorem dX10_init_195 : decode cX10_init 195 = .ok (.invokespecial 45, 3) := by decide +kernel
theorem dX10_init_198 : decode cX10_init 198 = .ok (.aastore, 1) := by decide +kernel
theorem dX10_init_199 : decode cX10_init 199 = .ok (.aload_n 0, 1) := by decide +kernel
theorem dX10_init_200 : decode cX10_init 200 = .ok (.getfield 17, 3) := by decide +kernel
theorem dX10_init_203 : decode cX10_init 203 = .ok (.iload_n 1, 1) := by decide +kernel
theorem dX10_init_204 : decode cX10_init 204 = .ok (.new 11, 3) := by decide +kernel
theorem dX10_init_207 : decode cX10_init 207 = .ok (.dup, 1) := by decide +kernel
theorem dX10_init_208 : decode cX10_init 208 = .ok (.invokespecial 45, 3) := by decide +kernel
theorem dX10_init_211 : decode cX10_init 211 = .ok (.aastore, 1) := by decide +kernel
theorem dX10_init_212 : decode cX10_init 212 = .ok (.iinc 1 1, 3) := by decide +kernel
theorem dX10_init_215 : decode cX10_init 215 = .ok (.goto (-35), 3) := by decide +kernel
theorem dX10_init_218 : decode cX10_init 218 = .ok (.iconst 0, 1) := by decide +kernel
theorem dX10_init_219 : decode cX10_init 219 = .ok (.istore_n 1, 1) := by decide +kernel
theorem dX10_init_220 : decode cX10_init 220 = .ok (.iload_n 1, 1) := by decide +kernel
theorem dX10_init_221 : decode cX10_init 221 = .ok (.iconst 4, 1) := by decide +kernel
theorem dX10_init_222 : decode cX10_init 222 = .ok (.if_icmp .ge 22, 3) := by decide +kernel
theorem dX10_init_225 : decode cX10_init 225 = .ok (.aload_n 0, 1) := by decide +kernel
theorem dX10_init_226 : decode cX10_init 226 = .ok (.getfield 41, 3) := by decide +kernel
theorem dX10_init_229 : decode cX10_init 229 = .ok (.iload_n 1, 1) := by decide +kernel
theorem dX10_init_230 : decode cX10_init 230 = .ok (.new 39, 3) := by decide +kernel
theorem dX10_init_233 : decode cX10_init 233 = .ok (.dup, 1) := by decide +kernel
theorem dX10_init_234 : decode cX10_init 234 = .ok (.invokespecial 101, 3) := by decide +kernel
theorem dX10_init_237 : decode cX10_init 237 = .ok (.aastore, 1) := by decide +kernel
theorem dX10_init_238 : decode cX10_init 238 = .ok (.iinc 1 1, 3) := by decide +kernel
theorem dX10_init_241 : decode cX10_init 241 = .ok (.goto (-21), 3) := by decide +kernel
theorem dX10_init_244 : decode cX10_init 244 = .ok (.return_, 1) := by decide +kernel
theorem dX10_addEdge_0 : decode cX10_addEdge 0 = .ok (.iload_n 1, 1) := by decide +kernel
theorem dX10_addEdge_1 : decode cX10_addEdge 1 = .ok (.iload_n 2, 1) := by decide +kernel
theorem dX10_addEdge_2 : decode cX10_addEdge 2 = .ok (.iload_n 3, 1) := by decide +kernel
theorem dX10_addEdge_3 : decode cX10_addEdge 3 = .ok (.iload 4, 2) := by decide +kernel
theorem dX10_addEdge_5 : decode cX10_addEdge 5 = .ok (.invokestatic 102, 3) := by decide +kernel
theorem dX10_addEdge_8 : decode cX10_addEdge 8 = .ok (.ifCond .ne 6, 3) := by decide +kernel
theorem dX10_addEdge_11 : decode cX10_addEdge 11 = .ok (.bipush (-2), 2) := by decide +kernel
theorem dX10_addEdge_13 : decode cX10_addEdge 13 = .ok (.ireturn, 1) := by decide +kernel
theorem dX10_addEdge_14 : decode cX10_addEdge 14 = .ok (.aload_n 0, 1) := by decide +kernel
theorem dX10_addEdge_15 : decode cX10_addEdge 15 = .ok (.getfield 23, 3) := by decide +kernel
theorem dX10_addEdge_18 : decode cX10_addEdge 18 = .ok (.iload_n 1, 1) := by decide +kernel
theorem dX10_addEdge_19 : decode cX10_addEdge 19 = .ok (.aload_n 0, 1) := by decide +kernel
theorem dX10_addEdge_20 : decode cX10_addEdge 20 = .ok (.getfield 13, 3) := by decide +kernel
theorem dX10_addEdge_23 : decode cX10_addEdge 23 = .ok (.iload_n 1, 1) := by decide +kernel
theorem dX10_addEdge_24 : decode cX10_addEdge 24 = .ok (.aaload, 1) := by decide +kernel
theorem dX10_addEdge_25 : decode cX10_addEdge 25 = .ok (.invokevirtual 106, 3) := by decide +kernel
theorem dX10_addEdge_28 : decode cX10_addEdge 28 = .ok (.aload_n 0, 1) := by decide +kernel
theorem dX10_addEdge_29 : decode cX10_addEdge 29 = .ok (.getfield 13, 3) := by decide +kernel
theorem dX10_addEdge_32 : decode cX10_addEdge 32 = .ok (.iload_n 1, 1) := by decide +kernel
theorem dX10_addEdge_33 : decode cX10_addEdge 33 = .ok (.aaload, 1) := by decide +kernel
theorem dX10_addEdge_34 : decode cX10_addEdge 34 = .ok (.iload_n 2, 1) := by decide +kernel
theorem dX10_addEdge_35 : decode cX10_addEdge 35 = .ok (.iload_n 3, 1) := by decide +kernel
theorem dX10_addEdge_36 : decode cX10_addEdge 36 = .ok (.iload 4, 2) := by decide +kernel
theorem dX10_addEdge_38 : decode cX10_addEdge 38 = .ok (.invokevirtual 110, 3) := by decide +kernel
theorem dX10_addEdge_41 : decode cX10_addEdge 41 = .ok (.aload_n 0, 1) := by decide +kernel
theorem dX10_addEdge_42 : decode cX10_addEdge 42 = .ok (.getfield 13, 3) := by decide +kernel
theorem dX10_addEdge_45 : decode cX10_addEdge 45 = .ok (.iload_n 1, 1) := by decide +kernel
theorem dX10_addEdge_46 : decode cX10_addEdge 46 = .ok (.aaload, 1) := by decide +kernel
theorem dX10_addEdge_47 : decode cX10_addEdge 47 = .ok (.invokevirtual 114, 3) := by decide +kernel
theorem dX10_addEdge_50 : decode cX10_addEdge 50 = .ok (.ireturn, 1) := by decide +kernel
theorem dX10_removeEdge_0 : decode cX10_removeEdge 0 = .ok (.iload_n 1, 1) := by decide +kernel
theorem dX10_removeEdge_1 : decode cX10_removeEdge 1 = .ok (.iload_n 2, 1) := by decide +kernel
theorem dX10_removeEdge_2 : decode cX10_removeEdge 2 = .ok (.iload_n 3, 1) := by decide +kernel
theorem dX10_removeEdge_3 : decode cX10_removeEdge 3 = .ok (.iload 4, 2) := by decide +kernel
theorem dX10_removeEdge_5 : decode cX10_removeEdge 5 = .ok (.invokestatic 102, 3) := by decide +kernel
theorem dX10_removeEdge_8 : decode cX10_removeEdge 8 = .ok (.ifCond .ne 6, 3) := by decide +kernel
theorem dX10_removeEdge_11 : decode cX10_removeEdge 11 = .ok (.bipush (-2), 2) := by decide +kernel
theorem dX10_removeEdge_13 : decode cX10_removeEdge 13 = .ok (.ireturn, 1) := by decide +kernel
theorem dX10_removeEdge_14 : decode cX10_removeEdge 14 = .ok (.aload_n 0, 1) := by decide +kernel
theorem dX10_removeEdge_15 : decode cX10_removeEdge 15 = .ok (.getfield 13, 3) := by decide +kernel
theorem dX10_removeEdge_18 : decode cX10_removeEdge 18 = .ok (.iload_n 1, 1) := by decide +kernel
theorem dX10_removeEdge_19 : decode cX10_removeEdge 19 = .ok (.aaload, 1) := by decide +kernel
theorem dX10_removeEdge_20 : decode cX10_removeEdge 20 = .ok (.iload_n 2, 1) := by decide +kernel
theorem dX10_removeEdge_21 : decode cX10_removeEdge 21 = .ok (.iload_n 3, 1) := by decide +kernel
theorem dX10_removeEdge_22 : decode cX10_removeEdge 22 = .ok (.iload 4, 2) := by decide +kernel
theorem dX10_removeEdge_24 : decode cX10_removeEdge 24 = .ok (.invokevirtual 118, 3) := by decide +kernel
theorem dX10_removeEdge_27 : decode cX10_removeEdge 27 = .ok (.ifCond .ne 5, 3) := by decide +kernel
theorem dX10_removeEdge_30 : decode cX10_removeEdge 30 = .ok (.iconst (-1), 1) := by decide +kernel
theorem dX10_removeEdge_31 : decode cX10_removeEdge 31 = .ok (.ireturn, 1) := by decide +kernel
theorem dX10_removeEdge_32 : decode cX10_removeEdge 32 = .ok (.aload_n 0, 1) := by decide +kernel
theorem dX10_removeEdge_33 : decode cX10_removeEdge 33 = .ok (.getfield 23, 3) := by decide +kernel
theorem dX10_removeEdge_36 : decode cX10_removeEdge 36 = .ok (.iload_n 1, 1) := by decide +kernel
theorem dX10_removeEdge_37 : decode cX10_removeEdge 37 = .ok (.aload_n 0, 1) := by decide +kernel
theorem dX10_removeEdge_38 : decode cX10_removeEdge 38 = .ok (.getfield 13, 3) := by decide +kernel
theorem dX10_removeEdge_41 : decode cX10_removeEdge 41 = .ok (.iload_n 1, 1) := by decide +kernel
theorem dX10_removeEdge_42 : decode cX10_removeEdge 42 = .ok (.aaload, 1) := by decide +kernel
theorem dX10_removeEdge_43 : decode cX10_removeEdge 43 = .ok (.invokevirtual 106, 3) := by decide +kernel
theorem dX10_removeEdge_46 : decode cX10_removeEdge 46 = .ok (.aload_n 0, 1) := by decide +kernel
theorem dX10_removeEdge_47 : decode cX10_removeEdge 47 = .ok (.getfield 13, 3) := by decide +kernel
theorem dX10_removeEdge_50 : decode cX10_removeEdge 50 = .ok (.iload_n 1, 1) := by decide +kernel
theorem dX10_removeEdge_51 : decode cX10_removeEdge 51 = .ok (.aaload, 1) := by decide +kernel
theorem dX10_removeEdge_52 : decode cX10_removeEdge 52 = .ok (.iload_n 2, 1) := by decide +kernel
theorem dX10_removeEdge_53 : decode cX10_removeEdge 53 = .ok (.iload_n 3, 1) := by decide +kernel
theorem dX10_removeEdge_54 : decode cX10_removeEdge 54 = .ok (.iload 4, 2) := by decide +kernel
theorem dX10_removeEdge_56 : decode cX10_removeEdge 56 = .ok (.invokevirtual 122, 3) := by decide +kernel
theorem dX10_removeEdge_59 : decode cX10_removeEdge 59 = .ok (.aload_n 0, 1) := by decide +kernel
theorem dX10_removeEdge_60 : decode cX10_removeEdge 60 = .ok (.getfield 13, 3) := by decide +kernel
theorem dX10_removeEdge_63 : decode cX10_removeEdge 63 = .ok (.iload_n 1, 1) := by decide +kernel
theorem dX10_removeEdge_64 : decode cX10_removeEdge 64 = .ok (.aaload, 1) := by decide +kernel
theorem dX10_removeEdge_65 : decode cX10_removeEdge 65 = .ok (.invokevirtual 114, 3) := by decide +kernel
theorem dX10_removeEdge_68 : decode cX10_removeEdge 68 = .ok (.ireturn, 1) := by decide +kernel
theorem dX10_targets_0 : decode cX10_targets 0 = .ok (.iload_n 1, 1) := by decide +kernel
theorem dX10_targets_1 : decode cX10_targets 1 = .ok (.invokestatic 125, 3) := by decide +kernel
theorem dX10_targets_4 : decode cX10_targets 4 = .ok (.ifCond .eq 17, 3) := by decide +kernel
theorem dX10_targets_7 : decode cX10_targets 7 = .ok (.iload_n 2, 1) := by decide +kernel
theorem dX10_targets_8 : decode cX10_targets 8 = .ok (.invokestatic 129, 3) := by decide +kernel
theorem dX10_targets_11 : decode cX10_targets 11 = .ok (.ifCond .eq 10, 3) := by decide +kernel
theorem dX10_targets_14 : decode cX10_targets 14 = .ok (.iload_n 3, 1) := by decide +kernel
theorem dX10_targets_15 : decode cX10_targets 15 = .ok (.invokestatic 132, 3) := by decide +kernel
theorem dX10_targets_18 : decode cX10_targets 18 = .ok (.ifCond .ne 6, 3) := by decide +kernel
theorem dX10_targets_21 : decode cX10_targets 21 = .ok (.bipush (-2), 2) := by decide +kernel
theorem dX10_targets_23 : decode cX10_targets 23 = .ok (.ireturn, 1) := by decide +kernel
theorem dX10_targets_24 : decode cX10_targets 24 = .ok (.aload_n 0, 1) := by decide +kernel
theorem dX10_targets_25 : decode cX10_targets 25 = .ok (.getfield 13, 3) := by decide +kernel
theorem dX10_targets_28 : decode cX10_targets 28 = .ok (.iload_n 1, 1) := by decide +kernel
theorem dX10_targets_29 : decode cX10_targets 29 = .ok (.aaload, 1) := by decide +kernel
theorem dX10_targets_30 : decode cX10_targets 30 = .ok (.iload_n 2, 1) := by decide +kernel
theorem dX10_targets_31 : decode cX10_targets 31 = .ok (.iload_n 3, 1) := by decide +kernel
theorem dX10_targets_32 : decode cX10_targets 32 = .ok (.invokevirtual 135, 3) := by decide +kernel
theorem dX10_targets_35 : decode cX10_targets 35 = .ok (.ireturn, 1) := by decide +kernel
theorem dX10_edges_0 : decode cX10_edges 0 = .ok (.iload_n 1, 1) := by decide +kernel
theorem dX10_edges_1 : decode cX10_edges 1 = .ok (.invokestatic 125, 3) := by decide +kernel
theorem dX10_edges_4 : decode cX10_edges 4 = .ok (.ifCond .eq 15, 3) := by decide +kernel
theorem dX10_edges_7 : decode cX10_edges 7 = .ok (.aload_n 0, 1) := by decide +kernel
theorem dX10_edges_8 : decode cX10_edges 8 = .ok (.getfield 13, 3) := by decide +kernel
theorem dX10_edges_11 : decode cX10_edges 11 = .ok (.iload_n 1, 1) := by decide +kernel
theorem dX10_edges_12 : decode cX10_edges 12 = .ok (.aaload, 1) := by decide +kernel
theorem dX10_edges_13 : decode cX10_edges 13 = .ok (.invokevirtual 114, 3) := by decide +kernel
theorem dX10_edges_16 : decode cX10_edges 16 = .ok (.goto 5, 3) := by decide +kernel
theorem dX10_edges_19 : decode cX10_edges 19 = .ok (.bipush (-2), 2) := by decide +kernel
theorem dX10_edges_21 : decode cX10_edges 21 = .ok (.ireturn, 1) := by decide +kernel
theorem dX10_feed_0 : decode cX10_feed 0 = .ok (.iload_n 1, 1) := by decide +kernel
theorem dX10_feed_1 : decode cX10_feed 1 = .ok (.iconst 1, 1) := by decide +kernel
theorem dX10_feed_2 : decode cX10_feed 2 = .ok (.bipush 127, 2) := by decide +kernel
theorem dX10_feed_4 : decode cX10_feed 4 = .ok (.invokestatic 139, 3) := by decide +kernel
theorem dX10_feed_7 : decode cX10_feed 7 = .ok (.ifCond .ne 6, 3) := by decide +kernel
theorem dX10_feed_10 : decode cX10_feed 10 = .ok (.bipush (-2), 2) := by decide +kernel
theorem dX10_feed_12 : decode cX10_feed 12 = .ok (.ireturn, 1) := by decide +kernel
theorem dX10_feed_13 : decode cX10_feed 13 = .ok (.aload_n 0, 1) := by decide +kernel
theorem dX10_feed_14 : decode cX10_feed 14 = .ok (.getfield 32, 3) := by decide +kernel
theorem dX10_feed_17 : decode cX10_feed 17 = .ok (.iload_n 1, 1) := by decide +kernel
theorem dX10_feed_18 : decode cX10_feed 18 = .ok (.invokevirtual 142, 3) := by decide +kernel
theorem dX10_feed_21 : decode cX10_feed 21 = .ok (.ifCond .eq 13, 3) := by decide +kernel
theorem dX10_feed_24 : decode cX10_feed 24 = .ok (.aload_n 0, 1) := by decide +kernel
theorem dX10_feed_25 : decode cX10_feed 25 = .ok (.getfield 32, 3) := by decide +kernel
theorem dX10_feed_28 : decode cX10_feed 28 = .ok (.invokevirtual 145, 3) := by decide +kernel
theorem dX10_feed_31 : decode cX10_feed 31 = .ok (.goto 5, 3) := by decide +kernel
theorem dX10_feed_34 : decode cX10_feed 34 = .ok (.bipush (-3), 2) := by decide +kernel
theorem dX10_feed_36 : decode cX10_feed 36 = .ok (.ireturn, 1) := by decide +kernel
theorem dX10_parse_0 : decode cX10_parse 0 = .ok (.iload_n 1, 1) := by decide +kernel
theorem dX10_parse_1 : decode cX10_parse 1 = .ok (.invokestatic 125, 3) := by decide +kernel
theorem dX10_parse_4 : decode cX10_parse 4 = .ok (.ifCond .ne 6, 3) := by decide +kernel
theorem dX10_parse_7 : decode cX10_parse 7 = .ok (.bipush (-2), 2) := by decide +kernel
theorem dX10_parse_9 : decode cX10_parse 9 = .ok (.ireturn, 1) := by decide +kernel
theorem dX10_parse_10 : decode cX10_parse 10 = .ok (.aload_n 0, 1) := by decide +kernel
theorem dX10_parse_11 : decode cX10_parse 11 = .ok (.invokevirtual 148, 3) := by decide +kernel
theorem dX10_parse_14 : decode cX10_parse 14 = .ok (.istore_n 2, 1) := by decide +kernel
theorem dX10_parse_15 : decode cX10_parse 15 = .ok (.aload_n 0, 1) := by decide +kernel
theorem dX10_parse_16 : decode cX10_parse 16 = .ok (.getfield 32, 3) := by decide +kernel
theorem dX10_parse_19 : decode cX10_parse 19 = .ok (.invokevirtual 151, 3) := by decide +kernel
theorem dX10_parse_22 : decode cX10_parse 22 = .ok (.iload_n 2, 1) := by decide +kernel
theorem dX10_parse_23 : decode cX10_parse 23 = .ok (.ifCond .lt 8, 3) := by decide +kernel
theorem dX10_parse_26 : decode cX10_parse 26 = .ok (.bipush (-100), 2) := by decide +kernel
theorem dX10_parse_28 : decode cX10_parse 28 = .ok (.iload_n 2, 1) := by decide +kernel
theorem dX10_parse_29 : decode cX10_parse 29 = .ok (.isub, 1) := by decide +kernel
theorem dX10_parse_30 : decode cX10_parse 30 = .ok (.ireturn, 1) := by decide +kernel
theorem dX10_parse_31 : decode cX10_parse 31 = .ok (.aload_n 0, 1) := by decide +kernel
theorem dX10_parse_32 : decode cX10_parse 32 = .ok (.iload_n 1, 1) := by decide +kernel
theorem dX10_parse_33 : decode cX10_parse 33 = .ok (.invokevirtual 154, 3) := by decide +kernel
theorem dX10_parse_36 : decode cX10_parse 36 = .ok (.aload_n 0, 1) := by decide +kernel
theorem dX10_parse_37 : decode cX10_parse 37 = .ok (.getfield 46, 3) := by decide +kernel
theorem dX10_parse_40 : decode cX10_parse 40 = .ok (.invokevirtual 114, 3) := by decide +kernel
theorem dX10_parse_43 : decode cX10_parse 43 = .ok (.ireturn, 1) := by decide +kernel
theorem dX10_random_0 : decode cX10_random 0 = .ok (.iload_n 1, 1) := by decide +kernel
theorem dX10_random_1 : decode cX10_random 1 = .ok (.invokestatic 125, 3) := by decide +kernel
theorem dX10_random_4 : decode cX10_random 4 = .ok (.ifCond .eq 13, 3) := by decide +kernel
theorem dX10_random_7 : decode cX10_random 7 = .ok (.iload_n 3, 1) := by decide +kernel
theorem dX10_random_8 : decode cX10_random 8 = .ok (.iconst 0, 1) := by decide +kernel
theorem dX10_random_9 : decode cX10_random 9 = .ok (.bipush 24, 2) := by decide +kernel
theorem dX10_random_11 : decode cX10_random 11 = .ok (.invokestatic 139, 3) := by decide +kernel
theorem dX10_random_14 : decode cX10_random 14 = .ok (.ifCond .ne 6, 3) := by decide +kernel
theorem dX10_random_17 : decode cX10_random 17 = .ok (.bipush (-2), 2) := by decide +kernel
theorem dX10_random_19 : decode cX10_random 19 = .ok (.ireturn, 1) := by decide +kernel
theorem dX10_random_20 : decode cX10_random 20 = .ok (.aload_n 0, 1) := by decide +kernel
theorem dX10_random_21 : decode cX10_random 21 = .ok (.getfield 46, 3) := by decide +kernel
theorem dX10_random_24 : decode cX10_random 24 = .ok (.invokevirtual 157, 3) := by decide +kernel
theorem dX10_random_27 : decode cX10_random 27 = .ok (.iload_n 2, 1) := by decide +kernel
theorem dX10_random_28 : decode cX10_random 28 = .ok (.istore 4, 2) := by decide +kernel
theorem dX10_random_30 : decode cX10_random 30 = .ok (.iconst 0, 1) := by decide +kernel
theorem dX10_random_31 : decode cX10_random 31 = .ok (.istore 5, 2) := by decide +kernel
theorem dX10_random_33 : decode cX10_random 33 = .ok (.iload 5, 2) := by decide +kernel
theorem dX10_random_35 : decode cX10_random 35 = .ok (.iload_n 3, 1) := by decide +kernel
theorem dX10_random_36 : decode cX10_random 36 = .ok (.if_icmp .ge 68, 3) := by decide +kernel
theorem dX10_random_39 : decode cX10_random 39 = .ok (.iload 4, 2) := by decide +kernel
theorem dX10_random_41 : decode cX10_random 41 = .ok (.invokestatic 158, 3) := by decide +kernel
theorem dX10_random_44 : decode cX10_random 44 = .ok (.istore 4, 2) := by decide +kernel
theorem dX10_random_46 : decode cX10_random 46 = .ok (.iload 4, 2) := by decide +kernel
theorem dX10_random_48 : decode cX10_random 48 = .ok (.bipush 16, 2) := by decide +kernel
theorem dX10_random_50 : decode cX10_random 50 = .ok (.iushr, 1) := by decide +kernel
theorem dX10_random_51 : decode cX10_random 51 = .ok (.bipush 8, 2) := by decide +kernel
theorem dX10_random_53 : decode cX10_random 53 = .ok (.irem, 1) := by decide +kernel
theorem dX10_random_54 : decode cX10_random 54 = .ok (.istore 6, 2) := by decide +kernel
theorem dX10_random_56 : decode cX10_random 56 = .ok (.iload 4, 2) := by decide +kernel
theorem dX10_random_58 : decode cX10_random 58 = .ok (.invokestatic 158, 3) := by decide +kernel
theorem dX10_random_61 : decode cX10_random 61 = .ok (.istore 4, 2) := by decide +kernel
theorem dX10_random_63 : decode cX10_random 63 = .ok (.iload 4, 2) := by decide +kernel
theorem dX10_random_65 : decode cX10_random 65 = .ok (.bipush 16, 2) := by decide +kernel
theorem dX10_random_67 : decode cX10_random 67 = .ok (.iushr, 1) := by decide +kernel
theorem dX10_random_68 : decode cX10_random 68 = .ok (.iconst 4, 1) := by decide +kernel
theorem dX10_random_69 : decode cX10_random 69 = .ok (.irem, 1) := by decide +kernel
theorem dX10_random_70 : decode cX10_random 70 = .ok (.istore 7, 2) := by decide +kernel
theorem dX10_random_72 : decode cX10_random 72 = .ok (.iload 4, 2) := by decide +kernel
theorem dX10_random_74 : decode cX10_random 74 = .ok (.invokestatic 158, 3) := by decide +kernel
theorem dX10_random_77 : decode cX10_random 77 = .ok (.istore 4, 2) := by decide +kernel
theorem dX10_random_79 : decode cX10_random 79 = .ok (.aload_n 0, 1) := by decide +kernel
theorem dX10_random_80 : decode cX10_random 80 = .ok (.getfield 46, 3) := by decide +kernel
theorem dX10_random_83 : decode cX10_random 83 = .ok (.iload 6, 2) := by decide +kernel
theorem dX10_random_85 : decode cX10_random 85 = .ok (.iload 7, 2) := by decide +kernel
theorem dX10_random_87 : decode cX10_random 87 = .ok (.iload 4, 2) := by decide +kernel
theorem dX10_random_89 : decode cX10_random 89 = .ok (.bipush 16, 2) := by decide +kernel
theorem dX10_random_91 : decode cX10_random 91 = .ok (.iushr, 1) := by decide +kernel
theorem dX10_random_92 : decode cX10_random 92 = .ok (.bipush 8, 2) := by decide +kernel
theorem dX10_random_94 : decode cX10_random 94 = .ok (.irem, 1) := by decide +kernel
theorem dX10_random_95 : decode cX10_random 95 = .ok (.invokevirtual 110, 3) := by decide +kernel
theorem dX10_random_98 : decode cX10_random 98 = .ok (.iinc 5 1, 3) := by decide +kernel
theorem dX10_random_101 : decode cX10_random 101 = .ok (.goto (-68), 3) := by decide +kernel
theorem dX10_random_104 : decode cX10_random 104 = .ok (.aload_n 0, 1) := by decide +kernel
theorem dX10_random_105 : decode cX10_random 105 = .ok (.iload_n 1, 1) := by decide +kernel
theorem dX10_random_106 : decode cX10_random 106 = .ok (.invokevirtual 154, 3) := by decide +kernel
theorem dX10_random_109 : decode cX10_random 109 = .ok (.aload_n 0, 1) := by decide +kernel
theorem dX10_random_110 : decode cX10_random 110 = .ok (.getfield 46, 3) := by decide +kernel
theorem dX10_random_113 : decode cX10_random 113 = .ok (.invokevirtual 114, 3) := by decide +kernel
theorem dX10_random_116 : decode cX10_random 116 = .ok (.ireturn, 1) := by decide +kernel
theorem dX10_essential_0 : decode cX10_essential 0 = .ok (.iload_n 1, 1) := by decide +kernel
theorem dX10_essential_1 : decode cX10_essential 1 = .ok (.invokestatic 125, 3) := by decide +kernel
theorem dX10_essential_4 : decode cX10_essential 4 = .ok (.ifCond .eq 15, 3) := by decide +kernel
theorem dX10_essential_7 : decode cX10_essential 7 = .ok (.aload_n 0, 1) := by decide +kernel
theorem dX10_essential_8 : decode cX10_essential 8 = .ok (.getfield 13, 3) := by decide +kernel
theorem dX10_essential_11 : decode cX10_essential 11 = .ok (.iload_n 1, 1) := by decide +kernel
theorem dX10_essential_12 : decode cX10_essential 12 = .ok (.aaload, 1) := by decide +kernel
theorem dX10_essential_13 : decode cX10_essential 13 = .ok (.invokevirtual 162, 3) := by decide +kernel
theorem dX10_essential_16 : decode cX10_essential 16 = .ok (.goto 5, 3) := by decide +kernel
theorem dX10_essential_19 : decode cX10_essential 19 = .ok (.bipush (-2), 2) := by decide +kernel
theorem dX10_essential_21 : decode cX10_essential 21 = .ok (.ireturn, 1) := by decide +kernel
theorem dX10_isIrreducible_0 : decode cX10_isIrreducible 0 = .ok (.iload_n 1, 1) := by decide +kernel
theorem dX10_isIrreducible_1 : decode cX10_isIrreducible 1 = .ok (.invokestatic 125, 3) := by decide +kernel
theorem dX10_isIrreducible_4 : decode cX10_isIrreducible 4 = .ok (.ifCond .ne 6, 3) := by decide +kernel
theorem dX10_isIrreducible_7 : decode cX10_isIrreducible 7 = .ok (.bipush (-2), 2) := by decide +kernel
theorem dX10_isIrreducible_9 : decode cX10_isIrreducible 9 = .ok (.ireturn, 1) := by decide +kernel
theorem dX10_isIrreducible_10 : decode cX10_isIrreducible 10 = .ok (.aload_n 0, 1) := by decide +kernel
theorem dX10_isIrreducible_11 : decode cX10_isIrreducible 11 = .ok (.getfield 50, 3) := by decide +kernel
theorem dX10_isIrreducible_14 : decode cX10_isIrreducible 14 = .ok (.aload_n 0, 1) := by decide +kernel
theorem dX10_isIrreducible_15 : decode cX10_isIrreducible 15 = .ok (.getfield 13, 3) := by decide +kernel
theorem dX10_isIrreducible_18 : decode cX10_isIrreducible 18 = .ok (.iload_n 1, 1) := by decide +kernel
theorem dX10_isIrreducible_19 : decode cX10_isIrreducible 19 = .ok (.aaload, 1) := by decide +kernel
theorem dX10_isIrreducible_20 : decode cX10_isIrreducible 20 = .ok (.invokevirtual 165, 3) := by decide +kernel
theorem dX10_isIrreducible_23 : decode cX10_isIrreducible 23 = .ok (.aload_n 0, 1) := by decide +kernel
theorem dX10_isIrreducible_24 : decode cX10_isIrreducible 24 = .ok (.getfield 50, 3) := by decide +kernel
theorem dX10_isIrreducible_27 : decode cX10_isIrreducible 27 = .ok (.invokevirtual 169, 3) := by decide +kernel
theorem dX10_isIrreducible_30 : decode cX10_isIrreducible 30 = .ok (.ifCond .eq 7, 3) := by decide +kernel
theorem dX10_isIrreducible_33 : decode cX10_isIrreducible 33 = .ok (.iconst 1, 1) := by decide +kernel
theorem dX10_isIrreducible_34 : decode cX10_isIrreducible 34 = .ok (.goto 4, 3) := by decide +kernel
theorem dX10_isIrreducible_37 : decode cX10_isIrreducible 37 = .ok (.iconst 0, 1) := by decide +kernel
theorem dX10_isIrreducible_38 : decode cX10_isIrreducible 38 = .ok (.ireturn, 1) := by decide +kernel
theorem dX10_period_0 : decode cX10_period 0 = .ok (.iload_n 1, 1) := by decide +kernel
theorem dX10_period_1 : decode cX10_period 1 = .ok (.invokestatic 125, 3) := by decide +kernel
theorem dX10_period_4 : decode cX10_period 4 = .ok (.ifCond .ne 6, 3) := by decide +kernel
theorem dX10_period_7 : decode cX10_period 7 = .ok (.bipush (-2), 2) := by decide +kernel
theorem dX10_period_9 : decode cX10_period 9 = .ok (.ireturn, 1) := by decide +kernel
theorem dX10_period_10 : decode cX10_period 10 = .ok (.aload_n 0, 1) := by decide +kernel
theorem dX10_period_11 : decode cX10_period 11 = .ok (.getfield 50, 3) := by decide +kernel
theorem dX10_period_14 : decode cX10_period 14 = .ok (.aload_n 0, 1) := by decide +kernel
theorem dX10_period_15 : decode cX10_period 15 = .ok (.getfield 13, 3) := by decide +kernel
theorem dX10_period_18 : decode cX10_period 18 = .ok (.iload_n 1, 1) := by decide +kernel
theorem dX10_period_19 : decode cX10_period 19 = .ok (.aaload, 1) := by decide +kernel
theorem dX10_period_20 : decode cX10_period 20 = .ok (.invokevirtual 165, 3) := by decide +kernel
theorem dX10_period_23 : decode cX10_period 23 = .ok (.aload_n 0, 1) := by decide +kernel
theorem dX10_period_24 : decode cX10_period 24 = .ok (.getfield 50, 3) := by decide +kernel
theorem dX10_period_27 : decode cX10_period 27 = .ok (.invokevirtual 173, 3) := by decide +kernel
theorem dX10_period_30 : decode cX10_period 30 = .ok (.ireturn, 1) := by decide +kernel
theorem dX10_words_0 : decode cX10_words 0 = .ok (.iload_n 1, 1) := by decide +kernel
theorem dX10_words_1 : decode cX10_words 1 = .ok (.invokestatic 125, 3) := by decide +kernel
theorem dX10_words_4 : decode cX10_words 4 = .ok (.ifCond .eq 13, 3) := by decide +kernel
theorem dX10_words_7 : decode cX10_words 7 = .ok (.iload_n 2, 1) := by decide +kernel
theorem dX10_words_8 : decode cX10_words 8 = .ok (.iconst 0, 1) := by decide +kernel
theorem dX10_words_9 : decode cX10_words 9 = .ok (.bipush 30, 2) := by decide +kernel
theorem dX10_words_11 : decode cX10_words 11 = .ok (.invokestatic 139, 3) := by decide +kernel
theorem dX10_words_14 : decode cX10_words 14 = .ok (.ifCond .ne 7, 3) := by decide +kernel
theorem dX10_words_17 : decode cX10_words 17 = .ok (.ldc2_w 176, 3) := by decide +kernel
theorem dX10_words_20 : decode cX10_words 20 = .ok (.lreturn, 1) := by decide +kernel
theorem dX10_words_21 : decode cX10_words 21 = .ok (.aload_n 0, 1) := by decide +kernel
theorem dX10_words_22 : decode cX10_words 22 = .ok (.aload_n 0, 1) := by decide +kernel
theorem dX10_words_23 : decode cX10_words 23 = .ok (.getfield 13, 3) := by decide +kernel
theorem dX10_words_26 : decode cX10_words 26 = .ok (.iload_n 1, 1) := by decide +kernel
theorem dX10_words_27 : decode cX10_words 27 = .ok (.aaload, 1) := by decide +kernel
theorem dX10_words_28 : decode cX10_words 28 = .ok (.iload_n 2, 1) := by decide +kernel
theorem dX10_words_29 : decode cX10_words 29 = .ok (.invokevirtual 178, 3) := by decide +kernel
theorem dX10_words_32 : decode cX10_words 32 = .ok (.aload_n 0, 1) := by decide +kernel
theorem dX10_words_33 : decode cX10_words 33 = .ok (.getfield 69, 3) := by decide +kernel
theorem dX10_words_36 : decode cX10_words 36 = .ok (.iload_n 2, 1) := by decide +kernel
theorem dX10_words_37 : decode cX10_words 37 = .ok (.invokevirtual 182, 3) := by decide +kernel
theorem dX10_words_40 : decode cX10_words 40 = .ok (.lreturn, 1) := by decide +kernel
theorem dX10_growth_0 : decode cX10_growth 0 = .ok (.iload_n 1, 1) := by decide +kernel
theorem dX10_growth_1 : decode cX10_growth 1 = .ok (.invokestatic 125, 3) := by decide +kernel
theorem dX10_growth_4 : decode cX10_growth 4 = .ok (.ifCond .eq 22, 3) := by decide +kernel
theorem dX10_growth_7 : decode cX10_growth 7 = .ok (.iload_n 2, 1) := by decide +kernel
theorem dX10_growth_8 : decode cX10_growth 8 = .ok (.iconst 0, 1) := by decide +kernel
theorem dX10_growth_9 : decode cX10_growth 9 = .ok (.bipush 29, 2) := by decide +kernel
theorem dX10_growth_11 : decode cX10_growth 11 = .ok (.invokestatic 139, 3) := by decide +kernel
theorem dX10_growth_14 : decode cX10_growth 14 = .ok (.ifCond .eq 12, 3) := by decide +kernel
theorem dX10_growth_17 : decode cX10_growth 17 = .ok (.iload_n 3, 1) := by decide +kernel
theorem dX10_growth_18 : decode cX10_growth 18 = .ok (.iconst 0, 1) := by decide +kernel
theorem dX10_growth_19 : decode cX10_growth 19 = .ok (.iconst 1, 1) := by decide +kernel
theorem dX10_growth_20 : decode cX10_growth 20 = .ok (.invokestatic 139, 3) := by decide +kernel
theorem dX10_growth_23 : decode cX10_growth 23 = .ok (.ifCond .ne 7, 3) := by decide +kernel
theorem dX10_growth_26 : decode cX10_growth 26 = .ok (.ldc2_w 176, 3) := by decide +kernel
theorem dX10_growth_29 : decode cX10_growth 29 = .ok (.lreturn, 1) := by decide +kernel
theorem dX10_growth_30 : decode cX10_growth 30 = .ok (.aload_n 0, 1) := by decide +kernel
theorem dX10_growth_31 : decode cX10_growth 31 = .ok (.aload_n 0, 1) := by decide +kernel
theorem dX10_growth_32 : decode cX10_growth 32 = .ok (.getfield 13, 3) := by decide +kernel
theorem dX10_growth_35 : decode cX10_growth 35 = .ok (.iload_n 1, 1) := by decide +kernel
theorem dX10_growth_36 : decode cX10_growth 36 = .ok (.aaload, 1) := by decide +kernel
theorem dX10_growth_37 : decode cX10_growth 37 = .ok (.iload_n 2, 1) := by decide +kernel
theorem dX10_growth_38 : decode cX10_growth 38 = .ok (.iconst 1, 1) := by decide +kernel
theorem dX10_growth_39 : decode cX10_growth 39 = .ok (.iadd, 1) := by decide +kernel
theorem dX10_growth_40 : decode cX10_growth 40 = .ok (.invokevirtual 178, 3) := by decide +kernel
theorem dX10_growth_43 : decode cX10_growth 43 = .ok (.aload_n 0, 1) := by decide +kernel
theorem dX10_growth_44 : decode cX10_growth 44 = .ok (.getfield 69, 3) := by decide +kernel
theorem dX10_growth_47 : decode cX10_growth 47 = .ok (.iload_n 2, 1) := by decide +kernel
theorem dX10_growth_48 : decode cX10_growth 48 = .ok (.iconst 1, 1) := by decide +kernel
theorem dX10_growth_49 : decode cX10_growth 49 = .ok (.iadd, 1) := by decide +kernel
theorem dX10_growth_50 : decode cX10_growth 50 = .ok (.invokevirtual 182, 3) := by decide +kernel
theorem dX10_growth_53 : decode cX10_growth 53 = .ok (.lstore 4, 2) := by decide +kernel
theorem dX10_growth_55 : decode cX10_growth 55 = .ok (.aload_n 0, 1) := by decide +kernel
theorem dX10_growth_56 : decode cX10_growth 56 = .ok (.getfield 69, 3) := by decide +kernel
theorem dX10_growth_59 : decode cX10_growth 59 = .ok (.iload_n 2, 1) := by decide +kernel
theorem dX10_growth_60 : decode cX10_growth 60 = .ok (.invokevirtual 182, 3) := by decide +kernel
theorem dX10_growth_63 : decode cX10_growth 63 = .ok (.lstore 6, 2) := by decide +kernel
theorem dX10_growth_65 : decode cX10_growth 65 = .ok (.lload 4, 2) := by decide +kernel
theorem dX10_growth_67 : decode cX10_growth 67 = .ok (.lload 6, 2) := by decide +kernel
theorem dX10_growth_69 : decode cX10_growth 69 = .ok (.invokestatic 186, 3) := by decide +kernel
theorem dX10_growth_72 : decode cX10_growth 72 = .ok (.lstore 8, 2) := by decide +kernel
theorem dX10_growth_74 : decode cX10_growth 74 = .ok (.lload 6, 2) := by decide +kernel
theorem dX10_growth_76 : decode cX10_growth 76 = .ok (.lconst 0, 1) := by decide +kernel
theorem dX10_growth_77 : decode cX10_growth 77 = .ok (.lcmp, 1) := by decide +kernel
theorem dX10_growth_78 : decode cX10_growth 78 = .ok (.ifCond .eq 10, 3) := by decide +kernel
theorem dX10_growth_81 : decode cX10_growth 81 = .ok (.lload 8, 2) := by decide +kernel
theorem dX10_growth_83 : decode cX10_growth 83 = .ok (.lconst 0, 1) := by decide +kernel
theorem dX10_growth_84 : decode cX10_growth 84 = .ok (.lcmp, 1) := by decide +kernel
theorem dX10_growth_85 : decode cX10_growth 85 = .ok (.ifCond .ne 13, 3) := by decide +kernel
theorem dX10_growth_88 : decode cX10_growth 88 = .ok (.iload_n 3, 1) := by decide +kernel
theorem dX10_growth_89 : decode cX10_growth 89 = .ok (.ifCond .ne 7, 3) := by decide +kernel
theorem dX10_growth_92 : decode cX10_growth 92 = .ok (.lconst 0, 1) := by decide +kernel
theorem dX10_growth_93 : decode cX10_growth 93 = .ok (.goto 4, 3) := by decide +kernel
theorem dX10_growth_96 : decode cX10_growth 96 = .ok (.lconst 1, 1) := by decide +kernel
theorem dX10_growth_97 : decode cX10_growth 97 = .ok (.lreturn, 1) := by decide +kernel
theorem dX10_growth_98 : decode cX10_growth 98 = .ok (.iload_n 3, 1) := by decide +kernel
theorem dX10_growth_99 : decode cX10_growth 99 = .ok (.ifCond .ne 8, 3) := by decide +kernel
theorem dX10_growth_102 : decode cX10_growth 102 = .ok (.lload 4, 2) := by decide +kernel
theorem dX10_growth_104 : decode cX10_growth 104 = .ok (.goto 5, 3) := by decide +kernel
theorem dX10_growth_107 : decode cX10_growth 107 = .ok (.lload 6, 2) := by decide +kernel
theorem dX10_growth_109 : decode cX10_growth 109 = .ok (.lload 8, 2) := by decide +kernel
theorem dX10_growth_111 : decode cX10_growth 111 = .ok (.ldiv, 1) := by decide +kernel
theorem dX10_growth_112 : decode cX10_growth 112 = .ok (.lreturn, 1) := by decide +kernel
theorem dX10_allows_0 : decode cX10_allows 0 = .ok (.iload_n 1, 1) := by decide +kernel
theorem dX10_allows_1 : decode cX10_allows 1 = .ok (.invokestatic 125, 3) := by decide +kernel
theorem dX10_allows_4 : decode cX10_allows 4 = .ok (.ifCond .ne 6, 3) := by decide +kernel
theorem dX10_allows_7 : decode cX10_allows 7 = .ok (.bipush (-2), 2) := by decide +kernel
theorem dX10_allows_9 : decode cX10_allows 9 = .ok (.ireturn, 1) := by decide +kernel
theorem dX10_allows_10 : decode cX10_allows 10 = .ok (.aload_n 0, 1) := by decide +kernel
theorem dX10_allows_11 : decode cX10_allows 11 = .ok (.invokevirtual 190, 3) := by decide +kernel
theorem dX10_allows_14 : decode cX10_allows 14 = .ok (.istore_n 2, 1) := by decide +kernel
theorem dX10_allows_15 : decode cX10_allows 15 = .ok (.iload_n 2, 1) := by decide +kernel
theorem dX10_allows_16 : decode cX10_allows 16 = .ok (.ifCond .lt 7, 3) := by decide +kernel
theorem dX10_allows_19 : decode cX10_allows 19 = .ok (.iconst 0, 1) := by decide +kernel
theorem dX10_allows_20 : decode cX10_allows 20 = .ok (.goto 13, 3) := by decide +kernel
theorem dX10_allows_23 : decode cX10_allows 23 = .ok (.aload_n 0, 1) := by decide +kernel
theorem dX10_allows_24 : decode cX10_allows 24 = .ok (.aload_n 0, 1) := by decide +kernel
theorem dX10_allows_25 : decode cX10_allows 25 = .ok (.getfield 13, 3) := by decide +kernel
theorem dX10_allows_28 : decode cX10_allows 28 = .ok (.iload_n 1, 1) := by decide +kernel
theorem dX10_allows_29 : decode cX10_allows 29 = .ok (.aaload, 1) := by decide +kernel
theorem dX10_allows_30 : decode cX10_allows 30 = .ok (.invokevirtual 193, 3) := by decide +kernel
theorem dX10_allows_33 : decode cX10_allows 33 = .ok (.istore_n 3, 1) := by decide +kernel
theorem dX10_allows_34 : decode cX10_allows 34 = .ok (.aload_n 0, 1) := by decide +kernel
theorem dX10_allows_35 : decode cX10_allows 35 = .ok (.getfield 32, 3) := by decide +kernel
theorem dX10_allows_38 : decode cX10_allows 38 = .ok (.invokevirtual 151, 3) := by decide +kernel
theorem dX10_allows_41 : decode cX10_allows 41 = .ok (.iload_n 2, 1) := by decide +kernel
theorem dX10_allows_42 : decode cX10_allows 42 = .ok (.ifCond .lt 8, 3) := by decide +kernel
theorem dX10_allows_45 : decode cX10_allows 45 = .ok (.bipush (-100), 2) := by decide +kernel
theorem dX10_allows_47 : decode cX10_allows 47 = .ok (.iload_n 2, 1) := by decide +kernel
theorem dX10_allows_48 : decode cX10_allows 48 = .ok (.isub, 1) := by decide +kernel
theorem dX10_allows_49 : decode cX10_allows 49 = .ok (.ireturn, 1) := by decide +kernel
theorem dX10_allows_50 : decode cX10_allows 50 = .ok (.iload_n 3, 1) := by decide +kernel
theorem dX10_allows_51 : decode cX10_allows 51 = .ok (.ifCond .eq 7, 3) := by decide +kernel
theorem dX10_allows_54 : decode cX10_allows 54 = .ok (.iconst 1, 1) := by decide +kernel
theorem dX10_allows_55 : decode cX10_allows 55 = .ok (.goto 4, 3) := by decide +kernel
theorem dX10_allows_58 : decode cX10_allows 58 = .ok (.iconst 0, 1) := by decide +kernel
theorem dX10_allows_59 : decode cX10_allows 59 = .ok (.ireturn, 1) := by decide +kernel
theorem dX10_writeWord_0 : decode cX10_writeWord 0 = .ok (.iload_n 1, 1) := by decide +kernel
theorem dX10_writeWord_1 : decode cX10_writeWord 1 = .ok (.invokestatic 125, 3) := by decide +kernel
theorem dX10_writeWord_4 : decode cX10_writeWord 4 = .ok (.ifCond .eq 13, 3) := by decide +kernel
theorem dX10_writeWord_7 : decode cX10_writeWord 7 = .ok (.iload_n 2, 1) := by decide +kernel
theorem dX10_writeWord_8 : decode cX10_writeWord 8 = .ok (.iconst 0, 1) := by decide +kernel
theorem dX10_writeWord_9 : decode cX10_writeWord 9 = .ok (.bipush 30, 2) := by decide +kernel
theorem dX10_writeWord_11 : decode cX10_writeWord 11 = .ok (.invokestatic 139, 3) := by decide +kernel
theorem dX10_writeWord_14 : decode cX10_writeWord 14 = .ok (.ifCond .ne 6, 3) := by decide +kernel
theorem dX10_writeWord_17 : decode cX10_writeWord 17 = .ok (.bipush (-2), 2) := by decide +kernel
theorem dX10_writeWord_19 : decode cX10_writeWord 19 = .ok (.ireturn, 1) := by decide +kernel
theorem dX10_writeWord_20 : decode cX10_writeWord 20 = .ok (.aload_n 0, 1) := by decide +kernel
theorem dX10_writeWord_21 : decode cX10_writeWord 21 = .ok (.aload_n 0, 1) := by decide +kernel
theorem dX10_writeWord_22 : decode cX10_writeWord 22 = .ok (.getfield 13, 3) := by decide +kernel
theorem dX10_writeWord_25 : decode cX10_writeWord 25 = .ok (.iload_n 1, 1) := by decide +kernel
theorem dX10_writeWord_26 : decode cX10_writeWord 26 = .ok (.aaload, 1) := by decide +kernel
theorem dX10_writeWord_27 : decode cX10_writeWord 27 = .ok (.iload_n 2, 1) := by decide +kernel
theorem dX10_writeWord_28 : decode cX10_writeWord 28 = .ok (.invokevirtual 178, 3) := by decide +kernel
theorem dX10_writeWord_31 : decode cX10_writeWord 31 = .ok (.lload_n 3, 1) := by decide +kernel
theorem dX10_writeWord_32 : decode cX10_writeWord 32 = .ok (.lconst 0, 1) := by decide +kernel
theorem dX10_writeWord_33 : decode cX10_writeWord 33 = .ok (.lcmp, 1) := by decide +kernel
theorem dX10_writeWord_34 : decode cX10_writeWord 34 = .ok (.ifCond .lt 16, 3) := by decide +kernel
theorem dX10_writeWord_37 : decode cX10_writeWord 37 = .ok (.lload_n 3, 1) := by decide +kernel
theorem dX10_writeWord_38 : decode cX10_writeWord 38 = .ok (.aload_n 0, 1) := by decide +kernel
theorem dX10_writeWord_39 : decode cX10_writeWord 39 = .ok (.getfield 69, 3) := by decide +kernel
theorem dX10_writeWord_42 : decode cX10_writeWord 42 = .ok (.iload_n 2, 1) := by decide +kernel
theorem dX10_writeWord_43 : decode cX10_writeWord 43 = .ok (.invokevirtual 182, 3) := by decide +kernel
theorem dX10_writeWord_46 : decode cX10_writeWord 46 = .ok (.lcmp, 1) := by decide +kernel
theorem dX10_writeWord_47 : decode cX10_writeWord 47 = .ok (.ifCond .lt 5, 3) := by decide +kernel
theorem dX10_writeWord_50 : decode cX10_writeWord 50 = .ok (.iconst (-1), 1) := by decide +kernel
theorem dX10_writeWord_51 : decode cX10_writeWord 51 = .ok (.ireturn, 1) := by decide +kernel
theorem dX10_writeWord_52 : decode cX10_writeWord 52 = .ok (.aload_n 0, 1) := by decide +kernel
theorem dX10_writeWord_53 : decode cX10_writeWord 53 = .ok (.getfield 69, 3) := by decide +kernel
theorem dX10_writeWord_56 : decode cX10_writeWord 56 = .ok (.aload_n 0, 1) := by decide +kernel
theorem dX10_writeWord_57 : decode cX10_writeWord 57 = .ok (.getfield 59, 3) := by decide +kernel
theorem dX10_writeWord_60 : decode cX10_writeWord 60 = .ok (.iload_n 2, 1) := by decide +kernel
theorem dX10_writeWord_61 : decode cX10_writeWord 61 = .ok (.lload_n 3, 1) := by decide +kernel
theorem dX10_writeWord_62 : decode cX10_writeWord 62 = .ok (.aload_n 0, 1) := by decide +kernel
theorem dX10_writeWord_63 : decode cX10_writeWord 63 = .ok (.getfield 36, 3) := by decide +kernel
theorem dX10_writeWord_66 : decode cX10_writeWord 66 = .ok (.invokevirtual 197, 3) := by decide +kernel
theorem dX10_writeWord_69 : decode cX10_writeWord 69 = .ok (.iload_n 2, 1) := by decide +kernel
theorem dX10_writeWord_70 : decode cX10_writeWord 70 = .ok (.ireturn, 1) := by decide +kernel
theorem dX10_forbidden_0 : decode cX10_forbidden 0 = .ok (.iload_n 1, 1) := by decide +kernel
theorem dX10_forbidden_1 : decode cX10_forbidden 1 = .ok (.invokestatic 125, 3) := by decide +kernel
theorem dX10_forbidden_4 : decode cX10_forbidden 4 = .ok (.ifCond .eq 13, 3) := by decide +kernel
theorem dX10_forbidden_7 : decode cX10_forbidden 7 = .ok (.iload_n 2, 1) := by decide +kernel
theorem dX10_forbidden_8 : decode cX10_forbidden 8 = .ok (.iconst 1, 1) := by decide +kernel
theorem dX10_forbidden_9 : decode cX10_forbidden 9 = .ok (.bipush 6, 2) := by decide +kernel
theorem dX10_forbidden_11 : decode cX10_forbidden 11 = .ok (.invokestatic 139, 3) := by decide +kernel
theorem dX10_forbidden_14 : decode cX10_forbidden 14 = .ok (.ifCond .ne 6, 3) := by decide +kernel
theorem dX10_forbidden_17 : decode cX10_forbidden 17 = .ok (.bipush (-2), 2) := by decide +kernel
theorem dX10_forbidden_19 : decode cX10_forbidden 19 = .ok (.ireturn, 1) := by decide +kernel
theorem dX10_forbidden_20 : decode cX10_forbidden 20 = .ok (.aload_n 0, 1) := by decide +kernel
theorem dX10_forbidden_21 : decode cX10_forbidden 21 = .ok (.aload_n 0, 1) := by decide +kernel
theorem dX10_forbidden_22 : decode cX10_forbidden 22 = .ok (.getfield 13, 3) := by decide +kernel
theorem dX10_forbidden_25 : decode cX10_forbidden 25 = .ok (.iload_n 1, 1) := by decide +kernel
theorem dX10_forbidden_26 : decode cX10_forbidden 26 = .ok (.aaload, 1) := by decide +kernel
theorem dX10_forbidden_27 : decode cX10_forbidden 27 = .ok (.invokevirtual 201, 3) := by decide +kernel
theorem dX10_forbidden_30 : decode cX10_forbidden 30 = .ok (.aload_n 0, 1) := by decide +kernel
theorem dX10_forbidden_31 : decode cX10_forbidden 31 = .ok (.getfield 59, 3) := by decide +kernel
theorem dX10_forbidden_34 : decode cX10_forbidden 34 = .ok (.iload_n 2, 1) := by decide +kernel
theorem dX10_forbidden_35 : decode cX10_forbidden 35 = .ok (.invokevirtual 204, 3) := by decide +kernel
theorem dX10_forbidden_38 : decode cX10_forbidden 38 = .ok (.ireturn, 1) := by decide +kernel
theorem dX10_writeForbidden_0 : decode cX10_writeForbidden 0 = .ok (.iload_n 1, 1) := by decide +kernel
theorem dX10_writeForbidden_1 : decode cX10_writeForbidden 1 = .ok (.invokestatic 125, 3) := by decide +kernel
theorem dX10_writeForbidden_4 : decode cX10_writeForbidden 4 = .ok (.ifCond .eq 13, 3) := by decide +kernel
theorem dX10_writeForbidden_7 : decode cX10_writeForbidden 7 = .ok (.iload_n 2, 1) := by decide +kernel
theorem dX10_writeForbidden_8 : decode cX10_writeForbidden 8 = .ok (.iconst 1, 1) := by decide +kernel
theorem dX10_writeForbidden_9 : decode cX10_writeForbidden 9 = .ok (.bipush 6, 2) := by decide +kernel
theorem dX10_writeForbidden_11 : decode cX10_writeForbidden 11 = .ok (.invokestatic 139, 3) := by decide +kernel
theorem dX10_writeForbidden_14 : decode cX10_writeForbidden 14 = .ok (.ifCond .ne 6, 3) := by decide +kernel
theorem dX10_writeForbidden_17 : decode cX10_writeForbidden 17 = .ok (.bipush (-2), 2) := by decide +kernel
theorem dX10_writeForbidden_19 : decode cX10_writeForbidden 19 = .ok (.ireturn, 1) := by decide +kernel
theorem dX10_writeForbidden_20 : decode cX10_writeForbidden 20 = .ok (.aload_n 0, 1) := by decide +kernel
theorem dX10_writeForbidden_21 : decode cX10_writeForbidden 21 = .ok (.aload_n 0, 1) := by decide +kernel
theorem dX10_writeForbidden_22 : decode cX10_writeForbidden 22 = .ok (.getfield 13, 3) := by decide +kernel
theorem dX10_writeForbidden_25 : decode cX10_writeForbidden 25 = .ok (.iload_n 1, 1) := by decide +kernel
theorem dX10_writeForbidden_26 : decode cX10_writeForbidden 26 = .ok (.aaload, 1) := by decide +kernel
theorem dX10_writeForbidden_27 : decode cX10_writeForbidden 27 = .ok (.invokevirtual 201, 3) := by decide +kernel
theorem dX10_writeForbidden_30 : decode cX10_writeForbidden 30 = .ok (.iload_n 3, 1) := by decide +kernel
theorem dX10_writeForbidden_31 : decode cX10_writeForbidden 31 = .ok (.ifCond .lt 15, 3) := by decide +kernel
theorem dX10_writeForbidden_34 : decode cX10_writeForbidden 34 = .ok (.iload_n 3, 1) := by decide +kernel
theorem dX10_writeForbidden_35 : decode cX10_writeForbidden 35 = .ok (.aload_n 0, 1) := by decide +kernel
theorem dX10_writeForbidden_36 : decode cX10_writeForbidden 36 = .ok (.getfield 59, 3) := by decide +kernel
theorem dX10_writeForbidden_39 : decode cX10_writeForbidden 39 = .ok (.iload_n 2, 1) := by decide +kernel
theorem dX10_writeForbidden_40 : decode cX10_writeForbidden 40 = .ok (.invokevirtual 204, 3) := by decide +kernel
theorem dX10_writeForbidden_43 : decode cX10_writeForbidden 43 = .ok (.if_icmp .lt 5, 3) := by decide +kernel
theorem dX10_writeForbidden_46 : decode cX10_writeForbidden 46 = .ok (.iconst (-1), 1) := by decide +kernel
theorem dX10_writeForbidden_47 : decode cX10_writeForbidden 47 = .ok (.ireturn, 1) := by decide +kernel
theorem dX10_writeForbidden_48 : decode cX10_writeForbidden 48 = .ok (.aload_n 0, 1) := by decide +kernel
theorem dX10_writeForbidden_49 : decode cX10_writeForbidden 49 = .ok (.getfield 59, 3) := by decide +kernel
theorem dX10_writeForbidden_52 : decode cX10_writeForbidden 52 = .ok (.iload_n 2, 1) := by decide +kernel
theorem dX10_writeForbidden_53 : decode cX10_writeForbidden 53 = .ok (.iload_n 3, 1) := by decide +kernel
theorem dX10_writeForbidden_54 : decode cX10_writeForbidden 54 = .ok (.aload_n 0, 1) := by decide +kernel
theorem dX10_writeForbidden_55 : decode cX10_writeForbidden 55 = .ok (.getfield 36, 3) := by decide +kernel
theorem dX10_writeForbidden_58 : decode cX10_writeForbidden 58 = .ok (.invokevirtual 207, 3) := by decide +kernel
theorem dX10_writeForbidden_61 : decode cX10_writeForbidden 61 = .ok (.iload_n 2, 1) := by decide +kernel
theorem dX10_writeForbidden_62 : decode cX10_writeForbidden 62 = .ok (.ireturn, 1) := by decide +kernel
theorem dX10_periodic_0 : decode cX10_periodic 0 = .ok (.iload_n 1, 1) := by decide +kernel
theorem dX10_periodic_1 : decode cX10_periodic 1 = .ok (.invokestatic 125, 3) := by decide +kernel
theorem dX10_periodic_4 : decode cX10_periodic 4 = .ok (.ifCond .eq 13, 3) := by decide +kernel
theorem dX10_periodic_7 : decode cX10_periodic 7 = .ok (.iload_n 2, 1) := by decide +kernel
theorem dX10_periodic_8 : decode cX10_periodic 8 = .ok (.iconst 1, 1) := by decide +kernel
theorem dX10_periodic_9 : decode cX10_periodic 9 = .ok (.bipush 7, 2) := by decide +kernel
theorem dX10_periodic_11 : decode cX10_periodic 11 = .ok (.invokestatic 139, 3) := by decide +kernel
theorem dX10_periodic_14 : decode cX10_periodic 14 = .ok (.ifCond .ne 6, 3) := by decide +kernel
theorem dX10_periodic_17 : decode cX10_periodic 17 = .ok (.bipush (-2), 2) := by decide +kernel
theorem dX10_periodic_19 : decode cX10_periodic 19 = .ok (.ireturn, 1) := by decide +kernel
theorem dX10_periodic_20 : decode cX10_periodic 20 = .ok (.aload_n 0, 1) := by decide +kernel
theorem dX10_periodic_21 : decode cX10_periodic 21 = .ok (.aload_n 0, 1) := by decide +kernel
theorem dX10_periodic_22 : decode cX10_periodic 22 = .ok (.getfield 13, 3) := by decide +kernel
theorem dX10_periodic_25 : decode cX10_periodic 25 = .ok (.iload_n 1, 1) := by decide +kernel
theorem dX10_periodic_26 : decode cX10_periodic 26 = .ok (.aaload, 1) := by decide +kernel
theorem dX10_periodic_27 : decode cX10_periodic 27 = .ok (.invokevirtual 201, 3) := by decide +kernel
theorem dX10_periodic_30 : decode cX10_periodic 30 = .ok (.iconst 0, 1) := by decide +kernel
theorem dX10_periodic_31 : decode cX10_periodic 31 = .ok (.istore_n 3, 1) := by decide +kernel
theorem dX10_periodic_32 : decode cX10_periodic 32 = .ok (.iconst 1, 1) := by decide +kernel
theorem dX10_periodic_33 : decode cX10_periodic 33 = .ok (.istore 4, 2) := by decide +kernel
theorem dX10_periodic_35 : decode cX10_periodic 35 = .ok (.iload 4, 2) := by decide +kernel
theorem dX10_periodic_37 : decode cX10_periodic 37 = .ok (.iload_n 2, 1) := by decide +kernel
theorem dX10_periodic_38 : decode cX10_periodic 38 = .ok (.if_icmp .gt 31, 3) := by decide +kernel
theorem dX10_periodic_41 : decode cX10_periodic 41 = .ok (.iload_n 2, 1) := by decide +kernel
theorem dX10_periodic_42 : decode cX10_periodic 42 = .ok (.iload 4, 2) := by decide +kernel
theorem dX10_periodic_44 : decode cX10_periodic 44 = .ok (.irem, 1) := by decide +kernel
theorem dX10_periodic_45 : decode cX10_periodic 45 = .ok (.ifCond .ne 18, 3) := by decide +kernel
theorem dX10_periodic_48 : decode cX10_periodic 48 = .ok (.iload_n 3, 1) := by decide +kernel
theorem dX10_periodic_49 : decode cX10_periodic 49 = .ok (.iload 4, 2) := by decide +kernel
theorem dX10_periodic_51 : decode cX10_periodic 51 = .ok (.aload_n 0, 1) := by decide +kernel
theorem dX10_periodic_52 : decode cX10_periodic 52 = .ok (.getfield 59, 3) := by decide +kernel
theorem dX10_periodic_55 : decode cX10_periodic 55 = .ok (.iload 4, 2) := by decide +kernel
theorem dX10_periodic_57 : decode cX10_periodic 57 = .ok (.invokevirtual 211, 3) := by decide +kernel
theorem dX10_periodic_60 : decode cX10_periodic 60 = .ok (.imul, 1) := by decide +kernel
theorem dX10_periodic_61 : decode cX10_periodic 61 = .ok (.iadd, 1) := by decide +kernel
theorem dX10_periodic_62 : decode cX10_periodic 62 = .ok (.istore_n 3, 1) := by decide +kernel
theorem dX10_periodic_63 : decode cX10_periodic 63 = .ok (.iinc 4 1, 3) := by decide +kernel
theorem dX10_periodic_66 : decode cX10_periodic 66 = .ok (.goto (-31), 3) := by decide +kernel
theorem dX10_periodic_69 : decode cX10_periodic 69 = .ok (.iload_n 3, 1) := by decide +kernel
theorem dX10_periodic_70 : decode cX10_periodic 70 = .ok (.ireturn, 1) := by decide +kernel
theorem dX10_orbits_0 : decode cX10_orbits 0 = .ok (.iload_n 1, 1) := by decide +kernel
theorem dX10_orbits_1 : decode cX10_orbits 1 = .ok (.invokestatic 125, 3) := by decide +kernel
theorem dX10_orbits_4 : decode cX10_orbits 4 = .ok (.ifCond .eq 13, 3) := by decide +kernel
theorem dX10_orbits_7 : decode cX10_orbits 7 = .ok (.iload_n 2, 1) := by decide +kernel
theorem dX10_orbits_8 : decode cX10_orbits 8 = .ok (.iconst 1, 1) := by decide +kernel
theorem dX10_orbits_9 : decode cX10_orbits 9 = .ok (.bipush 7, 2) := by decide +kernel
theorem dX10_orbits_11 : decode cX10_orbits 11 = .ok (.invokestatic 139, 3) := by decide +kernel
theorem dX10_orbits_14 : decode cX10_orbits 14 = .ok (.ifCond .ne 6, 3) := by decide +kernel
theorem dX10_orbits_17 : decode cX10_orbits 17 = .ok (.bipush (-2), 2) := by decide +kernel
theorem dX10_orbits_19 : decode cX10_orbits 19 = .ok (.ireturn, 1) := by decide +kernel
theorem dX10_orbits_20 : decode cX10_orbits 20 = .ok (.aload_n 0, 1) := by decide +kernel
theorem dX10_orbits_21 : decode cX10_orbits 21 = .ok (.aload_n 0, 1) := by decide +kernel
theorem dX10_orbits_22 : decode cX10_orbits 22 = .ok (.getfield 13, 3) := by decide +kernel
theorem dX10_orbits_25 : decode cX10_orbits 25 = .ok (.iload_n 1, 1) := by decide +kernel
theorem dX10_orbits_26 : decode cX10_orbits 26 = .ok (.aaload, 1) := by decide +kernel
theorem dX10_orbits_27 : decode cX10_orbits 27 = .ok (.invokevirtual 201, 3) := by decide +kernel
theorem dX10_orbits_30 : decode cX10_orbits 30 = .ok (.aload_n 0, 1) := by decide +kernel
theorem dX10_orbits_31 : decode cX10_orbits 31 = .ok (.getfield 59, 3) := by decide +kernel
theorem dX10_orbits_34 : decode cX10_orbits 34 = .ok (.iload_n 2, 1) := by decide +kernel
theorem dX10_orbits_35 : decode cX10_orbits 35 = .ok (.invokevirtual 211, 3) := by decide +kernel
theorem dX10_orbits_38 : decode cX10_orbits 38 = .ok (.ireturn, 1) := by decide +kernel
theorem dX10_characteristic_0 : decode cX10_characteristic 0 = .ok (.iload_n 1, 1) := by decide +kernel
theorem dX10_characteristic_1 : decode cX10_characteristic 1 = .ok (.invokestatic 125, 3) := by decide +kernel
theorem dX10_characteristic_4 : decode cX10_characteristic 4 = .ok (.ifCond .ne 7, 3) := by decide +kernel
theorem dX10_characteristic_7 : decode cX10_characteristic 7 = .ok (.ldc2_w 214, 3) := by decide +kernel
theorem dX10_characteristic_10 : decode cX10_characteristic 10 = .ok (.lreturn, 1) := by decide +kernel
theorem dX10_characteristic_11 : decode cX10_characteristic 11 = .ok (.aload_n 0, 1) := by decide +kernel
theorem dX10_characteristic_12 : decode cX10_characteristic 12 = .ok (.getfield 50, 3) := by decide +kernel
theorem dX10_characteristic_15 : decode cX10_characteristic 15 = .ok (.aload_n 0, 1) := by decide +kernel
theorem dX10_characteristic_16 : decode cX10_characteristic 16 = .ok (.getfield 13, 3) := by decide +kernel
theorem dX10_characteristic_19 : decode cX10_characteristic 19 = .ok (.iload_n 1, 1) := by decide +kernel
theorem dX10_characteristic_20 : decode cX10_characteristic 20 = .ok (.aaload, 1) := by decide +kernel
theorem dX10_characteristic_21 : decode cX10_characteristic 21 = .ok (.invokevirtual 165, 3) := by decide +kernel
theorem dX10_characteristic_24 : decode cX10_characteristic 24 = .ok (.aload_n 0, 1) := by decide +kernel
theorem dX10_characteristic_25 : decode cX10_characteristic 25 = .ok (.getfield 50, 3) := by decide +kernel
theorem dX10_characteristic_28 : decode cX10_characteristic 28 = .ok (.invokevirtual 162, 3) := by decide +kernel
theorem dX10_characteristic_31 : decode cX10_characteristic 31 = .ok (.invokestatic 216, 3) := by decide +kernel
theorem dX10_characteristic_34 : decode cX10_characteristic 34 = .ok (.istore_n 3, 1) := by decide +kernel
theorem dX10_characteristic_35 : decode cX10_characteristic 35 = .ok (.iload_n 2, 1) := by decide +kernel
theorem dX10_characteristic_36 : decode cX10_characteristic 36 = .ok (.iconst 0, 1) := by decide +kernel
theorem dX10_characteristic_37 : decode cX10_characteristic 37 = .ok (.iload_n 3, 1) := by decide +kernel
theorem dX10_characteristic_38 : decode cX10_characteristic 38 = .ok (.invokestatic 139, 3) := by decide +kernel
theorem dX10_characteristic_41 : decode cX10_characteristic 41 = .ok (.ifCond .ne 7, 3) := by decide +kernel
theorem dX10_characteristic_44 : decode cX10_characteristic 44 = .ok (.ldc2_w 214, 3) := by decide +kernel
theorem dX10_characteristic_47 : decode cX10_characteristic 47 = .ok (.lreturn, 1) := by decide +kernel
theorem dX10_characteristic_48 : decode cX10_characteristic 48 = .ok (.aload_n 0, 1) := by decide +kernel
theorem dX10_characteristic_49 : decode cX10_characteristic 49 = .ok (.getfield 97, 3) := by decide +kernel
theorem dX10_characteristic_52 : decode cX10_characteristic 52 = .ok (.aload_n 0, 1) := by decide +kernel
theorem dX10_characteristic_53 : decode cX10_characteristic 53 = .ok (.getfield 50, 3) := by decide +kernel
theorem dX10_characteristic_56 : decode cX10_characteristic 56 = .ok (.invokevirtual 221, 3) := by decide +kernel
theorem dX10_characteristic_59 : decode cX10_characteristic 59 = .ok (.aload_n 0, 1) := by decide +kernel
theorem dX10_characteristic_60 : decode cX10_characteristic 60 = .ok (.getfield 97, 3) := by decide +kernel
theorem dX10_characteristic_63 : decode cX10_characteristic 63 = .ok (.iload_n 2, 1) := by decide +kernel
theorem dX10_characteristic_64 : decode cX10_characteristic 64 = .ok (.bipush 8, 2) := by decide +kernel
theorem dX10_characteristic_66 : decode cX10_characteristic 66 = .ok (.iadd, 1) := by decide +kernel
theorem dX10_characteristic_67 : decode cX10_characteristic 67 = .ok (.iload_n 3, 1) := by decide +kernel
theorem dX10_characteristic_68 : decode cX10_characteristic 68 = .ok (.isub, 1) := by decide +kernel
theorem dX10_characteristic_69 : decode cX10_characteristic 69 = .ok (.invokevirtual 224, 3) := by decide +kernel
theorem dX10_characteristic_72 : decode cX10_characteristic 72 = .ok (.lreturn, 1) := by decide +kernel
theorem dX10_cover_0 : decode cX10_cover 0 = .ok (.iload_n 1, 1) := by decide +kernel
theorem dX10_cover_1 : decode cX10_cover 1 = .ok (.invokestatic 125, 3) := by decide +kernel
theorem dX10_cover_4 : decode cX10_cover 4 = .ok (.ifCond .eq 10, 3) := by decide +kernel
theorem dX10_cover_7 : decode cX10_cover 7 = .ok (.iload_n 2, 1) := by decide +kernel
theorem dX10_cover_8 : decode cX10_cover 8 = .ok (.invokestatic 125, 3) := by decide +kernel
theorem dX10_cover_11 : decode cX10_cover 11 = .ok (.ifCond .ne 6, 3) := by decide +kernel
theorem dX10_cover_14 : decode cX10_cover 14 = .ok (.bipush (-2), 2) := by decide +kernel
theorem dX10_cover_16 : decode cX10_cover 16 = .ok (.ireturn, 1) := by decide +kernel
theorem dX10_cover_17 : decode cX10_cover 17 = .ok (.aload_n 0, 1) := by decide +kernel
theorem dX10_cover_18 : decode cX10_cover 18 = .ok (.aload_n 0, 1) := by decide +kernel
theorem dX10_cover_19 : decode cX10_cover 19 = .ok (.getfield 13, 3) := by decide +kernel
theorem dX10_cover_22 : decode cX10_cover 22 = .ok (.iload_n 1, 1) := by decide +kernel
theorem dX10_cover_23 : decode cX10_cover 23 = .ok (.aaload, 1) := by decide +kernel
theorem dX10_cover_24 : decode cX10_cover 24 = .ok (.invokevirtual 227, 3) := by decide +kernel
theorem dX10_cover_27 : decode cX10_cover 27 = .ok (.istore_n 3, 1) := by decide +kernel
theorem dX10_cover_28 : decode cX10_cover 28 = .ok (.iload_n 3, 1) := by decide +kernel
theorem dX10_cover_29 : decode cX10_cover 29 = .ok (.ifCond .le 22, 3) := by decide +kernel
theorem dX10_cover_32 : decode cX10_cover 32 = .ok (.aload_n 0, 1) := by decide +kernel
theorem dX10_cover_33 : decode cX10_cover 33 = .ok (.getfield 46, 3) := by decide +kernel
theorem dX10_cover_36 : decode cX10_cover 36 = .ok (.aload_n 0, 1) := by decide +kernel
theorem dX10_cover_37 : decode cX10_cover 37 = .ok (.getfield 83, 3) := by decide +kernel
theorem dX10_cover_40 : decode cX10_cover 40 = .ok (.invokevirtual 230, 3) := by decide +kernel
theorem dX10_cover_43 : decode cX10_cover 43 = .ok (.invokevirtual 234, 3) := by decide +kernel
theorem dX10_cover_46 : decode cX10_cover 46 = .ok (.aload_n 0, 1) := by decide +kernel
theorem dX10_cover_47 : decode cX10_cover 47 = .ok (.iload_n 2, 1) := by decide +kernel
theorem dX10_cover_48 : decode cX10_cover 48 = .ok (.invokevirtual 154, 3) := by decide +kernel
theorem dX10_cover_51 : decode cX10_cover 51 = .ok (.iload_n 3, 1) := by decide +kernel
theorem dX10_cover_52 : decode cX10_cover 52 = .ok (.ireturn, 1) := by decide +kernel
theorem dX10_writeReset_0 : decode cX10_writeReset 0 = .ok (.iload_n 1, 1) := by decide +kernel
theorem dX10_writeReset_1 : decode cX10_writeReset 1 = .ok (.invokestatic 125, 3) := by decide +kernel
theorem dX10_writeReset_4 : decode cX10_writeReset 4 = .ok (.ifCond .ne 6, 3) := by decide +kernel
theorem dX10_writeReset_7 : decode cX10_writeReset 7 = .ok (.bipush (-2), 2) := by decide +kernel
theorem dX10_writeReset_9 : decode cX10_writeReset 9 = .ok (.ireturn, 1) := by decide +kernel
theorem dX10_writeReset_10 : decode cX10_writeReset 10 = .ok (.aload_n 0, 1) := by decide +kernel
theorem dX10_writeReset_11 : decode cX10_writeReset 11 = .ok (.aload_n 0, 1) := by decide +kernel
theorem dX10_writeReset_12 : decode cX10_writeReset 12 = .ok (.getfield 13, 3) := by decide +kernel
theorem dX10_writeReset_15 : decode cX10_writeReset 15 = .ok (.iload_n 1, 1) := by decide +kernel
theorem dX10_writeReset_16 : decode cX10_writeReset 16 = .ok (.aaload, 1) := by decide +kernel
theorem dX10_writeReset_17 : decode cX10_writeReset 17 = .ok (.invokevirtual 227, 3) := by decide +kernel
theorem dX10_writeReset_20 : decode cX10_writeReset 20 = .ok (.istore_n 2, 1) := by decide +kernel
theorem dX10_writeReset_21 : decode cX10_writeReset 21 = .ok (.iload_n 2, 1) := by decide +kernel
theorem dX10_writeReset_22 : decode cX10_writeReset 22 = .ok (.ifCond .ge 5, 3) := by decide +kernel
theorem dX10_writeReset_25 : decode cX10_writeReset 25 = .ok (.iload_n 2, 1) := by decide +kernel
theorem dX10_writeReset_26 : decode cX10_writeReset 26 = .ok (.ireturn, 1) := by decide +kernel
theorem dX10_writeReset_27 : decode cX10_writeReset 27 = .ok (.aload_n 0, 1) := by decide +kernel
theorem dX10_writeReset_28 : decode cX10_writeReset 28 = .ok (.getfield 83, 3) := by decide +kernel
theorem dX10_writeReset_31 : decode cX10_writeReset 31 = .ok (.aload_n 0, 1) := by decide +kernel
theorem dX10_writeReset_32 : decode cX10_writeReset 32 = .ok (.getfield 36, 3) := by decide +kernel
theorem dX10_writeReset_35 : decode cX10_writeReset 35 = .ok (.invokevirtual 237, 3) := by decide +kernel
theorem dX10_writeReset_38 : decode cX10_writeReset 38 = .ok (.aload_n 0, 1) := by decide +kernel
theorem dX10_writeReset_39 : decode cX10_writeReset 39 = .ok (.getfield 36, 3) := by decide +kernel
theorem dX10_writeReset_42 : decode cX10_writeReset 42 = .ok (.invokevirtual 145, 3) := by decide +kernel
theorem dX10_writeReset_45 : decode cX10_writeReset 45 = .ok (.ireturn, 1) := by decide +kernel
theorem dX10_memory_0 : decode cX10_memory 0 = .ok (.iload_n 1, 1) := by decide +kernel
theorem dX10_memory_1 : decode cX10_memory 1 = .ok (.invokestatic 125, 3) := by decide +kernel
theorem dX10_memory_4 : decode cX10_memory 4 = .ok (.ifCond .ne 6, 3) := by decide +kernel
theorem dX10_memory_7 : decode cX10_memory 7 = .ok (.bipush (-2), 2) := by decide +kernel
theorem dX10_memory_9 : decode cX10_memory 9 = .ok (.ireturn, 1) := by decide +kernel
theorem dX10_memory_10 : decode cX10_memory 10 = .ok (.aload_n 0, 1) := by decide +kernel
theorem dX10_memory_11 : decode cX10_memory 11 = .ok (.aload_n 0, 1) := by decide +kernel
theorem dX10_memory_12 : decode cX10_memory 12 = .ok (.getfield 13, 3) := by decide +kernel
theorem dX10_memory_15 : decode cX10_memory 15 = .ok (.iload_n 1, 1) := by decide +kernel
theorem dX10_memory_16 : decode cX10_memory 16 = .ok (.aaload, 1) := by decide +kernel
theorem dX10_memory_17 : decode cX10_memory 17 = .ok (.invokevirtual 227, 3) := by decide +kernel
theorem dX10_memory_20 : decode cX10_memory 20 = .ok (.istore_n 2, 1) := by decide +kernel
theorem dX10_memory_21 : decode cX10_memory 21 = .ok (.iload_n 2, 1) := by decide +kernel
theorem dX10_memory_22 : decode cX10_memory 22 = .ok (.ifCond .ge 7, 3) := by decide +kernel
theorem dX10_memory_25 : decode cX10_memory 25 = .ok (.iload_n 2, 1) := by decide +kernel
theorem dX10_memory_26 : decode cX10_memory 26 = .ok (.goto 10, 3) := by decide +kernel
theorem dX10_memory_29 : decode cX10_memory 29 = .ok (.aload_n 0, 1) := by decide +kernel
theorem dX10_memory_30 : decode cX10_memory 30 = .ok (.getfield 83, 3) := by decide +kernel
theorem dX10_memory_33 : decode cX10_memory 33 = .ok (.invokevirtual 241, 3) := by decide +kernel
theorem dX10_memory_36 : decode cX10_memory 36 = .ok (.ireturn, 1) := by decide +kernel
theorem dX10_isMixing_0 : decode cX10_isMixing 0 = .ok (.iload_n 1, 1) := by decide +kernel
theorem dX10_isMixing_1 : decode cX10_isMixing 1 = .ok (.invokestatic 125, 3) := by decide +kernel
theorem dX10_isMixing_4 : decode cX10_isMixing 4 = .ok (.ifCond .ne 6, 3) := by decide +kernel
theorem dX10_isMixing_7 : decode cX10_isMixing 7 = .ok (.bipush (-2), 2) := by decide +kernel
theorem dX10_isMixing_9 : decode cX10_isMixing 9 = .ok (.ireturn, 1) := by decide +kernel
theorem dX10_isMixing_10 : decode cX10_isMixing 10 = .ok (.aload_n 0, 1) := by decide +kernel
theorem dX10_isMixing_11 : decode cX10_isMixing 11 = .ok (.aload_n 0, 1) := by decide +kernel
theorem dX10_isMixing_12 : decode cX10_isMixing 12 = .ok (.getfield 13, 3) := by decide +kernel
theorem dX10_isMixing_15 : decode cX10_isMixing 15 = .ok (.iload_n 1, 1) := by decide +kernel
theorem dX10_isMixing_16 : decode cX10_isMixing 16 = .ok (.aaload, 1) := by decide +kernel
theorem dX10_isMixing_17 : decode cX10_isMixing 17 = .ok (.invokevirtual 227, 3) := by decide +kernel
theorem dX10_isMixing_20 : decode cX10_isMixing 20 = .ok (.istore_n 2, 1) := by decide +kernel
theorem dX10_isMixing_21 : decode cX10_isMixing 21 = .ok (.iload_n 2, 1) := by decide +kernel
theorem dX10_isMixing_22 : decode cX10_isMixing 22 = .ok (.ifCond .ge 5, 3) := by decide +kernel
theorem dX10_isMixing_25 : decode cX10_isMixing 25 = .ok (.iload_n 2, 1) := by decide +kernel
theorem dX10_isMixing_26 : decode cX10_isMixing 26 = .ok (.ireturn, 1) := by decide +kernel
theorem dX10_isMixing_27 : decode cX10_isMixing 27 = .ok (.aload_n 0, 1) := by decide +kernel
theorem dX10_isMixing_28 : decode cX10_isMixing 28 = .ok (.getfield 83, 3) := by decide +kernel
theorem dX10_isMixing_31 : decode cX10_isMixing 31 = .ok (.invokevirtual 230, 3) := by decide +kernel
theorem dX10_isMixing_34 : decode cX10_isMixing 34 = .ok (.invokevirtual 173, 3) := by decide +kernel
theorem dX10_isMixing_37 : decode cX10_isMixing 37 = .ok (.iconst 1, 1) := by decide +kernel
theorem dX10_isMixing_38 : decode cX10_isMixing 38 = .ok (.if_icmp .ne 7, 3) := by decide +kernel
theorem dX10_isMixing_41 : decode cX10_isMixing 41 = .ok (.iconst 1, 1) := by decide +kernel
theorem dX10_isMixing_42 : decode cX10_isMixing 42 = .ok (.goto 4, 3) := by decide +kernel
theorem dX10_isMixing_45 : decode cX10_isMixing 45 = .ok (.iconst 0, 1) := by decide +kernel
theorem dX10_isMixing_46 : decode cX10_isMixing 46 = .ok (.ireturn, 1) := by decide +kernel
theorem dX10_writeDifference_0 : decode cX10_writeDifference 0 = .ok (.iload_n 1, 1) := by decide +kernel
theorem dX10_writeDifference_1 : decode cX10_writeDifference 1 = .ok (.invokestatic 125, 3) := by decide +kernel
theorem dX10_writeDifference_4 : decode cX10_writeDifference 4 = .ok (.ifCond .eq 10, 3) := by decide +kernel
theorem dX10_writeDifference_7 : decode cX10_writeDifference 7 = .ok (.iload_n 2, 1) := by decide +kernel
theorem dX10_writeDifference_8 : decode cX10_writeDifference 8 = .ok (.invokestatic 125, 3) := by decide +kernel
theorem dX10_writeDifference_11 : decode cX10_writeDifference 11 = .ok (.ifCond .ne 6, 3) := by decide +kernel
theorem dX10_writeDifference_14 : decode cX10_writeDifference 14 = .ok (.bipush (-2), 2) := by decide +kernel
theorem dX10_writeDifference_16 : decode cX10_writeDifference 16 = .ok (.ireturn, 1) := by decide +kernel
theorem dX10_writeDifference_17 : decode cX10_writeDifference 17 = .ok (.aload_n 0, 1) := by decide +kernel
theorem dX10_writeDifference_18 : decode cX10_writeDifference 18 = .ok (.aload_n 0, 1) := by decide +kernel
theorem dX10_writeDifference_19 : decode cX10_writeDifference 19 = .ok (.getfield 13, 3) := by decide +kernel
theorem dX10_writeDifference_22 : decode cX10_writeDifference 22 = .ok (.iload_n 1, 1) := by decide +kernel
theorem dX10_writeDifference_23 : decode cX10_writeDifference 23 = .ok (.aaload, 1) := by decide +kernel
theorem dX10_writeDifference_24 : decode cX10_writeDifference 24 = .ok (.invokevirtual 201, 3) := by decide +kernel
theorem dX10_writeDifference_27 : decode cX10_writeDifference 27 = .ok (.aload_n 0, 1) := by decide +kernel
theorem dX10_writeDifference_28 : decode cX10_writeDifference 28 = .ok (.getfield 53, 3) := by decide +kernel
theorem dX10_writeDifference_31 : decode cX10_writeDifference 31 = .ok (.aload_n 0, 1) := by decide +kernel
theorem dX10_writeDifference_32 : decode cX10_writeDifference 32 = .ok (.getfield 13, 3) := by decide +kernel
theorem dX10_writeDifference_35 : decode cX10_writeDifference 35 = .ok (.iload_n 2, 1) := by decide +kernel
theorem dX10_writeDifference_36 : decode cX10_writeDifference 36 = .ok (.aaload, 1) := by decide +kernel
theorem dX10_writeDifference_37 : decode cX10_writeDifference 37 = .ok (.invokevirtual 165, 3) := by decide +kernel
theorem dX10_writeDifference_40 : decode cX10_writeDifference 40 = .ok (.aload_n 0, 1) := by decide +kernel
theorem dX10_writeDifference_41 : decode cX10_writeDifference 41 = .ok (.getfield 63, 3) := by decide +kernel
theorem dX10_writeDifference_44 : decode cX10_writeDifference 44 = .ok (.aload_n 0, 1) := by decide +kernel
theorem dX10_writeDifference_45 : decode cX10_writeDifference 45 = .ok (.getfield 53, 3) := by decide +kernel
theorem dX10_writeDifference_48 : decode cX10_writeDifference 48 = .ok (.invokevirtual 244, 3) := by decide +kernel
theorem dX10_writeDifference_51 : decode cX10_writeDifference 51 = .ok (.aload_n 0, 1) := by decide +kernel
theorem dX10_writeDifference_52 : decode cX10_writeDifference 52 = .ok (.getfield 76, 3) := by decide +kernel
theorem dX10_writeDifference_55 : decode cX10_writeDifference 55 = .ok (.aload_n 0, 1) := by decide +kernel
theorem dX10_writeDifference_56 : decode cX10_writeDifference 56 = .ok (.getfield 59, 3) := by decide +kernel
theorem dX10_writeDifference_59 : decode cX10_writeDifference 59 = .ok (.aload_n 0, 1) := by decide +kernel
theorem dX10_writeDifference_60 : decode cX10_writeDifference 60 = .ok (.getfield 63, 3) := by decide +kernel
theorem dX10_writeDifference_63 : decode cX10_writeDifference 63 = .ok (.invokevirtual 247, 3) := by decide +kernel
theorem dX10_writeDifference_66 : decode cX10_writeDifference 66 = .ok (.ifCond .ne 5, 3) := by decide +kernel
theorem dX10_writeDifference_69 : decode cX10_writeDifference 69 = .ok (.iconst (-1), 1) := by decide +kernel
theorem dX10_writeDifference_70 : decode cX10_writeDifference 70 = .ok (.ireturn, 1) := by decide +kernel
theorem dX10_writeDifference_71 : decode cX10_writeDifference 71 = .ok (.aload_n 0, 1) := by decide +kernel
theorem dX10_writeDifference_72 : decode cX10_writeDifference 72 = .ok (.getfield 76, 3) := by decide +kernel
theorem dX10_writeDifference_75 : decode cX10_writeDifference 75 = .ok (.aload_n 0, 1) := by decide +kernel
theorem dX10_writeDifference_76 : decode cX10_writeDifference 76 = .ok (.getfield 36, 3) := by decide +kernel
theorem dX10_writeDifference_79 : decode cX10_writeDifference 79 = .ok (.invokevirtual 251, 3) := by decide +kernel
theorem dX10_writeDifference_82 : decode cX10_writeDifference 82 = .ok (.aload_n 0, 1) := by decide +kernel
theorem dX10_writeDifference_83 : decode cX10_writeDifference 83 = .ok (.getfield 36, 3) := by decide +kernel
theorem dX10_writeDifference_86 : decode cX10_writeDifference 86 = .ok (.invokevirtual 145, 3) := by decide +kernel
theorem dX10_writeDifference_89 : decode cX10_writeDifference 89 = .ok (.ireturn, 1) := by decide +kernel
theorem dX10_union_0 : decode cX10_union 0 = .ok (.iload_n 1, 1) := by decide +kernel
theorem dX10_union_1 : decode cX10_union 1 = .ok (.invokestatic 125, 3) := by decide +kernel
theorem dX10_union_4 : decode cX10_union 4 = .ok (.ifCond .eq 17, 3) := by decide +kernel
theorem dX10_union_7 : decode cX10_union 7 = .ok (.iload_n 2, 1) := by decide +kernel
theorem dX10_union_8 : decode cX10_union 8 = .ok (.invokestatic 125, 3) := by decide +kernel
theorem dX10_union_11 : decode cX10_union 11 = .ok (.ifCond .eq 10, 3) := by decide +kernel
theorem dX10_union_14 : decode cX10_union 14 = .ok (.iload_n 3, 1) := by decide +kernel
theorem dX10_union_15 : decode cX10_union 15 = .ok (.invokestatic 125, 3) := by decide +kernel
theorem dX10_union_18 : decode cX10_union 18 = .ok (.ifCond .ne 6, 3) := by decide +kernel
theorem dX10_union_21 : decode cX10_union 21 = .ok (.bipush (-2), 2) := by decide +kernel
theorem dX10_union_23 : decode cX10_union 23 = .ok (.ireturn, 1) := by decide +kernel
theorem dX10_union_24 : decode cX10_union 24 = .ok (.aload_n 0, 1) := by decide +kernel
theorem dX10_union_25 : decode cX10_union 25 = .ok (.getfield 50, 3) := by decide +kernel
theorem dX10_union_28 : decode cX10_union 28 = .ok (.aload_n 0, 1) := by decide +kernel
theorem dX10_union_29 : decode cX10_union 29 = .ok (.getfield 13, 3) := by decide +kernel
theorem dX10_union_32 : decode cX10_union 32 = .ok (.iload_n 1, 1) := by decide +kernel
theorem dX10_union_33 : decode cX10_union 33 = .ok (.aaload, 1) := by decide +kernel
theorem dX10_union_34 : decode cX10_union 34 = .ok (.invokevirtual 165, 3) := by decide +kernel
theorem dX10_union_37 : decode cX10_union 37 = .ok (.aload_n 0, 1) := by decide +kernel
theorem dX10_union_38 : decode cX10_union 38 = .ok (.getfield 53, 3) := by decide +kernel
theorem dX10_union_41 : decode cX10_union 41 = .ok (.aload_n 0, 1) := by decide +kernel
theorem dX10_union_42 : decode cX10_union 42 = .ok (.getfield 13, 3) := by decide +kernel
theorem dX10_union_45 : decode cX10_union 45 = .ok (.iload_n 2, 1) := by decide +kernel
theorem dX10_union_46 : decode cX10_union 46 = .ok (.aaload, 1) := by decide +kernel
theorem dX10_union_47 : decode cX10_union 47 = .ok (.invokevirtual 165, 3) := by decide +kernel
theorem dX10_union_50 : decode cX10_union 50 = .ok (.aload_n 0, 1) := by decide +kernel
theorem dX10_union_51 : decode cX10_union 51 = .ok (.getfield 90, 3) := by decide +kernel
theorem dX10_union_54 : decode cX10_union 54 = .ok (.invokevirtual 254, 3) := by decide +kernel
theorem dX10_union_57 : decode cX10_union 57 = .ok (.iconst 0, 1) := by decide +kernel
theorem dX10_union_58 : decode cX10_union 58 = .ok (.istore 4, 2) := by decide +kernel
theorem dX10_union_60 : decode cX10_union 60 = .ok (.iload 4, 2) := by decide +kernel
theorem dX10_union_62 : decode cX10_union 62 = .ok (.bipush 8, 2) := by decide +kernel
theorem dX10_union_64 : decode cX10_union 64 = .ok (.if_icmp .ge 76, 3) := by decide +kernel
theorem dX10_union_67 : decode cX10_union 67 = .ok (.iconst 0, 1) := by decide +kernel
theorem dX10_union_68 : decode cX10_union 68 = .ok (.istore 5, 2) := by decide +kernel
theorem dX10_union_70 : decode cX10_union 70 = .ok (.iload 5, 2) := by decide +kernel
theorem dX10_union_72 : decode cX10_union 72 = .ok (.iconst 4, 1) := by decide +kernel
theorem dX10_union_73 : decode cX10_union 73 = .ok (.if_icmp .ge 61, 3) := by decide +kernel
theorem dX10_union_76 : decode cX10_union 76 = .ok (.aload_n 0, 1) := by decide +kernel
theorem dX10_union_77 : decode cX10_union 77 = .ok (.getfield 90, 3) := by decide +kernel
theorem dX10_union_80 : decode cX10_union 80 = .ok (.iload 4, 2) := by decide +kernel
theorem dX10_union_82 : decode cX10_union 82 = .ok (.iload 5, 2) := by decide +kernel
theorem dX10_union_84 : decode cX10_union 84 = .ok (.aload_n 0, 1) := by decide +kernel
theorem dX10_union_85 : decode cX10_union 85 = .ok (.getfield 50, 3) := by decide +kernel
theorem dX10_union_88 : decode cX10_union 88 = .ok (.iload 4, 2) := by decide +kernel
theorem dX10_union_90 : decode cX10_union 90 = .ok (.iload 5, 2) := by decide +kernel
theorem dX10_union_92 : decode cX10_union 92 = .ok (.invokevirtual 135, 3) := by decide +kernel
theorem dX10_union_95 : decode cX10_union 95 = .ok (.i2l, 1) := by decide +kernel
theorem dX10_union_96 : decode cX10_union 96 = .ok (.invokevirtual 255, 3) := by decide +kernel
theorem dX10_union_99 : decode cX10_union 99 = .ok (.aload_n 0, 1) := by decide +kernel
theorem dX10_union_100 : decode cX10_union 100 = .ok (.getfield 90, 3) := by decide +kernel
theorem dX10_union_103 : decode cX10_union 103 = .ok (.bipush 8, 2) := by decide +kernel
theorem dX10_union_105 : decode cX10_union 105 = .ok (.iload 4, 2) := by decide +kernel
theorem dX10_union_107 : decode cX10_union 107 = .ok (.iadd, 1) := by decide +kernel
theorem dX10_union_108 : decode cX10_union 108 = .ok (.iload 5, 2) := by decide +kernel
theorem dX10_union_110 : decode cX10_union 110 = .ok (.aload_n 0, 1) := by decide +kernel
theorem dX10_union_111 : decode cX10_union 111 = .ok (.getfield 53, 3) := by decide +kernel
theorem dX10_union_114 : decode cX10_union 114 = .ok (.iload 4, 2) := by decide +kernel
theorem dX10_union_116 : decode cX10_union 116 = .ok (.iload 5, 2) := by decide +kernel
theorem dX10_union_118 : decode cX10_union 118 = .ok (.invokevirtual 135, 3) := by decide +kernel
theorem dX10_union_121 : decode cX10_union 121 = .ok (.i2l, 1) := by decide +kernel
theorem dX10_union_122 : decode cX10_union 122 = .ok (.bipush 8, 2) := by decide +kernel
theorem dX10_union_124 : decode cX10_union 124 = .ok (.lshl, 1) := by decide +kernel
theorem dX10_union_125 : decode cX10_union 125 = .ok (.invokevirtual 255, 3) := by decide +kernel
theorem dX10_union_128 : decode cX10_union 128 = .ok (.iinc 5 1, 3) := by decide +kernel
theorem dX10_union_131 : decode cX10_union 131 = .ok (.goto (-61), 3) := by decide +kernel
theorem dX10_union_134 : decode cX10_union 134 = .ok (.iinc 4 1, 3) := by decide +kernel
theorem dX10_union_137 : decode cX10_union 137 = .ok (.goto (-77), 3) := by decide +kernel
theorem dX10_union_140 : decode cX10_union 140 = .ok (.aload_n 0, 1) := by decide +kernel
theorem dX10_union_141 : decode cX10_union 141 = .ok (.iload_n 3, 1) := by decide +kernel
theorem dX10_union_142 : decode cX10_union 142 = .ok (.invokevirtual 259, 3) := by decide +kernel
theorem dX10_union_145 : decode cX10_union 145 = .ok (.ireturn, 1) := by decide +kernel
theorem dX10_intersect_0 : decode cX10_intersect 0 = .ok (.iload_n 1, 1) := by decide +kernel
theorem dX10_intersect_1 : decode cX10_intersect 1 = .ok (.invokestatic 125, 3) := by decide +kernel
theorem dX10_intersect_4 : decode cX10_intersect 4 = .ok (.ifCond .eq 17, 3) := by decide +kernel
theorem dX10_intersect_7 : decode cX10_intersect 7 = .ok (.iload_n 2, 1) := by decide +kernel
theorem dX10_intersect_8 : decode cX10_intersect 8 = .ok (.invokestatic 125, 3) := by decide +kernel
theorem dX10_intersect_11 : decode cX10_intersect 11 = .ok (.ifCond .eq 10, 3) := by decide +kernel
theorem dX10_intersect_14 : decode cX10_intersect 14 = .ok (.iload_n 3, 1) := by decide +kernel
theorem dX10_intersect_15 : decode cX10_intersect 15 = .ok (.invokestatic 125, 3) := by decide +kernel
theorem dX10_intersect_18 : decode cX10_intersect 18 = .ok (.ifCond .ne 6, 3) := by decide +kernel
theorem dX10_intersect_21 : decode cX10_intersect 21 = .ok (.bipush (-2), 2) := by decide +kernel
theorem dX10_intersect_23 : decode cX10_intersect 23 = .ok (.ireturn, 1) := by decide +kernel
theorem dX10_intersect_24 : decode cX10_intersect 24 = .ok (.aload_n 0, 1) := by decide +kernel
theorem dX10_intersect_25 : decode cX10_intersect 25 = .ok (.getfield 90, 3) := by decide +kernel
theorem dX10_intersect_28 : decode cX10_intersect 28 = .ok (.invokevirtual 254, 3) := by decide +kernel
theorem dX10_intersect_31 : decode cX10_intersect 31 = .ok (.iconst 0, 1) := by decide +kernel
theorem dX10_intersect_32 : decode cX10_intersect 32 = .ok (.istore 4, 2) := by decide +kernel
theorem dX10_intersect_34 : decode cX10_intersect 34 = .ok (.iload 4, 2) := by decide +kernel
theorem dX10_intersect_36 : decode cX10_intersect 36 = .ok (.bipush 8, 2) := by decide +kernel
theorem dX10_intersect_38 : decode cX10_intersect 38 = .ok (.if_icmp .ge 90, 3) := by decide +kernel
theorem dX10_intersect_41 : decode cX10_intersect 41 = .ok (.iconst 0, 1) := by decide +kernel
theorem dX10_intersect_42 : decode cX10_intersect 42 = .ok (.istore 5, 2) := by decide +kernel
theorem dX10_intersect_44 : decode cX10_intersect 44 = .ok (.iload 5, 2) := by decide +kernel
theorem dX10_intersect_46 : decode cX10_intersect 46 = .ok (.bipush 8, 2) := by decide +kernel
theorem dX10_intersect_48 : decode cX10_intersect 48 = .ok (.if_icmp .ge 74, 3) := by decide +kernel
theorem dX10_intersect_51 : decode cX10_intersect 51 = .ok (.iconst 0, 1) := by decide +kernel
theorem dX10_intersect_52 : decode cX10_intersect 52 = .ok (.istore 6, 2) := by decide +kernel
theorem dX10_intersect_54 : decode cX10_intersect 54 = .ok (.iload 6, 2) := by decide +kernel
theorem dX10_intersect_56 : decode cX10_intersect 56 = .ok (.iconst 4, 1) := by decide +kernel
theorem dX10_intersect_57 : decode cX10_intersect 57 = .ok (.if_icmp .ge 59, 3) := by decide +kernel
theorem dX10_intersect_60 : decode cX10_intersect 60 = .ok (.aload_n 0, 1) := by decide +kernel
theorem dX10_intersect_61 : decode cX10_intersect 61 = .ok (.getfield 13, 3) := by decide +kernel
theorem dX10_intersect_64 : decode cX10_intersect 64 = .ok (.iload_n 2, 1) := by decide +kernel
theorem dX10_intersect_65 : decode cX10_intersect 65 = .ok (.aaload, 1) := by decide +kernel
theorem dX10_intersect_66 : decode cX10_intersect 66 = .ok (.iload 5, 2) := by decide +kernel
theorem dX10_intersect_68 : decode cX10_intersect 68 = .ok (.iload 6, 2) := by decide +kernel
theorem dX10_intersect_70 : decode cX10_intersect 70 = .ok (.invokevirtual 135, 3) := by decide +kernel
theorem dX10_intersect_73 : decode cX10_intersect 73 = .ok (.istore 7, 2) := by decide +kernel
theorem dX10_intersect_75 : decode cX10_intersect 75 = .ok (.aload_n 0, 1) := by decide +kernel
theorem dX10_intersect_76 : decode cX10_intersect 76 = .ok (.getfield 90, 3) := by decide +kernel
theorem dX10_intersect_79 : decode cX10_intersect 79 = .ok (.bipush 8, 2) := by decide +kernel
theorem dX10_intersect_81 : decode cX10_intersect 81 = .ok (.iload 4, 2) := by decide +kernel
theorem dX10_intersect_83 : decode cX10_intersect 83 = .ok (.imul, 1) := by decide +kernel
theorem dX10_intersect_84 : decode cX10_intersect 84 = .ok (.iload 5, 2) := by decide +kernel
theorem dX10_intersect_86 : decode cX10_intersect 86 = .ok (.iadd, 1) := by decide +kernel
theorem dX10_intersect_87 : decode cX10_intersect 87 = .ok (.iload 6, 2) := by decide +kernel
theorem dX10_intersect_89 : decode cX10_intersect 89 = .ok (.aload_n 0, 1) := by decide +kernel
theorem dX10_intersect_90 : decode cX10_intersect 90 = .ok (.getfield 13, 3) := by decide +kernel
theorem dX10_intersect_93 : decode cX10_intersect 93 = .ok (.iload_n 1, 1) := by decide +kernel
theorem dX10_intersect_94 : decode cX10_intersect 94 = .ok (.aaload, 1) := by decide +kernel
theorem dX10_intersect_95 : decode cX10_intersect 95 = .ok (.iload 4, 2) := by decide +kernel
theorem dX10_intersect_97 : decode cX10_intersect 97 = .ok (.iload 6, 2) := by decide +kernel
theorem dX10_intersect_99 : decode cX10_intersect 99 = .ok (.invokevirtual 135, 3) := by decide +kernel
theorem dX10_intersect_102 : decode cX10_intersect 102 = .ok (.iload 7, 2) := by decide +kernel
theorem dX10_intersect_104 : decode cX10_intersect 104 = .ok (.invokestatic 262, 3) := by decide +kernel
theorem dX10_intersect_107 : decode cX10_intersect 107 = .ok (.invokevirtual 255, 3) := by decide +kernel
theorem dX10_intersect_110 : decode cX10_intersect 110 = .ok (.iinc 6 1, 3) := by decide +kernel
theorem dX10_intersect_113 : decode cX10_intersect 113 = .ok (.goto (-59), 3) := by decide +kernel
theorem dX10_intersect_116 : decode cX10_intersect 116 = .ok (.iinc 5 1, 3) := by decide +kernel
theorem dX10_intersect_119 : decode cX10_intersect 119 = .ok (.goto (-75), 3) := by decide +kernel
theorem dX10_intersect_122 : decode cX10_intersect 122 = .ok (.iinc 4 1, 3) := by decide +kernel
theorem dX10_intersect_125 : decode cX10_intersect 125 = .ok (.goto (-91), 3) := by decide +kernel
theorem dX10_intersect_128 : decode cX10_intersect 128 = .ok (.aload_n 0, 1) := by decide +kernel
theorem dX10_intersect_129 : decode cX10_intersect 129 = .ok (.iload_n 3, 1) := by decide +kernel
theorem dX10_intersect_130 : decode cX10_intersect 130 = .ok (.invokevirtual 259, 3) := by decide +kernel
theorem dX10_intersect_133 : decode cX10_intersect 133 = .ok (.ireturn, 1) := by decide +kernel
theorem dX10_reverse_0 : decode cX10_reverse 0 = .ok (.iload_n 1, 1) := by decide +kernel
theorem dX10_reverse_1 : decode cX10_reverse 1 = .ok (.invokestatic 125, 3) := by decide +kernel
theorem dX10_reverse_4 : decode cX10_reverse 4 = .ok (.ifCond .eq 10, 3) := by decide +kernel
theorem dX10_reverse_7 : decode cX10_reverse 7 = .ok (.iload_n 2, 1) := by decide +kernel
theorem dX10_reverse_8 : decode cX10_reverse 8 = .ok (.invokestatic 125, 3) := by decide +kernel
theorem dX10_reverse_11 : decode cX10_reverse 11 = .ok (.ifCond .ne 6, 3) := by decide +kernel
theorem dX10_reverse_14 : decode cX10_reverse 14 = .ok (.bipush (-2), 2) := by decide +kernel
theorem dX10_reverse_16 : decode cX10_reverse 16 = .ok (.ireturn, 1) := by decide +kernel
theorem dX10_reverse_17 : decode cX10_reverse 17 = .ok (.aload_n 0, 1) := by decide +kernel
theorem dX10_reverse_18 : decode cX10_reverse 18 = .ok (.getfield 46, 3) := by decide +kernel
theorem dX10_reverse_21 : decode cX10_reverse 21 = .ok (.invokevirtual 157, 3) := by decide +kernel
theorem dX10_reverse_24 : decode cX10_reverse 24 = .ok (.iconst 0, 1) := by decide +kernel
theorem dX10_reverse_25 : decode cX10_reverse 25 = .ok (.istore_n 3, 1) := by decide +kernel
theorem dX10_reverse_26 : decode cX10_reverse 26 = .ok (.iload_n 3, 1) := by decide +kernel
