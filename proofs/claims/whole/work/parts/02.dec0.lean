theorem dX0_init_0 : decode cX0_init 0 = .ok (.aload_n 0, 1) := by decide +kernel
theorem dX0_init_1 : decode cX0_init 1 = .ok (.invokespecial 3, 3) := by decide +kernel
theorem dX0_init_4 : decode cX0_init 4 = .ok (.aload_n 0, 1) := by decide +kernel
theorem dX0_init_5 : decode cX0_init 5 = .ok (.sipush 256, 3) := by decide +kernel
theorem dX0_init_8 : decode cX0_init 8 = .ok (.newarray .boolean, 2) := by decide +kernel
theorem dX0_init_10 : decode cX0_init 10 = .ok (.putfield 11, 3) := by decide +kernel
theorem dX0_init_13 : decode cX0_init 13 = .ok (.aload_n 0, 1) := by decide +kernel
theorem dX0_init_14 : decode cX0_init 14 = .ok (.sipush 256, 3) := by decide +kernel
theorem dX0_init_17 : decode cX0_init 17 = .ok (.newarray .boolean, 2) := by decide +kernel
theorem dX0_init_19 : decode cX0_init 19 = .ok (.putfield 17, 3) := by decide +kernel
theorem dX0_init_22 : decode cX0_init 22 = .ok (.aload_n 0, 1) := by decide +kernel
theorem dX0_init_23 : decode cX0_init 23 = .ok (.sipush 256, 3) := by decide +kernel
theorem dX0_init_26 : decode cX0_init 26 = .ok (.newarray .int, 2) := by decide +kernel
theorem dX0_init_28 : decode cX0_init 28 = .ok (.putfield 20, 3) := by decide +kernel
theorem dX0_init_31 : decode cX0_init 31 = .ok (.aload_n 0, 1) := by decide +kernel
theorem dX0_init_32 : decode cX0_init 32 = .ok (.sipush 256, 3) := by decide +kernel
theorem dX0_init_35 : decode cX0_init 35 = .ok (.newarray .int, 2) := by decide +kernel
theorem dX0_init_37 : decode cX0_init 37 = .ok (.putfield 24, 3) := by decide +kernel
theorem dX0_init_40 : decode cX0_init 40 = .ok (.aload_n 0, 1) := by decide +kernel
theorem dX0_init_41 : decode cX0_init 41 = .ok (.sipush 256, 3) := by decide +kernel
theorem dX0_init_44 : decode cX0_init 44 = .ok (.newarray .int, 2) := by decide +kernel
theorem dX0_init_46 : decode cX0_init 46 = .ok (.putfield 27, 3) := by decide +kernel
theorem dX0_init_49 : decode cX0_init 49 = .ok (.aload_n 0, 1) := by decide +kernel
theorem dX0_init_50 : decode cX0_init 50 = .ok (.bipush 8, 2) := by decide +kernel
theorem dX0_init_52 : decode cX0_init 52 = .ok (.newarray .int, 2) := by decide +kernel
theorem dX0_init_54 : decode cX0_init 54 = .ok (.putfield 30, 3) := by decide +kernel
theorem dX0_init_57 : decode cX0_init 57 = .ok (.aload_n 0, 1) := by decide +kernel
theorem dX0_init_58 : decode cX0_init 58 = .ok (.new 33, 3) := by decide +kernel
theorem dX0_init_61 : decode cX0_init 61 = .ok (.dup, 1) := by decide +kernel
theorem dX0_init_62 : decode cX0_init 62 = .ok (.invokespecial 35, 3) := by decide +kernel
theorem dX0_init_65 : decode cX0_init 65 = .ok (.putfield 36, 3) := by decide +kernel
theorem dX0_init_68 : decode cX0_init 68 = .ok (.aload_n 0, 1) := by decide +kernel
theorem dX0_init_69 : decode cX0_init 69 = .ok (.new 9, 3) := by decide +kernel
theorem dX0_init_72 : decode cX0_init 72 = .ok (.dup, 1) := by decide +kernel
theorem dX0_init_73 : decode cX0_init 73 = .ok (.invokespecial 40, 3) := by decide +kernel
theorem dX0_init_76 : decode cX0_init 76 = .ok (.putfield 41, 3) := by decide +kernel
theorem dX0_init_79 : decode cX0_init 79 = .ok (.aload_n 0, 1) := by decide +kernel
theorem dX0_init_80 : decode cX0_init 80 = .ok (.bipush 8, 2) := by decide +kernel
theorem dX0_init_82 : decode cX0_init 82 = .ok (.newarray .int, 2) := by decide +kernel
theorem dX0_init_84 : decode cX0_init 84 = .ok (.putfield 45, 3) := by decide +kernel
theorem dX0_init_87 : decode cX0_init 87 = .ok (.aload_n 0, 1) := by decide +kernel
theorem dX0_init_88 : decode cX0_init 88 = .ok (.bipush 8, 2) := by decide +kernel
theorem dX0_init_90 : decode cX0_init 90 = .ok (.newarray .int, 2) := by decide +kernel
theorem dX0_init_92 : decode cX0_init 92 = .ok (.putfield 48, 3) := by decide +kernel
theorem dX0_init_95 : decode cX0_init 95 = .ok (.aload_n 0, 1) := by decide +kernel
theorem dX0_init_96 : decode cX0_init 96 = .ok (.new 33, 3) := by decide +kernel
theorem dX0_init_99 : decode cX0_init 99 = .ok (.dup, 1) := by decide +kernel
theorem dX0_init_100 : decode cX0_init 100 = .ok (.invokespecial 35, 3) := by decide +kernel
theorem dX0_init_103 : decode cX0_init 103 = .ok (.putfield 51, 3) := by decide +kernel
theorem dX0_init_106 : decode cX0_init 106 = .ok (.return_, 1) := by decide +kernel
theorem dX0_build_0 : decode cX0_build 0 = .ok (.aload_n 0, 1) := by decide +kernel
theorem dX0_build_1 : decode cX0_build 1 = .ok (.aload_n 1, 1) := by decide +kernel
theorem dX0_build_2 : decode cX0_build 2 = .ok (.invokevirtual 54, 3) := by decide +kernel
theorem dX0_build_5 : decode cX0_build 5 = .ok (.aload_n 0, 1) := by decide +kernel
theorem dX0_build_6 : decode cX0_build 6 = .ok (.aload_n 1, 1) := by decide +kernel
theorem dX0_build_7 : decode cX0_build 7 = .ok (.invokevirtual 58, 3) := by decide +kernel
theorem dX0_build_10 : decode cX0_build 10 = .ok (.ifCond .ne 5, 3) := by decide +kernel
theorem dX0_build_13 : decode cX0_build 13 = .ok (.iconst 0, 1) := by decide +kernel
theorem dX0_build_14 : decode cX0_build 14 = .ok (.ireturn, 1) := by decide +kernel
theorem dX0_build_15 : decode cX0_build 15 = .ok (.aload_n 0, 1) := by decide +kernel
theorem dX0_build_16 : decode cX0_build 16 = .ok (.aload_n 1, 1) := by decide +kernel
theorem dX0_build_17 : decode cX0_build 17 = .ok (.invokevirtual 62, 3) := by decide +kernel
theorem dX0_build_20 : decode cX0_build 20 = .ok (.aload_n 0, 1) := by decide +kernel
theorem dX0_build_21 : decode cX0_build 21 = .ok (.getfield 41, 3) := by decide +kernel
theorem dX0_build_24 : decode cX0_build 24 = .ok (.aload_n 0, 1) := by decide +kernel
theorem dX0_build_25 : decode cX0_build 25 = .ok (.getfield 36, 3) := by decide +kernel
theorem dX0_build_28 : decode cX0_build 28 = .ok (.invokevirtual 65, 3) := by decide +kernel
theorem dX0_build_31 : decode cX0_build 31 = .ok (.aload_n 0, 1) := by decide +kernel
theorem dX0_build_32 : decode cX0_build 32 = .ok (.invokevirtual 69, 3) := by decide +kernel
theorem dX0_build_35 : decode cX0_build 35 = .ok (.aload_n 0, 1) := by decide +kernel
theorem dX0_build_36 : decode cX0_build 36 = .ok (.invokevirtual 72, 3) := by decide +kernel
theorem dX0_build_39 : decode cX0_build 39 = .ok (.iconst 1, 1) := by decide +kernel
theorem dX0_build_40 : decode cX0_build 40 = .ok (.ireturn, 1) := by decide +kernel
theorem dX0_size_0 : decode cX0_size 0 = .ok (.aload_n 0, 1) := by decide +kernel
theorem dX0_size_1 : decode cX0_size 1 = .ok (.getfield 75, 3) := by decide +kernel
theorem dX0_size_4 : decode cX0_size 4 = .ok (.ireturn, 1) := by decide +kernel
theorem dX0_shape_0 : decode cX0_shape 0 = .ok (.aload_n 0, 1) := by decide +kernel
theorem dX0_shape_1 : decode cX0_shape 1 = .ok (.getfield 51, 3) := by decide +kernel
theorem dX0_shape_4 : decode cX0_shape 4 = .ok (.areturn, 1) := by decide +kernel
theorem dX0_spellReset_0 : decode cX0_spellReset 0 = .ok (.aload_n 0, 1) := by decide +kernel
theorem dX0_spellReset_1 : decode cX0_spellReset 1 = .ok (.getfield 41, 3) := by decide +kernel
theorem dX0_spellReset_4 : decode cX0_spellReset 4 = .ok (.aload_n 0, 1) := by decide +kernel
theorem dX0_spellReset_5 : decode cX0_spellReset 5 = .ok (.getfield 79, 3) := by decide +kernel
theorem dX0_spellReset_8 : decode cX0_spellReset 8 = .ok (.aload_n 1, 1) := by decide +kernel
theorem dX0_spellReset_9 : decode cX0_spellReset 9 = .ok (.invokevirtual 82, 3) := by decide +kernel
theorem dX0_spellReset_12 : decode cX0_spellReset 12 = .ok (.return_, 1) := by decide +kernel
theorem dX0_findLastComponent_0 : decode cX0_findLastComponent 0 = .ok (.aload_n 1, 1) := by decide +kernel
theorem dX0_findLastComponent_1 : decode cX0_findLastComponent 1 = .ok (.invokevirtual 86, 3) := by decide +kernel
theorem dX0_findLastComponent_4 : decode cX0_findLastComponent 4 = .ok (.istore_n 2, 1) := by decide +kernel
theorem dX0_findLastComponent_5 : decode cX0_findLastComponent 5 = .ok (.iconst 0, 1) := by decide +kernel
theorem dX0_findLastComponent_6 : decode cX0_findLastComponent 6 = .ok (.istore_n 3, 1) := by decide +kernel
theorem dX0_findLastComponent_7 : decode cX0_findLastComponent 7 = .ok (.iload_n 3, 1) := by decide +kernel
theorem dX0_findLastComponent_8 : decode cX0_findLastComponent 8 = .ok (.sipush 256, 3) := by decide +kernel
theorem dX0_findLastComponent_11 : decode cX0_findLastComponent 11 = .ok (.if_icmp .ge 29, 3) := by decide +kernel
theorem dX0_findLastComponent_14 : decode cX0_findLastComponent 14 = .ok (.iload_n 2, 1) := by decide +kernel
theorem dX0_findLastComponent_15 : decode cX0_findLastComponent 15 = .ok (.sipush 255, 3) := by decide +kernel
theorem dX0_findLastComponent_18 : decode cX0_findLastComponent 18 = .ok (.if_icmp .eq 22, 3) := by decide +kernel
theorem dX0_findLastComponent_21 : decode cX0_findLastComponent 21 = .ok (.aload_n 0, 1) := by decide +kernel
theorem dX0_findLastComponent_22 : decode cX0_findLastComponent 22 = .ok (.aload_n 1, 1) := by decide +kernel
theorem dX0_findLastComponent_23 : decode cX0_findLastComponent 23 = .ok (.iload_n 2, 1) := by decide +kernel
theorem dX0_findLastComponent_24 : decode cX0_findLastComponent 24 = .ok (.invokevirtual 90, 3) := by decide +kernel
theorem dX0_findLastComponent_27 : decode cX0_findLastComponent 27 = .ok (.aload_n 0, 1) := by decide +kernel
theorem dX0_findLastComponent_28 : decode cX0_findLastComponent 28 = .ok (.aload_n 1, 1) := by decide +kernel
theorem dX0_findLastComponent_29 : decode cX0_findLastComponent 29 = .ok (.iload_n 2, 1) := by decide +kernel
theorem dX0_findLastComponent_30 : decode cX0_findLastComponent 30 = .ok (.invokevirtual 94, 3) := by decide +kernel
theorem dX0_findLastComponent_33 : decode cX0_findLastComponent 33 = .ok (.istore_n 2, 1) := by decide +kernel
theorem dX0_findLastComponent_34 : decode cX0_findLastComponent 34 = .ok (.iinc 3 1, 3) := by decide +kernel
theorem dX0_findLastComponent_37 : decode cX0_findLastComponent 37 = .ok (.goto (-30), 3) := by decide +kernel
theorem dX0_findLastComponent_40 : decode cX0_findLastComponent 40 = .ok (.return_, 1) := by decide +kernel
theorem dX0_clearAll_0 : decode cX0_clearAll 0 = .ok (.iconst 0, 1) := by decide +kernel
theorem dX0_clearAll_1 : decode cX0_clearAll 1 = .ok (.istore_n 1, 1) := by decide +kernel
theorem dX0_clearAll_2 : decode cX0_clearAll 2 = .ok (.iload_n 1, 1) := by decide +kernel
theorem dX0_clearAll_3 : decode cX0_clearAll 3 = .ok (.aload_n 0, 1) := by decide +kernel
theorem dX0_clearAll_4 : decode cX0_clearAll 4 = .ok (.arraylength, 1) := by decide +kernel
theorem dX0_clearAll_5 : decode cX0_clearAll 5 = .ok (.if_icmp .ge 13, 3) := by decide +kernel
theorem dX0_clearAll_8 : decode cX0_clearAll 8 = .ok (.aload_n 0, 1) := by decide +kernel
theorem dX0_clearAll_9 : decode cX0_clearAll 9 = .ok (.iload_n 1, 1) := by decide +kernel
theorem dX0_clearAll_10 : decode cX0_clearAll 10 = .ok (.iconst 0, 1) := by decide +kernel
theorem dX0_clearAll_11 : decode cX0_clearAll 11 = .ok (.bastore, 1) := by decide +kernel
theorem dX0_clearAll_12 : decode cX0_clearAll 12 = .ok (.iinc 1 1, 3) := by decide +kernel
theorem dX0_clearAll_15 : decode cX0_clearAll 15 = .ok (.goto (-13), 3) := by decide +kernel
theorem dX0_clearAll_18 : decode cX0_clearAll 18 = .ok (.return_, 1) := by decide +kernel
theorem dX0_collectFrom_0 : decode cX0_collectFrom 0 = .ok (.aload_n 0, 1) := by decide +kernel
theorem dX0_collectFrom_1 : decode cX0_collectFrom 1 = .ok (.getfield 11, 3) := by decide +kernel
theorem dX0_collectFrom_4 : decode cX0_collectFrom 4 = .ok (.invokestatic 98, 3) := by decide +kernel
theorem dX0_collectFrom_7 : decode cX0_collectFrom 7 = .ok (.aload_n 0, 1) := by decide +kernel
theorem dX0_collectFrom_8 : decode cX0_collectFrom 8 = .ok (.iconst 0, 1) := by decide +kernel
theorem dX0_collectFrom_9 : decode cX0_collectFrom 9 = .ok (.putfield 102, 3) := by decide +kernel
theorem dX0_collectFrom_12 : decode cX0_collectFrom 12 = .ok (.aload_n 0, 1) := by decide +kernel
theorem dX0_collectFrom_13 : decode cX0_collectFrom 13 = .ok (.iload_n 2, 1) := by decide +kernel
theorem dX0_collectFrom_14 : decode cX0_collectFrom 14 = .ok (.invokevirtual 105, 3) := by decide +kernel
theorem dX0_collectFrom_17 : decode cX0_collectFrom 17 = .ok (.iconst 0, 1) := by decide +kernel
theorem dX0_collectFrom_18 : decode cX0_collectFrom 18 = .ok (.istore_n 3, 1) := by decide +kernel
theorem dX0_collectFrom_19 : decode cX0_collectFrom 19 = .ok (.iload_n 3, 1) := by decide +kernel
theorem dX0_collectFrom_20 : decode cX0_collectFrom 20 = .ok (.aload_n 0, 1) := by decide +kernel
theorem dX0_collectFrom_21 : decode cX0_collectFrom 21 = .ok (.getfield 102, 3) := by decide +kernel
theorem dX0_collectFrom_24 : decode cX0_collectFrom 24 = .ok (.if_icmp .ge 47, 3) := by decide +kernel
theorem dX0_collectFrom_27 : decode cX0_collectFrom 27 = .ok (.iload_n 3, 1) := by decide +kernel
theorem dX0_collectFrom_28 : decode cX0_collectFrom 28 = .ok (.sipush 255, 3) := by decide +kernel
theorem dX0_collectFrom_31 : decode cX0_collectFrom 31 = .ok (.if_icmp .ge 40, 3) := by decide +kernel
theorem dX0_collectFrom_34 : decode cX0_collectFrom 34 = .ok (.iconst 0, 1) := by decide +kernel
theorem dX0_collectFrom_35 : decode cX0_collectFrom 35 = .ok (.istore 4, 2) := by decide +kernel
theorem dX0_collectFrom_37 : decode cX0_collectFrom 37 = .ok (.iload 4, 2) := by decide +kernel
theorem dX0_collectFrom_39 : decode cX0_collectFrom 39 = .ok (.iconst 4, 1) := by decide +kernel
theorem dX0_collectFrom_40 : decode cX0_collectFrom 40 = .ok (.if_icmp .ge 25, 3) := by decide +kernel
theorem dX0_collectFrom_43 : decode cX0_collectFrom 43 = .ok (.aload_n 0, 1) := by decide +kernel
theorem dX0_collectFrom_44 : decode cX0_collectFrom 44 = .ok (.aload_n 1, 1) := by decide +kernel
theorem dX0_collectFrom_45 : decode cX0_collectFrom 45 = .ok (.aload_n 0, 1) := by decide +kernel
theorem dX0_collectFrom_46 : decode cX0_collectFrom 46 = .ok (.getfield 20, 3) := by decide +kernel
theorem dX0_collectFrom_49 : decode cX0_collectFrom 49 = .ok (.iload_n 3, 1) := by decide +kernel
theorem dX0_collectFrom_50 : decode cX0_collectFrom 50 = .ok (.iaload, 1) := by decide +kernel
theorem dX0_collectFrom_51 : decode cX0_collectFrom 51 = .ok (.iload 4, 2) := by decide +kernel
theorem dX0_collectFrom_53 : decode cX0_collectFrom 53 = .ok (.invokevirtual 109, 3) := by decide +kernel
theorem dX0_collectFrom_56 : decode cX0_collectFrom 56 = .ok (.invokevirtual 105, 3) := by decide +kernel
theorem dX0_collectFrom_59 : decode cX0_collectFrom 59 = .ok (.iinc 4 1, 3) := by decide +kernel
theorem dX0_collectFrom_62 : decode cX0_collectFrom 62 = .ok (.goto (-25), 3) := by decide +kernel
theorem dX0_collectFrom_65 : decode cX0_collectFrom 65 = .ok (.iinc 3 1, 3) := by decide +kernel
theorem dX0_collectFrom_68 : decode cX0_collectFrom 68 = .ok (.goto (-49), 3) := by decide +kernel
theorem dX0_collectFrom_71 : decode cX0_collectFrom 71 = .ok (.return_, 1) := by decide +kernel
theorem dX0_collect_0 : decode cX0_collect 0 = .ok (.iload_n 1, 1) := by decide +kernel
theorem dX0_collect_1 : decode cX0_collect 1 = .ok (.iconst 0, 1) := by decide +kernel
theorem dX0_collect_2 : decode cX0_collect 2 = .ok (.sipush 254, 3) := by decide +kernel
theorem dX0_collect_5 : decode cX0_collect 5 = .ok (.invokestatic 113, 3) := by decide +kernel
theorem dX0_collect_8 : decode cX0_collect 8 = .ok (.ifCond .eq 53, 3) := by decide +kernel
theorem dX0_collect_11 : decode cX0_collect 11 = .ok (.aload_n 0, 1) := by decide +kernel
theorem dX0_collect_12 : decode cX0_collect 12 = .ok (.getfield 11, 3) := by decide +kernel
theorem dX0_collect_15 : decode cX0_collect 15 = .ok (.iload_n 1, 1) := by decide +kernel
theorem dX0_collect_16 : decode cX0_collect 16 = .ok (.baload, 1) := by decide +kernel
theorem dX0_collect_17 : decode cX0_collect 17 = .ok (.ifCond .ne 44, 3) := by decide +kernel
theorem dX0_collect_20 : decode cX0_collect 20 = .ok (.aload_n 0, 1) := by decide +kernel
theorem dX0_collect_21 : decode cX0_collect 21 = .ok (.getfield 102, 3) := by decide +kernel
theorem dX0_collect_24 : decode cX0_collect 24 = .ok (.iconst 0, 1) := by decide +kernel
theorem dX0_collect_25 : decode cX0_collect 25 = .ok (.sipush 254, 3) := by decide +kernel
theorem dX0_collect_28 : decode cX0_collect 28 = .ok (.invokestatic 113, 3) := by decide +kernel
theorem dX0_collect_31 : decode cX0_collect 31 = .ok (.ifCond .eq 30, 3) := by decide +kernel
theorem dX0_collect_34 : decode cX0_collect 34 = .ok (.aload_n 0, 1) := by decide +kernel
theorem dX0_collect_35 : decode cX0_collect 35 = .ok (.getfield 11, 3) := by decide +kernel
theorem dX0_collect_38 : decode cX0_collect 38 = .ok (.iload_n 1, 1) := by decide +kernel
theorem dX0_collect_39 : decode cX0_collect 39 = .ok (.iconst 1, 1) := by decide +kernel
theorem dX0_collect_40 : decode cX0_collect 40 = .ok (.bastore, 1) := by decide +kernel
theorem dX0_collect_41 : decode cX0_collect 41 = .ok (.aload_n 0, 1) := by decide +kernel
theorem dX0_collect_42 : decode cX0_collect 42 = .ok (.getfield 20, 3) := by decide +kernel
theorem dX0_collect_45 : decode cX0_collect 45 = .ok (.aload_n 0, 1) := by decide +kernel
theorem dX0_collect_46 : decode cX0_collect 46 = .ok (.getfield 102, 3) := by decide +kernel
theorem dX0_collect_49 : decode cX0_collect 49 = .ok (.iload_n 1, 1) := by decide +kernel
theorem dX0_collect_50 : decode cX0_collect 50 = .ok (.iastore, 1) := by decide +kernel
theorem dX0_collect_51 : decode cX0_collect 51 = .ok (.aload_n 0, 1) := by decide +kernel
theorem dX0_collect_52 : decode cX0_collect 52 = .ok (.dup, 1) := by decide +kernel
theorem dX0_collect_53 : decode cX0_collect 53 = .ok (.getfield 102, 3) := by decide +kernel
theorem dX0_collect_56 : decode cX0_collect 56 = .ok (.iconst 1, 1) := by decide +kernel
theorem dX0_collect_57 : decode cX0_collect 57 = .ok (.iadd, 1) := by decide +kernel
theorem dX0_collect_58 : decode cX0_collect 58 = .ok (.putfield 102, 3) := by decide +kernel
theorem dX0_collect_61 : decode cX0_collect 61 = .ok (.return_, 1) := by decide +kernel
theorem dX0_memberWithoutWayTo_0 : decode cX0_memberWithoutWayTo 0 = .ok (.aload_n 0, 1) := by decide +kernel
theorem dX0_memberWithoutWayTo_1 : decode cX0_memberWithoutWayTo 1 = .ok (.getfield 17, 3) := by decide +kernel
theorem dX0_memberWithoutWayTo_4 : decode cX0_memberWithoutWayTo 4 = .ok (.invokestatic 98, 3) := by decide +kernel
theorem dX0_memberWithoutWayTo_7 : decode cX0_memberWithoutWayTo 7 = .ok (.iload_n 2, 1) := by decide +kernel
theorem dX0_memberWithoutWayTo_8 : decode cX0_memberWithoutWayTo 8 = .ok (.iconst 0, 1) := by decide +kernel
theorem dX0_memberWithoutWayTo_9 : decode cX0_memberWithoutWayTo 9 = .ok (.sipush 254, 3) := by decide +kernel
theorem dX0_memberWithoutWayTo_12 : decode cX0_memberWithoutWayTo 12 = .ok (.invokestatic 113, 3) := by decide +kernel
theorem dX0_memberWithoutWayTo_15 : decode cX0_memberWithoutWayTo 15 = .ok (.ifCond .eq 10, 3) := by decide +kernel
theorem dX0_memberWithoutWayTo_18 : decode cX0_memberWithoutWayTo 18 = .ok (.aload_n 0, 1) := by decide +kernel
theorem dX0_memberWithoutWayTo_19 : decode cX0_memberWithoutWayTo 19 = .ok (.getfield 17, 3) := by decide +kernel
theorem dX0_memberWithoutWayTo_22 : decode cX0_memberWithoutWayTo 22 = .ok (.iload_n 2, 1) := by decide +kernel
theorem dX0_memberWithoutWayTo_23 : decode cX0_memberWithoutWayTo 23 = .ok (.iconst 1, 1) := by decide +kernel
theorem dX0_memberWithoutWayTo_24 : decode cX0_memberWithoutWayTo 24 = .ok (.bastore, 1) := by decide +kernel
theorem dX0_memberWithoutWayTo_25 : decode cX0_memberWithoutWayTo 25 = .ok (.iconst 1, 1) := by decide +kernel
theorem dX0_memberWithoutWayTo_26 : decode cX0_memberWithoutWayTo 26 = .ok (.istore_n 3, 1) := by decide +kernel
theorem dX0_memberWithoutWayTo_27 : decode cX0_memberWithoutWayTo 27 = .ok (.iconst 0, 1) := by decide +kernel
theorem dX0_memberWithoutWayTo_28 : decode cX0_memberWithoutWayTo 28 = .ok (.istore 4, 2) := by decide +kernel
theorem dX0_memberWithoutWayTo_30 : decode cX0_memberWithoutWayTo 30 = .ok (.iload 4, 2) := by decide +kernel
theorem dX0_memberWithoutWayTo_32 : decode cX0_memberWithoutWayTo 32 = .ok (.sipush 256, 3) := by decide +kernel
theorem dX0_memberWithoutWayTo_35 : decode cX0_memberWithoutWayTo 35 = .ok (.if_icmp .ge 19, 3) := by decide +kernel
theorem dX0_memberWithoutWayTo_38 : decode cX0_memberWithoutWayTo 38 = .ok (.iload_n 3, 1) := by decide +kernel
theorem dX0_memberWithoutWayTo_39 : decode cX0_memberWithoutWayTo 39 = .ok (.ifCond .eq 15, 3) := by decide +kernel
theorem dX0_memberWithoutWayTo_42 : decode cX0_memberWithoutWayTo 42 = .ok (.aload_n 0, 1) := by decide +kernel
theorem dX0_memberWithoutWayTo_43 : decode cX0_memberWithoutWayTo 43 = .ok (.aload_n 1, 1) := by decide +kernel
theorem dX0_memberWithoutWayTo_44 : decode cX0_memberWithoutWayTo 44 = .ok (.invokevirtual 117, 3) := by decide +kernel
theorem dX0_memberWithoutWayTo_47 : decode cX0_memberWithoutWayTo 47 = .ok (.istore_n 3, 1) := by decide +kernel
theorem dX0_memberWithoutWayTo_48 : decode cX0_memberWithoutWayTo 48 = .ok (.iinc 4 1, 3) := by decide +kernel
theorem dX0_memberWithoutWayTo_51 : decode cX0_memberWithoutWayTo 51 = .ok (.goto (-21), 3) := by decide +kernel
theorem dX0_memberWithoutWayTo_54 : decode cX0_memberWithoutWayTo 54 = .ok (.sipush 254, 3) := by decide +kernel
theorem dX0_memberWithoutWayTo_57 : decode cX0_memberWithoutWayTo 57 = .ok (.istore 4, 2) := by decide +kernel
theorem dX0_memberWithoutWayTo_59 : decode cX0_memberWithoutWayTo 59 = .ok (.iload 4, 2) := by decide +kernel
theorem dX0_memberWithoutWayTo_61 : decode cX0_memberWithoutWayTo 61 = .ok (.ifCond .lt 32, 3) := by decide +kernel
theorem dX0_memberWithoutWayTo_64 : decode cX0_memberWithoutWayTo 64 = .ok (.aload_n 0, 1) := by decide +kernel
theorem dX0_memberWithoutWayTo_65 : decode cX0_memberWithoutWayTo 65 = .ok (.getfield 11, 3) := by decide +kernel
theorem dX0_memberWithoutWayTo_68 : decode cX0_memberWithoutWayTo 68 = .ok (.iload 4, 2) := by decide +kernel
theorem dX0_memberWithoutWayTo_70 : decode cX0_memberWithoutWayTo 70 = .ok (.baload, 1) := by decide +kernel
theorem dX0_memberWithoutWayTo_71 : decode cX0_memberWithoutWayTo 71 = .ok (.ifCond .eq 16, 3) := by decide +kernel
theorem dX0_memberWithoutWayTo_74 : decode cX0_memberWithoutWayTo 74 = .ok (.aload_n 0, 1) := by decide +kernel
theorem dX0_memberWithoutWayTo_75 : decode cX0_memberWithoutWayTo 75 = .ok (.getfield 17, 3) := by decide +kernel
theorem dX0_memberWithoutWayTo_78 : decode cX0_memberWithoutWayTo 78 = .ok (.iload 4, 2) := by decide +kernel
theorem dX0_memberWithoutWayTo_80 : decode cX0_memberWithoutWayTo 80 = .ok (.baload, 1) := by decide +kernel
theorem dX0_memberWithoutWayTo_81 : decode cX0_memberWithoutWayTo 81 = .ok (.ifCond .ne 6, 3) := by decide +kernel
theorem dX0_memberWithoutWayTo_84 : decode cX0_memberWithoutWayTo 84 = .ok (.iload 4, 2) := by decide +kernel
theorem dX0_memberWithoutWayTo_86 : decode cX0_memberWithoutWayTo 86 = .ok (.ireturn, 1) := by decide +kernel
theorem dX0_memberWithoutWayTo_87 : decode cX0_memberWithoutWayTo 87 = .ok (.iinc 4 (-1), 3) := by decide +kernel
theorem dX0_memberWithoutWayTo_90 : decode cX0_memberWithoutWayTo 90 = .ok (.goto (-31), 3) := by decide +kernel
theorem dX0_memberWithoutWayTo_93 : decode cX0_memberWithoutWayTo 93 = .ok (.sipush 255, 3) := by decide +kernel
theorem dX0_memberWithoutWayTo_96 : decode cX0_memberWithoutWayTo 96 = .ok (.ireturn, 1) := by decide +kernel
theorem dX0_markMembersBeforeMarked_0 : decode cX0_markMembersBeforeMarked 0 = .ok (.iconst 0, 1) := by decide +kernel
theorem dX0_markMembersBeforeMarked_1 : decode cX0_markMembersBeforeMarked 1 = .ok (.istore_n 2, 1) := by decide +kernel
theorem dX0_markMembersBeforeMarked_2 : decode cX0_markMembersBeforeMarked 2 = .ok (.aload_n 1, 1) := by decide +kernel
theorem dX0_markMembersBeforeMarked_3 : decode cX0_markMembersBeforeMarked 3 = .ok (.invokevirtual 120, 3) := by decide +kernel
theorem dX0_markMembersBeforeMarked_6 : decode cX0_markMembersBeforeMarked 6 = .ok (.sipush 255, 3) := by decide +kernel
theorem dX0_markMembersBeforeMarked_9 : decode cX0_markMembersBeforeMarked 9 = .ok (.invokestatic 122, 3) := by decide +kernel
theorem dX0_markMembersBeforeMarked_12 : decode cX0_markMembersBeforeMarked 12 = .ok (.iconst 1, 1) := by decide +kernel
theorem dX0_markMembersBeforeMarked_13 : decode cX0_markMembersBeforeMarked 13 = .ok (.isub, 1) := by decide +kernel
theorem dX0_markMembersBeforeMarked_14 : decode cX0_markMembersBeforeMarked 14 = .ok (.istore_n 3, 1) := by decide +kernel
theorem dX0_markMembersBeforeMarked_15 : decode cX0_markMembersBeforeMarked 15 = .ok (.iload_n 3, 1) := by decide +kernel
theorem dX0_markMembersBeforeMarked_16 : decode cX0_markMembersBeforeMarked 16 = .ok (.ifCond .lt 83, 3) := by decide +kernel
theorem dX0_markMembersBeforeMarked_19 : decode cX0_markMembersBeforeMarked 19 = .ok (.iconst 0, 1) := by decide +kernel
theorem dX0_markMembersBeforeMarked_20 : decode cX0_markMembersBeforeMarked 20 = .ok (.istore 4, 2) := by decide +kernel
theorem dX0_markMembersBeforeMarked_22 : decode cX0_markMembersBeforeMarked 22 = .ok (.iload 4, 2) := by decide +kernel
theorem dX0_markMembersBeforeMarked_24 : decode cX0_markMembersBeforeMarked 24 = .ok (.iconst 4, 1) := by decide +kernel
theorem dX0_markMembersBeforeMarked_25 : decode cX0_markMembersBeforeMarked 25 = .ok (.if_icmp .ge 68, 3) := by decide +kernel
theorem dX0_markMembersBeforeMarked_28 : decode cX0_markMembersBeforeMarked 28 = .ok (.aload_n 0, 1) := by decide +kernel
theorem dX0_markMembersBeforeMarked_29 : decode cX0_markMembersBeforeMarked 29 = .ok (.getfield 11, 3) := by decide +kernel
theorem dX0_markMembersBeforeMarked_32 : decode cX0_markMembersBeforeMarked 32 = .ok (.iload_n 3, 1) := by decide +kernel
theorem dX0_markMembersBeforeMarked_33 : decode cX0_markMembersBeforeMarked 33 = .ok (.baload, 1) := by decide +kernel
theorem dX0_markMembersBeforeMarked_34 : decode cX0_markMembersBeforeMarked 34 = .ok (.ifCond .eq 59, 3) := by decide +kernel
theorem dX0_markMembersBeforeMarked_37 : decode cX0_markMembersBeforeMarked 37 = .ok (.aload_n 0, 1) := by decide +kernel
theorem dX0_markMembersBeforeMarked_38 : decode cX0_markMembersBeforeMarked 38 = .ok (.getfield 17, 3) := by decide +kernel
theorem dX0_markMembersBeforeMarked_41 : decode cX0_markMembersBeforeMarked 41 = .ok (.iload_n 3, 1) := by decide +kernel
theorem dX0_markMembersBeforeMarked_42 : decode cX0_markMembersBeforeMarked 42 = .ok (.baload, 1) := by decide +kernel
theorem dX0_markMembersBeforeMarked_43 : decode cX0_markMembersBeforeMarked 43 = .ok (.ifCond .ne 50, 3) := by decide +kernel
theorem dX0_markMembersBeforeMarked_46 : decode cX0_markMembersBeforeMarked 46 = .ok (.aload_n 1, 1) := by decide +kernel
theorem dX0_markMembersBeforeMarked_47 : decode cX0_markMembersBeforeMarked 47 = .ok (.iload_n 3, 1) := by decide +kernel
theorem dX0_markMembersBeforeMarked_48 : decode cX0_markMembersBeforeMarked 48 = .ok (.iload 4, 2) := by decide +kernel
theorem dX0_markMembersBeforeMarked_50 : decode cX0_markMembersBeforeMarked 50 = .ok (.invokevirtual 109, 3) := by decide +kernel
theorem dX0_markMembersBeforeMarked_53 : decode cX0_markMembersBeforeMarked 53 = .ok (.istore 5, 2) := by decide +kernel
theorem dX0_markMembersBeforeMarked_55 : decode cX0_markMembersBeforeMarked 55 = .ok (.iload 5, 2) := by decide +kernel
theorem dX0_markMembersBeforeMarked_57 : decode cX0_markMembersBeforeMarked 57 = .ok (.ifCond .lt 30, 3) := by decide +kernel
theorem dX0_markMembersBeforeMarked_60 : decode cX0_markMembersBeforeMarked 60 = .ok (.iload 5, 2) := by decide +kernel
theorem dX0_markMembersBeforeMarked_62 : decode cX0_markMembersBeforeMarked 62 = .ok (.sipush 255, 3) := by decide +kernel
theorem dX0_markMembersBeforeMarked_65 : decode cX0_markMembersBeforeMarked 65 = .ok (.if_icmp .ge 22, 3) := by decide +kernel
theorem dX0_markMembersBeforeMarked_68 : decode cX0_markMembersBeforeMarked 68 = .ok (.aload_n 0, 1) := by decide +kernel
theorem dX0_markMembersBeforeMarked_69 : decode cX0_markMembersBeforeMarked 69 = .ok (.getfield 17, 3) := by decide +kernel
theorem dX0_markMembersBeforeMarked_72 : decode cX0_markMembersBeforeMarked 72 = .ok (.iload 5, 2) := by decide +kernel
theorem dX0_markMembersBeforeMarked_74 : decode cX0_markMembersBeforeMarked 74 = .ok (.baload, 1) := by decide +kernel
theorem dX0_markMembersBeforeMarked_75 : decode cX0_markMembersBeforeMarked 75 = .ok (.ifCond .eq 12, 3) := by decide +kernel
theorem dX0_markMembersBeforeMarked_78 : decode cX0_markMembersBeforeMarked 78 = .ok (.aload_n 0, 1) := by decide +kernel
theorem dX0_markMembersBeforeMarked_79 : decode cX0_markMembersBeforeMarked 79 = .ok (.getfield 17, 3) := by decide +kernel
theorem dX0_markMembersBeforeMarked_82 : decode cX0_markMembersBeforeMarked 82 = .ok (.iload_n 3, 1) := by decide +kernel
theorem dX0_markMembersBeforeMarked_83 : decode cX0_markMembersBeforeMarked 83 = .ok (.iconst 1, 1) := by decide +kernel
theorem dX0_markMembersBeforeMarked_84 : decode cX0_markMembersBeforeMarked 84 = .ok (.bastore, 1) := by decide +kernel
theorem dX0_markMembersBeforeMarked_85 : decode cX0_markMembersBeforeMarked 85 = .ok (.iconst 1, 1) := by decide +kernel
theorem dX0_markMembersBeforeMarked_86 : decode cX0_markMembersBeforeMarked 86 = .ok (.istore_n 2, 1) := by decide +kernel
theorem dX0_markMembersBeforeMarked_87 : decode cX0_markMembersBeforeMarked 87 = .ok (.iinc 4 1, 3) := by decide +kernel
theorem dX0_markMembersBeforeMarked_90 : decode cX0_markMembersBeforeMarked 90 = .ok (.goto (-68), 3) := by decide +kernel
theorem dX0_markMembersBeforeMarked_93 : decode cX0_markMembersBeforeMarked 93 = .ok (.iinc 3 (-1), 3) := by decide +kernel
theorem dX0_markMembersBeforeMarked_96 : decode cX0_markMembersBeforeMarked 96 = .ok (.goto (-81), 3) := by decide +kernel
theorem dX0_markMembersBeforeMarked_99 : decode cX0_markMembersBeforeMarked 99 = .ok (.iload_n 2, 1) := by decide +kernel
theorem dX0_markMembersBeforeMarked_100 : decode cX0_markMembersBeforeMarked 100 = .ok (.ireturn, 1) := by decide +kernel
theorem dX0_mergeMembers_0 : decode cX0_mergeMembers 0 = .ok (.iconst 0, 1) := by decide +kernel
theorem dX0_mergeMembers_1 : decode cX0_mergeMembers 1 = .ok (.istore_n 2, 1) := by decide +kernel
theorem dX0_mergeMembers_2 : decode cX0_mergeMembers 2 = .ok (.iload_n 2, 1) := by decide +kernel
theorem dX0_mergeMembers_3 : decode cX0_mergeMembers 3 = .ok (.sipush 256, 3) := by decide +kernel
theorem dX0_mergeMembers_6 : decode cX0_mergeMembers 6 = .ok (.if_icmp .ge 29, 3) := by decide +kernel
theorem dX0_mergeMembers_9 : decode cX0_mergeMembers 9 = .ok (.aload_n 0, 1) := by decide +kernel
theorem dX0_mergeMembers_10 : decode cX0_mergeMembers 10 = .ok (.getfield 24, 3) := by decide +kernel
theorem dX0_mergeMembers_13 : decode cX0_mergeMembers 13 = .ok (.iload_n 2, 1) := by decide +kernel
theorem dX0_mergeMembers_14 : decode cX0_mergeMembers 14 = .ok (.aload_n 0, 1) := by decide +kernel
theorem dX0_mergeMembers_15 : decode cX0_mergeMembers 15 = .ok (.getfield 11, 3) := by decide +kernel
theorem dX0_mergeMembers_18 : decode cX0_mergeMembers 18 = .ok (.iload_n 2, 1) := by decide +kernel
theorem dX0_mergeMembers_19 : decode cX0_mergeMembers 19 = .ok (.baload, 1) := by decide +kernel
theorem dX0_mergeMembers_20 : decode cX0_mergeMembers 20 = .ok (.ifCond .eq 7, 3) := by decide +kernel
theorem dX0_mergeMembers_23 : decode cX0_mergeMembers 23 = .ok (.iconst 0, 1) := by decide +kernel
theorem dX0_mergeMembers_24 : decode cX0_mergeMembers 24 = .ok (.goto 4, 3) := by decide +kernel
theorem dX0_mergeMembers_27 : decode cX0_mergeMembers 27 = .ok (.iconst (-1), 1) := by decide +kernel
theorem dX0_mergeMembers_28 : decode cX0_mergeMembers 28 = .ok (.iastore, 1) := by decide +kernel
theorem dX0_mergeMembers_29 : decode cX0_mergeMembers 29 = .ok (.iinc 2 1, 3) := by decide +kernel
theorem dX0_mergeMembers_32 : decode cX0_mergeMembers 32 = .ok (.goto (-30), 3) := by decide +kernel
theorem dX0_mergeMembers_35 : decode cX0_mergeMembers 35 = .ok (.aload_n 0, 1) := by decide +kernel
theorem dX0_mergeMembers_36 : decode cX0_mergeMembers 36 = .ok (.iconst 1, 1) := by decide +kernel
theorem dX0_mergeMembers_37 : decode cX0_mergeMembers 37 = .ok (.putfield 75, 3) := by decide +kernel
theorem dX0_mergeMembers_40 : decode cX0_mergeMembers 40 = .ok (.iconst 0, 1) := by decide +kernel
theorem dX0_mergeMembers_41 : decode cX0_mergeMembers 41 = .ok (.istore_n 2, 1) := by decide +kernel
theorem dX0_mergeMembers_42 : decode cX0_mergeMembers 42 = .ok (.iload_n 2, 1) := by decide +kernel
theorem dX0_mergeMembers_43 : decode cX0_mergeMembers 43 = .ok (.bipush 8, 2) := by decide +kernel
theorem dX0_mergeMembers_45 : decode cX0_mergeMembers 45 = .ok (.if_icmp .gt 38, 3) := by decide +kernel
theorem dX0_mergeMembers_48 : decode cX0_mergeMembers 48 = .ok (.aload_n 0, 1) := by decide +kernel
theorem dX0_mergeMembers_49 : decode cX0_mergeMembers 49 = .ok (.aload_n 1, 1) := by decide +kernel
theorem dX0_mergeMembers_50 : decode cX0_mergeMembers 50 = .ok (.invokevirtual 127, 3) := by decide +kernel
theorem dX0_mergeMembers_53 : decode cX0_mergeMembers 53 = .ok (.istore_n 3, 1) := by decide +kernel
theorem dX0_mergeMembers_54 : decode cX0_mergeMembers 54 = .ok (.iload_n 3, 1) := by decide +kernel
theorem dX0_mergeMembers_55 : decode cX0_mergeMembers 55 = .ok (.bipush 8, 2) := by decide +kernel
theorem dX0_mergeMembers_57 : decode cX0_mergeMembers 57 = .ok (.if_icmp .le 5, 3) := by decide +kernel
theorem dX0_mergeMembers_60 : decode cX0_mergeMembers 60 = .ok (.iconst 0, 1) := by decide +kernel
theorem dX0_mergeMembers_61 : decode cX0_mergeMembers 61 = .ok (.ireturn, 1) := by decide +kernel
theorem dX0_mergeMembers_62 : decode cX0_mergeMembers 62 = .ok (.iload_n 3, 1) := by decide +kernel
theorem dX0_mergeMembers_63 : decode cX0_mergeMembers 63 = .ok (.aload_n 0, 1) := by decide +kernel
theorem dX0_mergeMembers_64 : decode cX0_mergeMembers 64 = .ok (.getfield 75, 3) := by decide +kernel
theorem dX0_mergeMembers_67 : decode cX0_mergeMembers 67 = .ok (.if_icmp .ne 5, 3) := by decide +kernel
theorem dX0_mergeMembers_70 : decode cX0_mergeMembers 70 = .ok (.iconst 1, 1) := by decide +kernel
theorem dX0_mergeMembers_71 : decode cX0_mergeMembers 71 = .ok (.ireturn, 1) := by decide +kernel
theorem dX0_mergeMembers_72 : decode cX0_mergeMembers 72 = .ok (.aload_n 0, 1) := by decide +kernel
theorem dX0_mergeMembers_73 : decode cX0_mergeMembers 73 = .ok (.iload_n 3, 1) := by decide +kernel
theorem dX0_mergeMembers_74 : decode cX0_mergeMembers 74 = .ok (.putfield 75, 3) := by decide +kernel
theorem dX0_mergeMembers_77 : decode cX0_mergeMembers 77 = .ok (.iinc 2 1, 3) := by decide +kernel
theorem dX0_mergeMembers_80 : decode cX0_mergeMembers 80 = .ok (.goto (-38), 3) := by decide +kernel
theorem dX0_mergeMembers_83 : decode cX0_mergeMembers 83 = .ok (.iconst 0, 1) := by decide +kernel
theorem dX0_mergeMembers_84 : decode cX0_mergeMembers 84 = .ok (.ireturn, 1) := by decide +kernel
theorem dX0_splitClasses_0 : decode cX0_splitClasses 0 = .ok (.iconst 0, 1) := by decide +kernel
theorem dX0_splitClasses_1 : decode cX0_splitClasses 1 = .ok (.istore_n 2, 1) := by decide +kernel
theorem dX0_splitClasses_2 : decode cX0_splitClasses 2 = .ok (.iconst 0, 1) := by decide +kernel
theorem dX0_splitClasses_3 : decode cX0_splitClasses 3 = .ok (.istore_n 3, 1) := by decide +kernel
theorem dX0_splitClasses_4 : decode cX0_splitClasses 4 = .ok (.iload_n 3, 1) := by decide +kernel
theorem dX0_splitClasses_5 : decode cX0_splitClasses 5 = .ok (.sipush 255, 3) := by decide +kernel
theorem dX0_splitClasses_8 : decode cX0_splitClasses 8 = .ok (.if_icmp .ge 98, 3) := by decide +kernel
theorem dX0_splitClasses_11 : decode cX0_splitClasses 11 = .ok (.aload_n 0, 1) := by decide +kernel
theorem dX0_splitClasses_12 : decode cX0_splitClasses 12 = .ok (.getfield 27, 3) := by decide +kernel
theorem dX0_splitClasses_15 : decode cX0_splitClasses 15 = .ok (.iload_n 3, 1) := by decide +kernel
theorem dX0_splitClasses_16 : decode cX0_splitClasses 16 = .ok (.iconst (-1), 1) := by decide +kernel
theorem dX0_splitClasses_17 : decode cX0_splitClasses 17 = .ok (.iastore, 1) := by decide +kernel
theorem dX0_splitClasses_18 : decode cX0_splitClasses 18 = .ok (.aload_n 0, 1) := by decide +kernel
theorem dX0_splitClasses_19 : decode cX0_splitClasses 19 = .ok (.getfield 11, 3) := by decide +kernel
theorem dX0_splitClasses_22 : decode cX0_splitClasses 22 = .ok (.iload_n 3, 1) := by decide +kernel
theorem dX0_splitClasses_23 : decode cX0_splitClasses 23 = .ok (.baload, 1) := by decide +kernel
theorem dX0_splitClasses_24 : decode cX0_splitClasses 24 = .ok (.ifCond .eq 76, 3) := by decide +kernel
theorem dX0_splitClasses_27 : decode cX0_splitClasses 27 = .ok (.iconst 0, 1) := by decide +kernel
theorem dX0_splitClasses_28 : decode cX0_splitClasses 28 = .ok (.istore 4, 2) := by decide +kernel
theorem dX0_splitClasses_30 : decode cX0_splitClasses 30 = .ok (.iload 4, 2) := by decide +kernel
theorem dX0_splitClasses_32 : decode cX0_splitClasses 32 = .ok (.iload_n 2, 1) := by decide +kernel
theorem dX0_splitClasses_33 : decode cX0_splitClasses 33 = .ok (.if_icmp .ge 32, 3) := by decide +kernel
theorem dX0_splitClasses_36 : decode cX0_splitClasses 36 = .ok (.iload 4, 2) := by decide +kernel
theorem dX0_splitClasses_38 : decode cX0_splitClasses 38 = .ok (.bipush 8, 2) := by decide +kernel
theorem dX0_splitClasses_40 : decode cX0_splitClasses 40 = .ok (.if_icmp .ge 25, 3) := by decide +kernel
theorem dX0_splitClasses_43 : decode cX0_splitClasses 43 = .ok (.aload_n 0, 1) := by decide +kernel
theorem dX0_splitClasses_44 : decode cX0_splitClasses 44 = .ok (.aload_n 1, 1) := by decide +kernel
theorem dX0_splitClasses_45 : decode cX0_splitClasses 45 = .ok (.iload_n 3, 1) := by decide +kernel
theorem dX0_splitClasses_46 : decode cX0_splitClasses 46 = .ok (.aload_n 0, 1) := by decide +kernel
theorem dX0_splitClasses_47 : decode cX0_splitClasses 47 = .ok (.getfield 30, 3) := by decide +kernel
theorem dX0_splitClasses_50 : decode cX0_splitClasses 50 = .ok (.iload 4, 2) := by decide +kernel
theorem dX0_splitClasses_52 : decode cX0_splitClasses 52 = .ok (.iaload, 1) := by decide +kernel
theorem dX0_splitClasses_53 : decode cX0_splitClasses 53 = .ok (.invokevirtual 131, 3) := by decide +kernel
theorem dX0_splitClasses_56 : decode cX0_splitClasses 56 = .ok (.ifCond .ne 9, 3) := by decide +kernel
theorem dX0_splitClasses_59 : decode cX0_splitClasses 59 = .ok (.iinc 4 1, 3) := by decide +kernel
theorem dX0_splitClasses_62 : decode cX0_splitClasses 62 = .ok (.goto (-32), 3) := by decide +kernel
theorem dX0_splitClasses_65 : decode cX0_splitClasses 65 = .ok (.iload 4, 2) := by decide +kernel
theorem dX0_splitClasses_67 : decode cX0_splitClasses 67 = .ok (.bipush 8, 2) := by decide +kernel
theorem dX0_splitClasses_69 : decode cX0_splitClasses 69 = .ok (.if_icmp .lt 6, 3) := by decide +kernel
theorem dX0_splitClasses_72 : decode cX0_splitClasses 72 = .ok (.bipush 9, 2) := by decide +kernel
theorem dX0_splitClasses_74 : decode cX0_splitClasses 74 = .ok (.ireturn, 1) := by decide +kernel
theorem dX0_splitClasses_75 : decode cX0_splitClasses 75 = .ok (.iload 4, 2) := by decide +kernel
theorem dX0_splitClasses_77 : decode cX0_splitClasses 77 = .ok (.iload_n 2, 1) := by decide +kernel
theorem dX0_splitClasses_78 : decode cX0_splitClasses 78 = .ok (.if_icmp .ne 14, 3) := by decide +kernel
theorem dX0_splitClasses_81 : decode cX0_splitClasses 81 = .ok (.aload_n 0, 1) := by decide +kernel
theorem dX0_splitClasses_82 : decode cX0_splitClasses 82 = .ok (.getfield 30, 3) := by decide +kernel
theorem dX0_splitClasses_85 : decode cX0_splitClasses 85 = .ok (.iload 4, 2) := by decide +kernel
theorem dX0_splitClasses_87 : decode cX0_splitClasses 87 = .ok (.iload_n 3, 1) := by decide +kernel
theorem dX0_splitClasses_88 : decode cX0_splitClasses 88 = .ok (.iastore, 1) := by decide +kernel
theorem dX0_splitClasses_89 : decode cX0_splitClasses 89 = .ok (.iinc 2 1, 3) := by decide +kernel
theorem dX0_splitClasses_92 : decode cX0_splitClasses 92 = .ok (.aload_n 0, 1) := by decide +kernel
theorem dX0_splitClasses_93 : decode cX0_splitClasses 93 = .ok (.getfield 27, 3) := by decide +kernel
theorem dX0_splitClasses_96 : decode cX0_splitClasses 96 = .ok (.iload_n 3, 1) := by decide +kernel
theorem dX0_splitClasses_97 : decode cX0_splitClasses 97 = .ok (.iload 4, 2) := by decide +kernel
theorem dX0_splitClasses_99 : decode cX0_splitClasses 99 = .ok (.iastore, 1) := by decide +kernel
theorem dX0_splitClasses_100 : decode cX0_splitClasses 100 = .ok (.iinc 3 1, 3) := by decide +kernel
theorem dX0_splitClasses_103 : decode cX0_splitClasses 103 = .ok (.goto (-99), 3) := by decide +kernel
theorem dX0_splitClasses_106 : decode cX0_splitClasses 106 = .ok (.aload_n 0, 1) := by decide +kernel
theorem dX0_splitClasses_107 : decode cX0_splitClasses 107 = .ok (.getfield 27, 3) := by decide +kernel
theorem dX0_splitClasses_110 : decode cX0_splitClasses 110 = .ok (.iconst 0, 1) := by decide +kernel
theorem dX0_splitClasses_111 : decode cX0_splitClasses 111 = .ok (.aload_n 0, 1) := by decide +kernel
theorem dX0_splitClasses_112 : decode cX0_splitClasses 112 = .ok (.getfield 24, 3) := by decide +kernel
theorem dX0_splitClasses_115 : decode cX0_splitClasses 115 = .ok (.iconst 0, 1) := by decide +kernel
theorem dX0_splitClasses_116 : decode cX0_splitClasses 116 = .ok (.sipush 255, 3) := by decide +kernel
theorem dX0_splitClasses_119 : decode cX0_splitClasses 119 = .ok (.invokestatic 135, 3) := by decide +kernel
theorem dX0_splitClasses_122 : decode cX0_splitClasses 122 = .ok (.iload_n 2, 1) := by decide +kernel
theorem dX0_splitClasses_123 : decode cX0_splitClasses 123 = .ok (.ireturn, 1) := by decide +kernel
theorem dX0_leadAlike_0 : decode cX0_leadAlike 0 = .ok (.aload_n 0, 1) := by decide +kernel
theorem dX0_leadAlike_1 : decode cX0_leadAlike 1 = .ok (.iload_n 2, 1) := by decide +kernel
theorem dX0_leadAlike_2 : decode cX0_leadAlike 2 = .ok (.invokevirtual 141, 3) := by decide +kernel
theorem dX0_leadAlike_5 : decode cX0_leadAlike 5 = .ok (.aload_n 0, 1) := by decide +kernel
theorem dX0_leadAlike_6 : decode cX0_leadAlike 6 = .ok (.iload_n 3, 1) := by decide +kernel
theorem dX0_leadAlike_7 : decode cX0_leadAlike 7 = .ok (.invokevirtual 141, 3) := by decide +kernel
theorem dX0_leadAlike_10 : decode cX0_leadAlike 10 = .ok (.if_icmp .ne 7, 3) := by decide +kernel
theorem dX0_leadAlike_13 : decode cX0_leadAlike 13 = .ok (.iconst 1, 1) := by decide +kernel
theorem dX0_leadAlike_14 : decode cX0_leadAlike 14 = .ok (.goto 4, 3) := by decide +kernel
theorem dX0_leadAlike_17 : decode cX0_leadAlike 17 = .ok (.iconst 0, 1) := by decide +kernel
theorem dX0_leadAlike_18 : decode cX0_leadAlike 18 = .ok (.istore 4, 2) := by decide +kernel
theorem dX0_leadAlike_20 : decode cX0_leadAlike 20 = .ok (.iconst 0, 1) := by decide +kernel
theorem dX0_leadAlike_21 : decode cX0_leadAlike 21 = .ok (.istore 5, 2) := by decide +kernel
theorem dX0_leadAlike_23 : decode cX0_leadAlike 23 = .ok (.iload 5, 2) := by decide +kernel
theorem dX0_leadAlike_25 : decode cX0_leadAlike 25 = .ok (.iconst 4, 1) := by decide +kernel
theorem dX0_leadAlike_26 : decode cX0_leadAlike 26 = .ok (.if_icmp .ge 46, 3) := by decide +kernel
theorem dX0_leadAlike_29 : decode cX0_leadAlike 29 = .ok (.iload 4, 2) := by decide +kernel
theorem dX0_leadAlike_31 : decode cX0_leadAlike 31 = .ok (.ifCond .eq 41, 3) := by decide +kernel
theorem dX0_leadAlike_34 : decode cX0_leadAlike 34 = .ok (.aload_n 0, 1) := by decide +kernel
theorem dX0_leadAlike_35 : decode cX0_leadAlike 35 = .ok (.aload_n 1, 1) := by decide +kernel
theorem dX0_leadAlike_36 : decode cX0_leadAlike 36 = .ok (.iload_n 2, 1) := by decide +kernel
theorem dX0_leadAlike_37 : decode cX0_leadAlike 37 = .ok (.iload 5, 2) := by decide +kernel
theorem dX0_leadAlike_39 : decode cX0_leadAlike 39 = .ok (.invokevirtual 109, 3) := by decide +kernel
theorem dX0_leadAlike_42 : decode cX0_leadAlike 42 = .ok (.invokevirtual 141, 3) := by decide +kernel
theorem dX0_leadAlike_45 : decode cX0_leadAlike 45 = .ok (.aload_n 0, 1) := by decide +kernel
theorem dX0_leadAlike_46 : decode cX0_leadAlike 46 = .ok (.aload_n 1, 1) := by decide +kernel
theorem dX0_leadAlike_47 : decode cX0_leadAlike 47 = .ok (.iload_n 3, 1) := by decide +kernel
theorem dX0_leadAlike_48 : decode cX0_leadAlike 48 = .ok (.iload 5, 2) := by decide +kernel
theorem dX0_leadAlike_50 : decode cX0_leadAlike 50 = .ok (.invokevirtual 109, 3) := by decide +kernel
theorem dX0_leadAlike_53 : decode cX0_leadAlike 53 = .ok (.invokevirtual 141, 3) := by decide +kernel
theorem dX0_leadAlike_56 : decode cX0_leadAlike 56 = .ok (.if_icmp .ne 7, 3) := by decide +kernel
theorem dX0_leadAlike_59 : decode cX0_leadAlike 59 = .ok (.iconst 1, 1) := by decide +kernel
theorem dX0_leadAlike_60 : decode cX0_leadAlike 60 = .ok (.goto 4, 3) := by decide +kernel
theorem dX0_leadAlike_63 : decode cX0_leadAlike 63 = .ok (.iconst 0, 1) := by decide +kernel
theorem dX0_leadAlike_64 : decode cX0_leadAlike 64 = .ok (.istore 4, 2) := by decide +kernel
theorem dX0_leadAlike_66 : decode cX0_leadAlike 66 = .ok (.iinc 5 1, 3) := by decide +kernel
theorem dX0_leadAlike_69 : decode cX0_leadAlike 69 = .ok (.goto (-46), 3) := by decide +kernel
theorem dX0_leadAlike_72 : decode cX0_leadAlike 72 = .ok (.iload 4, 2) := by decide +kernel
theorem dX0_leadAlike_74 : decode cX0_leadAlike 74 = .ok (.ireturn, 1) := by decide +kernel
theorem dX0_classOf_0 : decode cX0_classOf 0 = .ok (.iload_n 1, 1) := by decide +kernel
theorem dX0_classOf_1 : decode cX0_classOf 1 = .ok (.ifCond .lt 19, 3) := by decide +kernel
theorem dX0_classOf_4 : decode cX0_classOf 4 = .ok (.iload_n 1, 1) := by decide +kernel
theorem dX0_classOf_5 : decode cX0_classOf 5 = .ok (.sipush 255, 3) := by decide +kernel
theorem dX0_classOf_8 : decode cX0_classOf 8 = .ok (.if_icmp .ge 12, 3) := by decide +kernel
theorem dX0_classOf_11 : decode cX0_classOf 11 = .ok (.aload_n 0, 1) := by decide +kernel
theorem dX0_classOf_12 : decode cX0_classOf 12 = .ok (.getfield 24, 3) := by decide +kernel
theorem dX0_classOf_15 : decode cX0_classOf 15 = .ok (.iload_n 1, 1) := by decide +kernel
theorem dX0_classOf_16 : decode cX0_classOf 16 = .ok (.iaload, 1) := by decide +kernel
theorem dX0_classOf_17 : decode cX0_classOf 17 = .ok (.goto 4, 3) := by decide +kernel
theorem dX0_classOf_20 : decode cX0_classOf 20 = .ok (.iconst (-1), 1) := by decide +kernel
theorem dX0_classOf_21 : decode cX0_classOf 21 = .ok (.ireturn, 1) := by decide +kernel
theorem dX0_linkClasses_0 : decode cX0_linkClasses 0 = .ok (.aload_n 0, 1) := by decide +kernel
theorem dX0_linkClasses_1 : decode cX0_linkClasses 1 = .ok (.getfield 36, 3) := by decide +kernel
theorem dX0_linkClasses_4 : decode cX0_linkClasses 4 = .ok (.invokevirtual 145, 3) := by decide +kernel
theorem dX0_linkClasses_7 : decode cX0_linkClasses 7 = .ok (.iconst 0, 1) := by decide +kernel
theorem dX0_linkClasses_8 : decode cX0_linkClasses 8 = .ok (.istore_n 2, 1) := by decide +kernel
theorem dX0_linkClasses_9 : decode cX0_linkClasses 9 = .ok (.iload_n 2, 1) := by decide +kernel
theorem dX0_linkClasses_10 : decode cX0_linkClasses 10 = .ok (.aload_n 0, 1) := by decide +kernel
theorem dX0_linkClasses_11 : decode cX0_linkClasses 11 = .ok (.getfield 75, 3) := by decide +kernel
theorem dX0_linkClasses_14 : decode cX0_linkClasses 14 = .ok (.if_icmp .ge 52, 3) := by decide +kernel
theorem dX0_linkClasses_17 : decode cX0_linkClasses 17 = .ok (.iload_n 2, 1) := by decide +kernel
theorem dX0_linkClasses_18 : decode cX0_linkClasses 18 = .ok (.bipush 8, 2) := by decide +kernel
theorem dX0_linkClasses_20 : decode cX0_linkClasses 20 = .ok (.if_icmp .ge 46, 3) := by decide +kernel
theorem dX0_linkClasses_23 : decode cX0_linkClasses 23 = .ok (.iconst 0, 1) := by decide +kernel
theorem dX0_linkClasses_24 : decode cX0_linkClasses 24 = .ok (.istore_n 3, 1) := by decide +kernel
theorem dX0_linkClasses_25 : decode cX0_linkClasses 25 = .ok (.iload_n 3, 1) := by decide +kernel
theorem dX0_linkClasses_26 : decode cX0_linkClasses 26 = .ok (.iconst 4, 1) := by decide +kernel
theorem dX0_linkClasses_27 : decode cX0_linkClasses 27 = .ok (.if_icmp .ge 33, 3) := by decide +kernel
theorem dX0_linkClasses_30 : decode cX0_linkClasses 30 = .ok (.aload_n 0, 1) := by decide +kernel
theorem dX0_linkClasses_31 : decode cX0_linkClasses 31 = .ok (.getfield 36, 3) := by decide +kernel
theorem dX0_linkClasses_34 : decode cX0_linkClasses 34 = .ok (.iload_n 2, 1) := by decide +kernel
theorem dX0_linkClasses_35 : decode cX0_linkClasses 35 = .ok (.iload_n 3, 1) := by decide +kernel
theorem dX0_linkClasses_36 : decode cX0_linkClasses 36 = .ok (.aload_n 0, 1) := by decide +kernel
theorem dX0_linkClasses_37 : decode cX0_linkClasses 37 = .ok (.aload_n 1, 1) := by decide +kernel
theorem dX0_linkClasses_38 : decode cX0_linkClasses 38 = .ok (.aload_n 0, 1) := by decide +kernel
theorem dX0_linkClasses_39 : decode cX0_linkClasses 39 = .ok (.getfield 30, 3) := by decide +kernel
theorem dX0_linkClasses_42 : decode cX0_linkClasses 42 = .ok (.iload_n 2, 1) := by decide +kernel
theorem dX0_linkClasses_43 : decode cX0_linkClasses 43 = .ok (.iaload, 1) := by decide +kernel
theorem dX0_linkClasses_44 : decode cX0_linkClasses 44 = .ok (.iload_n 3, 1) := by decide +kernel
theorem dX0_linkClasses_45 : decode cX0_linkClasses 45 = .ok (.invokevirtual 109, 3) := by decide +kernel
theorem dX0_linkClasses_48 : decode cX0_linkClasses 48 = .ok (.invokevirtual 141, 3) := by decide +kernel
theorem dX0_linkClasses_51 : decode cX0_linkClasses 51 = .ok (.invokevirtual 148, 3) := by decide +kernel
theorem dX0_linkClasses_54 : decode cX0_linkClasses 54 = .ok (.iinc 3 1, 3) := by decide +kernel
theorem dX0_linkClasses_57 : decode cX0_linkClasses 57 = .ok (.goto (-32), 3) := by decide +kernel
theorem dX0_linkClasses_60 : decode cX0_linkClasses 60 = .ok (.iinc 2 1, 3) := by decide +kernel
theorem dX0_linkClasses_63 : decode cX0_linkClasses 63 = .ok (.goto (-54), 3) := by decide +kernel
theorem dX0_linkClasses_66 : decode cX0_linkClasses 66 = .ok (.return_, 1) := by decide +kernel
theorem dX0_findReset_0 : decode cX0_findReset 0 = .ok (.aload_n 0, 1) := by decide +kernel
theorem dX0_findReset_1 : decode cX0_findReset 1 = .ok (.iconst 0, 1) := by decide +kernel
theorem dX0_findReset_2 : decode cX0_findReset 2 = .ok (.putfield 79, 3) := by decide +kernel
theorem dX0_findReset_5 : decode cX0_findReset 5 = .ok (.aload_n 0, 1) := by decide +kernel
theorem dX0_findReset_6 : decode cX0_findReset 6 = .ok (.getfield 41, 3) := by decide +kernel
theorem dX0_findReset_9 : decode cX0_findReset 9 = .ok (.invokevirtual 120, 3) := by decide +kernel
theorem dX0_findReset_12 : decode cX0_findReset 12 = .ok (.iconst 1, 1) := by decide +kernel
theorem dX0_findReset_13 : decode cX0_findReset 13 = .ok (.isub, 1) := by decide +kernel
theorem dX0_findReset_14 : decode cX0_findReset 14 = .ok (.istore_n 1, 1) := by decide +kernel
theorem dX0_findReset_15 : decode cX0_findReset 15 = .ok (.iload_n 1, 1) := by decide +kernel
theorem dX0_findReset_16 : decode cX0_findReset 16 = .ok (.ifCond .lt 29, 3) := by decide +kernel
theorem dX0_findReset_19 : decode cX0_findReset 19 = .ok (.aload_n 0, 1) := by decide +kernel
theorem dX0_findReset_20 : decode cX0_findReset 20 = .ok (.getfield 41, 3) := by decide +kernel
theorem dX0_findReset_23 : decode cX0_findReset 23 = .ok (.iload_n 1, 1) := by decide +kernel
theorem dX0_findReset_24 : decode cX0_findReset 24 = .ok (.invokevirtual 152, 3) := by decide +kernel
theorem dX0_findReset_27 : decode cX0_findReset 27 = .ok (.invokestatic 155, 3) := by decide +kernel
theorem dX0_findReset_30 : decode cX0_findReset 30 = .ok (.iconst 1, 1) := by decide +kernel
theorem dX0_findReset_31 : decode cX0_findReset 31 = .ok (.if_icmp .ne 8, 3) := by decide +kernel
theorem dX0_findReset_34 : decode cX0_findReset 34 = .ok (.aload_n 0, 1) := by decide +kernel
theorem dX0_findReset_35 : decode cX0_findReset 35 = .ok (.iload_n 1, 1) := by decide +kernel
theorem dX0_findReset_36 : decode cX0_findReset 36 = .ok (.putfield 79, 3) := by decide +kernel
theorem dX0_findReset_39 : decode cX0_findReset 39 = .ok (.iinc 1 (-1), 3) := by decide +kernel
theorem dX0_findReset_42 : decode cX0_findReset 42 = .ok (.goto (-27), 3) := by decide +kernel
theorem dX0_findReset_45 : decode cX0_findReset 45 = .ok (.return_, 1) := by decide +kernel
theorem dX0_numberVertices_0 : decode cX0_numberVertices 0 = .ok (.aload_n 0, 1) := by decide +kernel
theorem dX0_numberVertices_1 : decode cX0_numberVertices 1 = .ok (.getfield 51, 3) := by decide +kernel
theorem dX0_numberVertices_4 : decode cX0_numberVertices 4 = .ok (.invokevirtual 145, 3) := by decide +kernel
theorem dX0_numberVertices_7 : decode cX0_numberVertices 7 = .ok (.aload_n 0, 1) := by decide +kernel
theorem dX0_numberVertices_8 : decode cX0_numberVertices 8 = .ok (.getfield 48, 3) := by decide +kernel
theorem dX0_numberVertices_11 : decode cX0_numberVertices 11 = .ok (.iconst (-1), 1) := by decide +kernel
theorem dX0_numberVertices_12 : decode cX0_numberVertices 12 = .ok (.invokestatic 160, 3) := by decide +kernel
theorem dX0_numberVertices_15 : decode cX0_numberVertices 15 = .ok (.iconst 0, 1) := by decide +kernel
theorem dX0_numberVertices_16 : decode cX0_numberVertices 16 = .ok (.istore_n 1, 1) := by decide +kernel
theorem dX0_numberVertices_17 : decode cX0_numberVertices 17 = .ok (.iconst 0, 1) := by decide +kernel
theorem dX0_numberVertices_18 : decode cX0_numberVertices 18 = .ok (.istore_n 2, 1) := by decide +kernel
theorem dX0_numberVertices_19 : decode cX0_numberVertices 19 = .ok (.iload_n 2, 1) := by decide +kernel
theorem dX0_numberVertices_20 : decode cX0_numberVertices 20 = .ok (.bipush 8, 2) := by decide +kernel
theorem dX0_numberVertices_22 : decode cX0_numberVertices 22 = .ok (.if_icmp .ge 38, 3) := by decide +kernel
theorem dX0_numberVertices_25 : decode cX0_numberVertices 25 = .ok (.iload_n 1, 1) := by decide +kernel
theorem dX0_numberVertices_26 : decode cX0_numberVertices 26 = .ok (.ifCond .ne 34, 3) := by decide +kernel
theorem dX0_numberVertices_29 : decode cX0_numberVertices 29 = .ok (.aload_n 0, 1) := by decide +kernel
theorem dX0_numberVertices_30 : decode cX0_numberVertices 30 = .ok (.getfield 41, 3) := by decide +kernel
theorem dX0_numberVertices_33 : decode cX0_numberVertices 33 = .ok (.aload_n 0, 1) := by decide +kernel
theorem dX0_numberVertices_34 : decode cX0_numberVertices 34 = .ok (.getfield 79, 3) := by decide +kernel
theorem dX0_numberVertices_37 : decode cX0_numberVertices 37 = .ok (.invokevirtual 152, 3) := by decide +kernel
theorem dX0_numberVertices_40 : decode cX0_numberVertices 40 = .ok (.iload_n 2, 1) := by decide +kernel
theorem dX0_numberVertices_41 : decode cX0_numberVertices 41 = .ok (.ishr, 1) := by decide +kernel
theorem dX0_numberVertices_42 : decode cX0_numberVertices 42 = .ok (.iconst 1, 1) := by decide +kernel
theorem dX0_numberVertices_43 : decode cX0_numberVertices 43 = .ok (.iand, 1) := by decide +kernel
theorem dX0_numberVertices_44 : decode cX0_numberVertices 44 = .ok (.ifCond .eq 10, 3) := by decide +kernel
theorem dX0_numberVertices_47 : decode cX0_numberVertices 47 = .ok (.aload_n 0, 1) := by decide +kernel
theorem dX0_numberVertices_48 : decode cX0_numberVertices 48 = .ok (.iload_n 2, 1) := by decide +kernel
theorem dX0_numberVertices_49 : decode cX0_numberVertices 49 = .ok (.iload_n 1, 1) := by decide +kernel
theorem dX0_numberVertices_50 : decode cX0_numberVertices 50 = .ok (.invokevirtual 166, 3) := by decide +kernel
theorem dX0_numberVertices_53 : decode cX0_numberVertices 53 = .ok (.istore_n 1, 1) := by decide +kernel
theorem dX0_numberVertices_54 : decode cX0_numberVertices 54 = .ok (.iinc 2 1, 3) := by decide +kernel
theorem dX0_numberVertices_57 : decode cX0_numberVertices 57 = .ok (.goto (-38), 3) := by decide +kernel
theorem dX0_numberVertices_60 : decode cX0_numberVertices 60 = .ok (.iconst 0, 1) := by decide +kernel
theorem dX0_numberVertices_61 : decode cX0_numberVertices 61 = .ok (.istore_n 2, 1) := by decide +kernel
theorem dX0_numberVertices_62 : decode cX0_numberVertices 62 = .ok (.iload_n 2, 1) := by decide +kernel
theorem dX0_numberVertices_63 : decode cX0_numberVertices 63 = .ok (.iload_n 1, 1) := by decide +kernel
theorem dX0_numberVertices_64 : decode cX0_numberVertices 64 = .ok (.if_icmp .ge 77, 3) := by decide +kernel
theorem dX0_numberVertices_67 : decode cX0_numberVertices 67 = .ok (.iload_n 2, 1) := by decide +kernel
theorem dX0_numberVertices_68 : decode cX0_numberVertices 68 = .ok (.bipush 8, 2) := by decide +kernel
theorem dX0_numberVertices_70 : decode cX0_numberVertices 70 = .ok (.if_icmp .ge 71, 3) := by decide +kernel
theorem dX0_numberVertices_73 : decode cX0_numberVertices 73 = .ok (.iconst 0, 1) := by decide +kernel
theorem dX0_numberVertices_74 : decode cX0_numberVertices 74 = .ok (.istore_n 3, 1) := by decide +kernel
theorem dX0_numberVertices_75 : decode cX0_numberVertices 75 = .ok (.iload_n 3, 1) := by decide +kernel
theorem dX0_numberVertices_76 : decode cX0_numberVertices 76 = .ok (.iconst 4, 1) := by decide +kernel
theorem dX0_numberVertices_77 : decode cX0_numberVertices 77 = .ok (.if_icmp .ge 58, 3) := by decide +kernel
theorem dX0_numberVertices_80 : decode cX0_numberVertices 80 = .ok (.aload_n 0, 1) := by decide +kernel
theorem dX0_numberVertices_81 : decode cX0_numberVertices 81 = .ok (.aload_n 0, 1) := by decide +kernel
theorem dX0_numberVertices_82 : decode cX0_numberVertices 82 = .ok (.getfield 45, 3) := by decide +kernel
theorem dX0_numberVertices_85 : decode cX0_numberVertices 85 = .ok (.iload_n 2, 1) := by decide +kernel
theorem dX0_numberVertices_86 : decode cX0_numberVertices 86 = .ok (.iaload, 1) := by decide +kernel
theorem dX0_numberVertices_87 : decode cX0_numberVertices 87 = .ok (.iload_n 3, 1) := by decide +kernel
theorem dX0_numberVertices_88 : decode cX0_numberVertices 88 = .ok (.invokevirtual 169, 3) := by decide +kernel
theorem dX0_numberVertices_91 : decode cX0_numberVertices 91 = .ok (.istore 4, 2) := by decide +kernel
theorem dX0_numberVertices_93 : decode cX0_numberVertices 93 = .ok (.iload 4, 2) := by decide +kernel
theorem dX0_numberVertices_95 : decode cX0_numberVertices 95 = .ok (.ifCond .lt 34, 3) := by decide +kernel
theorem dX0_numberVertices_98 : decode cX0_numberVertices 98 = .ok (.iload 4, 2) := by decide +kernel
theorem dX0_numberVertices_100 : decode cX0_numberVertices 100 = .ok (.bipush 8, 2) := by decide +kernel
theorem dX0_numberVertices_102 : decode cX0_numberVertices 102 = .ok (.if_icmp .ge 27, 3) := by decide +kernel
theorem dX0_numberVertices_105 : decode cX0_numberVertices 105 = .ok (.aload_n 0, 1) := by decide +kernel
theorem dX0_numberVertices_106 : decode cX0_numberVertices 106 = .ok (.iload 4, 2) := by decide +kernel
theorem dX0_numberVertices_108 : decode cX0_numberVertices 108 = .ok (.iload_n 1, 1) := by decide +kernel
theorem dX0_numberVertices_109 : decode cX0_numberVertices 109 = .ok (.invokevirtual 166, 3) := by decide +kernel
theorem dX0_numberVertices_112 : decode cX0_numberVertices 112 = .ok (.istore_n 1, 1) := by decide +kernel
theorem dX0_numberVertices_113 : decode cX0_numberVertices 113 = .ok (.aload_n 0, 1) := by decide +kernel
theorem dX0_numberVertices_114 : decode cX0_numberVertices 114 = .ok (.getfield 51, 3) := by decide +kernel
theorem dX0_numberVertices_117 : decode cX0_numberVertices 117 = .ok (.iload_n 2, 1) := by decide +kernel
theorem dX0_numberVertices_118 : decode cX0_numberVertices 118 = .ok (.iload_n 3, 1) := by decide +kernel
theorem dX0_numberVertices_119 : decode cX0_numberVertices 119 = .ok (.aload_n 0, 1) := by decide +kernel
theorem dX0_numberVertices_120 : decode cX0_numberVertices 120 = .ok (.getfield 48, 3) := by decide +kernel
theorem dX0_numberVertices_123 : decode cX0_numberVertices 123 = .ok (.iload 4, 2) := by decide +kernel
theorem dX0_numberVertices_125 : decode cX0_numberVertices 125 = .ok (.iaload, 1) := by decide +kernel
theorem dX0_numberVertices_126 : decode cX0_numberVertices 126 = .ok (.invokevirtual 148, 3) := by decide +kernel
theorem dX0_numberVertices_129 : decode cX0_numberVertices 129 = .ok (.iinc 3 1, 3) := by decide +kernel
theorem dX0_numberVertices_132 : decode cX0_numberVertices 132 = .ok (.goto (-57), 3) := by decide +kernel
theorem dX0_numberVertices_135 : decode cX0_numberVertices 135 = .ok (.iinc 2 1, 3) := by decide +kernel
theorem dX0_numberVertices_138 : decode cX0_numberVertices 138 = .ok (.goto (-76), 3) := by decide +kernel
theorem dX0_numberVertices_141 : decode cX0_numberVertices 141 = .ok (.return_, 1) := by decide +kernel
theorem dX0_numberVertex_0 : decode cX0_numberVertex 0 = .ok (.iload_n 1, 1) := by decide +kernel
theorem dX0_numberVertex_1 : decode cX0_numberVertex 1 = .ok (.invokestatic 172, 3) := by decide +kernel
theorem dX0_numberVertex_4 : decode cX0_numberVertex 4 = .ok (.ifCond .eq 20, 3) := by decide +kernel
theorem dX0_numberVertex_7 : decode cX0_numberVertex 7 = .ok (.iload_n 2, 1) := by decide +kernel
theorem dX0_numberVertex_8 : decode cX0_numberVertex 8 = .ok (.invokestatic 172, 3) := by decide +kernel
theorem dX0_numberVertex_11 : decode cX0_numberVertex 11 = .ok (.ifCond .eq 13, 3) := by decide +kernel
theorem dX0_numberVertex_14 : decode cX0_numberVertex 14 = .ok (.aload_n 0, 1) := by decide +kernel
theorem dX0_numberVertex_15 : decode cX0_numberVertex 15 = .ok (.getfield 48, 3) := by decide +kernel
theorem dX0_numberVertex_18 : decode cX0_numberVertex 18 = .ok (.iload_n 1, 1) := by decide +kernel
theorem dX0_numberVertex_19 : decode cX0_numberVertex 19 = .ok (.iaload, 1) := by decide +kernel
theorem dX0_numberVertex_20 : decode cX0_numberVertex 20 = .ok (.iconst (-1), 1) := by decide +kernel
theorem dX0_numberVertex_21 : decode cX0_numberVertex 21 = .ok (.if_icmp .eq 5, 3) := by decide +kernel
theorem dX0_numberVertex_24 : decode cX0_numberVertex 24 = .ok (.iload_n 2, 1) := by decide +kernel
theorem dX0_numberVertex_25 : decode cX0_numberVertex 25 = .ok (.ireturn, 1) := by decide +kernel
theorem dX0_numberVertex_26 : decode cX0_numberVertex 26 = .ok (.aload_n 0, 1) := by decide +kernel
theorem dX0_numberVertex_27 : decode cX0_numberVertex 27 = .ok (.getfield 48, 3) := by decide +kernel
theorem dX0_numberVertex_30 : decode cX0_numberVertex 30 = .ok (.iload_n 1, 1) := by decide +kernel
theorem dX0_numberVertex_31 : decode cX0_numberVertex 31 = .ok (.iload_n 2, 1) := by decide +kernel
theorem dX0_numberVertex_32 : decode cX0_numberVertex 32 = .ok (.iastore, 1) := by decide +kernel
theorem dX0_numberVertex_33 : decode cX0_numberVertex 33 = .ok (.aload_n 0, 1) := by decide +kernel
theorem dX0_numberVertex_34 : decode cX0_numberVertex 34 = .ok (.getfield 45, 3) := by decide +kernel
theorem dX0_numberVertex_37 : decode cX0_numberVertex 37 = .ok (.iload_n 2, 1) := by decide +kernel
theorem dX0_numberVertex_38 : decode cX0_numberVertex 38 = .ok (.iload_n 1, 1) := by decide +kernel
theorem dX0_numberVertex_39 : decode cX0_numberVertex 39 = .ok (.iastore, 1) := by decide +kernel
theorem dX0_numberVertex_40 : decode cX0_numberVertex 40 = .ok (.iload_n 2, 1) := by decide +kernel
theorem dX0_numberVertex_41 : decode cX0_numberVertex 41 = .ok (.iconst 1, 1) := by decide +kernel
theorem dX0_numberVertex_42 : decode cX0_numberVertex 42 = .ok (.iadd, 1) := by decide +kernel
theorem dX0_numberVertex_43 : decode cX0_numberVertex 43 = .ok (.ireturn, 1) := by decide +kernel
theorem dX0_targetInMerged_0 : decode cX0_targetInMerged 0 = .ok (.iconst 0, 1) := by decide +kernel
theorem dX0_targetInMerged_1 : decode cX0_targetInMerged 1 = .ok (.istore_n 3, 1) := by decide +kernel
theorem dX0_targetInMerged_2 : decode cX0_targetInMerged 2 = .ok (.iload_n 3, 1) := by decide +kernel
theorem dX0_targetInMerged_3 : decode cX0_targetInMerged 3 = .ok (.bipush 8, 2) := by decide +kernel
theorem dX0_targetInMerged_5 : decode cX0_targetInMerged 5 = .ok (.if_icmp .ge 24, 3) := by decide +kernel
theorem dX0_targetInMerged_8 : decode cX0_targetInMerged 8 = .ok (.aload_n 0, 1) := by decide +kernel
theorem dX0_targetInMerged_9 : decode cX0_targetInMerged 9 = .ok (.getfield 36, 3) := by decide +kernel
theorem dX0_targetInMerged_12 : decode cX0_targetInMerged 12 = .ok (.iload_n 1, 1) := by decide +kernel
theorem dX0_targetInMerged_13 : decode cX0_targetInMerged 13 = .ok (.iload_n 2, 1) := by decide +kernel
theorem dX0_targetInMerged_14 : decode cX0_targetInMerged 14 = .ok (.iload_n 3, 1) := by decide +kernel
theorem dX0_targetInMerged_15 : decode cX0_targetInMerged 15 = .ok (.invokevirtual 176, 3) := by decide +kernel
theorem dX0_targetInMerged_18 : decode cX0_targetInMerged 18 = .ok (.ifCond .eq 5, 3) := by decide +kernel
theorem dX0_targetInMerged_21 : decode cX0_targetInMerged 21 = .ok (.iload_n 3, 1) := by decide +kernel
theorem dX0_targetInMerged_22 : decode cX0_targetInMerged 22 = .ok (.ireturn, 1) := by decide +kernel
theorem dX0_targetInMerged_23 : decode cX0_targetInMerged 23 = .ok (.iinc 3 1, 3) := by decide +kernel
theorem dX0_targetInMerged_26 : decode cX0_targetInMerged 26 = .ok (.goto (-24), 3) := by decide +kernel
theorem dX0_targetInMerged_29 : decode cX0_targetInMerged 29 = .ok (.iconst (-1), 1) := by decide +kernel
theorem dX0_targetInMerged_30 : decode cX0_targetInMerged 30 = .ok (.ireturn, 1) := by decide +kernel
theorem dX0_stepsToSynchronize_0 : decode cX0_stepsToSynchronize 0 = .ok (.lconst 0, 1) := by decide +kernel
theorem dX0_stepsToSynchronize_1 : decode cX0_stepsToSynchronize 1 = .ok (.lstore_n 1, 1) := by decide +kernel
theorem dX0_stepsToSynchronize_2 : decode cX0_stepsToSynchronize 2 = .ok (.iconst 0, 1) := by decide +kernel
theorem dX0_stepsToSynchronize_3 : decode cX0_stepsToSynchronize 3 = .ok (.istore_n 3, 1) := by decide +kernel
theorem dX0_stepsToSynchronize_4 : decode cX0_stepsToSynchronize 4 = .ok (.iload_n 3, 1) := by decide +kernel
theorem dX0_stepsToSynchronize_5 : decode cX0_stepsToSynchronize 5 = .ok (.aload_n 0, 1) := by decide +kernel
theorem dX0_stepsToSynchronize_6 : decode cX0_stepsToSynchronize 6 = .ok (.getfield 75, 3) := by decide +kernel
theorem dX0_stepsToSynchronize_9 : decode cX0_stepsToSynchronize 9 = .ok (.if_icmp .ge 36, 3) := by decide +kernel
theorem dX0_stepsToSynchronize_12 : decode cX0_stepsToSynchronize 12 = .ok (.iconst 0, 1) := by decide +kernel
theorem dX0_stepsToSynchronize_13 : decode cX0_stepsToSynchronize 13 = .ok (.istore 4, 2) := by decide +kernel
theorem dX0_stepsToSynchronize_15 : decode cX0_stepsToSynchronize 15 = .ok (.iload 4, 2) := by decide +kernel
theorem dX0_stepsToSynchronize_17 : decode cX0_stepsToSynchronize 17 = .ok (.iload_n 3, 1) := by decide +kernel
theorem dX0_stepsToSynchronize_18 : decode cX0_stepsToSynchronize 18 = .ok (.if_icmp .ge 21, 3) := by decide +kernel
theorem dX0_stepsToSynchronize_21 : decode cX0_stepsToSynchronize 21 = .ok (.lload_n 1, 1) := by decide +kernel
theorem dX0_stepsToSynchronize_22 : decode cX0_stepsToSynchronize 22 = .ok (.lconst 1, 1) := by decide +kernel
theorem dX0_stepsToSynchronize_23 : decode cX0_stepsToSynchronize 23 = .ok (.bipush 8, 2) := by decide +kernel
theorem dX0_stepsToSynchronize_25 : decode cX0_stepsToSynchronize 25 = .ok (.iload_n 3, 1) := by decide +kernel
theorem dX0_stepsToSynchronize_26 : decode cX0_stepsToSynchronize 26 = .ok (.imul, 1) := by decide +kernel
theorem dX0_stepsToSynchronize_27 : decode cX0_stepsToSynchronize 27 = .ok (.iload 4, 2) := by decide +kernel
theorem dX0_stepsToSynchronize_29 : decode cX0_stepsToSynchronize 29 = .ok (.iadd, 1) := by decide +kernel
theorem dX0_stepsToSynchronize_30 : decode cX0_stepsToSynchronize 30 = .ok (.lshl, 1) := by decide +kernel
theorem dX0_stepsToSynchronize_31 : decode cX0_stepsToSynchronize 31 = .ok (.lor, 1) := by decide +kernel
theorem dX0_stepsToSynchronize_32 : decode cX0_stepsToSynchronize 32 = .ok (.lstore_n 1, 1) := by decide +kernel
theorem dX0_stepsToSynchronize_33 : decode cX0_stepsToSynchronize 33 = .ok (.iinc 4 1, 3) := by decide +kernel
theorem dX0_stepsToSynchronize_36 : decode cX0_stepsToSynchronize 36 = .ok (.goto (-21), 3) := by decide +kernel
theorem dX0_stepsToSynchronize_39 : decode cX0_stepsToSynchronize 39 = .ok (.iinc 3 1, 3) := by decide +kernel
theorem dX0_stepsToSynchronize_42 : decode cX0_stepsToSynchronize 42 = .ok (.goto (-38), 3) := by decide +kernel
theorem dX0_stepsToSynchronize_45 : decode cX0_stepsToSynchronize 45 = .ok (.bipush 28, 2) := by decide +kernel
theorem dX0_stepsToSynchronize_47 : decode cX0_stepsToSynchronize 47 = .ok (.istore_n 3, 1) := by decide +kernel
theorem dX0_stepsToSynchronize_48 : decode cX0_stepsToSynchronize 48 = .ok (.iconst 0, 1) := by decide +kernel
theorem dX0_stepsToSynchronize_49 : decode cX0_stepsToSynchronize 49 = .ok (.istore 4, 2) := by decide +kernel
theorem dX0_stepsToSynchronize_51 : decode cX0_stepsToSynchronize 51 = .ok (.iload 4, 2) := by decide +kernel
theorem dX0_stepsToSynchronize_53 : decode cX0_stepsToSynchronize 53 = .ok (.iload_n 3, 1) := by decide +kernel
theorem dX0_stepsToSynchronize_54 : decode cX0_stepsToSynchronize 54 = .ok (.if_icmp .gt 24, 3) := by decide +kernel
theorem dX0_stepsToSynchronize_57 : decode cX0_stepsToSynchronize 57 = .ok (.lload_n 1, 1) := by decide +kernel
theorem dX0_stepsToSynchronize_58 : decode cX0_stepsToSynchronize 58 = .ok (.lconst 0, 1) := by decide +kernel
theorem dX0_stepsToSynchronize_59 : decode cX0_stepsToSynchronize 59 = .ok (.lcmp, 1) := by decide +kernel
theorem dX0_stepsToSynchronize_60 : decode cX0_stepsToSynchronize 60 = .ok (.ifCond .ne 6, 3) := by decide +kernel
theorem dX0_stepsToSynchronize_63 : decode cX0_stepsToSynchronize 63 = .ok (.iload 4, 2) := by decide +kernel
theorem dX0_stepsToSynchronize_65 : decode cX0_stepsToSynchronize 65 = .ok (.ireturn, 1) := by decide +kernel
theorem dX0_stepsToSynchronize_66 : decode cX0_stepsToSynchronize 66 = .ok (.aload_n 0, 1) := by decide +kernel
theorem dX0_stepsToSynchronize_67 : decode cX0_stepsToSynchronize 67 = .ok (.lload_n 1, 1) := by decide +kernel
theorem dX0_stepsToSynchronize_68 : decode cX0_stepsToSynchronize 68 = .ok (.invokevirtual 179, 3) := by decide +kernel
theorem dX0_stepsToSynchronize_71 : decode cX0_stepsToSynchronize 71 = .ok (.lstore_n 1, 1) := by decide +kernel
theorem dX0_stepsToSynchronize_72 : decode cX0_stepsToSynchronize 72 = .ok (.iinc 4 1, 3) := by decide +kernel
theorem dX0_stepsToSynchronize_75 : decode cX0_stepsToSynchronize 75 = .ok (.goto (-24), 3) := by decide +kernel
theorem dX0_stepsToSynchronize_78 : decode cX0_stepsToSynchronize 78 = .ok (.iconst (-1), 1) := by decide +kernel
theorem dX0_stepsToSynchronize_79 : decode cX0_stepsToSynchronize 79 = .ok (.ireturn, 1) := by decide +kernel
theorem dX0_pairsAfter_0 : decode cX0_pairsAfter 0 = .ok (.lconst 0, 1) := by decide +kernel
theorem dX0_pairsAfter_1 : decode cX0_pairsAfter 1 = .ok (.lstore_n 3, 1) := by decide +kernel
theorem dX0_pairsAfter_2 : decode cX0_pairsAfter 2 = .ok (.iconst 0, 1) := by decide +kernel
theorem dX0_pairsAfter_3 : decode cX0_pairsAfter 3 = .ok (.istore 5, 2) := by decide +kernel
theorem dX0_pairsAfter_5 : decode cX0_pairsAfter 5 = .ok (.iload 5, 2) := by decide +kernel
theorem dX0_pairsAfter_7 : decode cX0_pairsAfter 7 = .ok (.bipush 8, 2) := by decide +kernel
theorem dX0_pairsAfter_9 : decode cX0_pairsAfter 9 = .ok (.if_icmp .ge 53, 3) := by decide +kernel
theorem dX0_pairsAfter_12 : decode cX0_pairsAfter 12 = .ok (.iconst 0, 1) := by decide +kernel
theorem dX0_pairsAfter_13 : decode cX0_pairsAfter 13 = .ok (.istore 6, 2) := by decide +kernel
theorem dX0_pairsAfter_15 : decode cX0_pairsAfter 15 = .ok (.iload 6, 2) := by decide +kernel
theorem dX0_pairsAfter_17 : decode cX0_pairsAfter 17 = .ok (.iload 5, 2) := by decide +kernel
theorem dX0_pairsAfter_19 : decode cX0_pairsAfter 19 = .ok (.if_icmp .ge 37, 3) := by decide +kernel
theorem dX0_pairsAfter_22 : decode cX0_pairsAfter 22 = .ok (.lload_n 1, 1) := by decide +kernel
theorem dX0_pairsAfter_23 : decode cX0_pairsAfter 23 = .ok (.bipush 8, 2) := by decide +kernel
theorem dX0_pairsAfter_25 : decode cX0_pairsAfter 25 = .ok (.iload 5, 2) := by decide +kernel
theorem dX0_pairsAfter_27 : decode cX0_pairsAfter 27 = .ok (.imul, 1) := by decide +kernel
theorem dX0_pairsAfter_28 : decode cX0_pairsAfter 28 = .ok (.iload 6, 2) := by decide +kernel
theorem dX0_pairsAfter_30 : decode cX0_pairsAfter 30 = .ok (.iadd, 1) := by decide +kernel
theorem dX0_pairsAfter_31 : decode cX0_pairsAfter 31 = .ok (.lshr, 1) := by decide +kernel
theorem dX0_pairsAfter_32 : decode cX0_pairsAfter 32 = .ok (.lconst 1, 1) := by decide +kernel
theorem dX0_pairsAfter_33 : decode cX0_pairsAfter 33 = .ok (.land, 1) := by decide +kernel
theorem dX0_pairsAfter_34 : decode cX0_pairsAfter 34 = .ok (.lconst 0, 1) := by decide +kernel
theorem dX0_pairsAfter_35 : decode cX0_pairsAfter 35 = .ok (.lcmp, 1) := by decide +kernel
theorem dX0_pairsAfter_36 : decode cX0_pairsAfter 36 = .ok (.ifCond .eq 14, 3) := by decide +kernel
theorem dX0_pairsAfter_39 : decode cX0_pairsAfter 39 = .ok (.lload_n 3, 1) := by decide +kernel
theorem dX0_pairsAfter_40 : decode cX0_pairsAfter 40 = .ok (.aload_n 0, 1) := by decide +kernel
theorem dX0_pairsAfter_41 : decode cX0_pairsAfter 41 = .ok (.iload 5, 2) := by decide +kernel
theorem dX0_pairsAfter_43 : decode cX0_pairsAfter 43 = .ok (.iload 6, 2) := by decide +kernel
theorem dX0_pairsAfter_45 : decode cX0_pairsAfter 45 = .ok (.invokevirtual 183, 3) := by decide +kernel
theorem dX0_pairsAfter_48 : decode cX0_pairsAfter 48 = .ok (.lor, 1) := by decide +kernel
theorem dX0_pairsAfter_49 : decode cX0_pairsAfter 49 = .ok (.lstore_n 3, 1) := by decide +kernel
theorem dX0_pairsAfter_50 : decode cX0_pairsAfter 50 = .ok (.iinc 6 1, 3) := by decide +kernel
theorem dX0_pairsAfter_53 : decode cX0_pairsAfter 53 = .ok (.goto (-38), 3) := by decide +kernel
theorem dX0_pairsAfter_56 : decode cX0_pairsAfter 56 = .ok (.iinc 5 1, 3) := by decide +kernel
theorem dX0_pairsAfter_59 : decode cX0_pairsAfter 59 = .ok (.goto (-54), 3) := by decide +kernel
theorem dX0_pairsAfter_62 : decode cX0_pairsAfter 62 = .ok (.lload_n 3, 1) := by decide +kernel
theorem dX0_pairsAfter_63 : decode cX0_pairsAfter 63 = .ok (.lreturn, 1) := by decide +kernel
theorem dX0_pairsAfterPair_0 : decode cX0_pairsAfterPair 0 = .ok (.lconst 0, 1) := by decide +kernel
theorem dX0_pairsAfterPair_1 : decode cX0_pairsAfterPair 1 = .ok (.lstore_n 3, 1) := by decide +kernel
theorem dX0_pairsAfterPair_2 : decode cX0_pairsAfterPair 2 = .ok (.iconst 0, 1) := by decide +kernel
theorem dX0_pairsAfterPair_3 : decode cX0_pairsAfterPair 3 = .ok (.istore 5, 2) := by decide +kernel
theorem dX0_pairsAfterPair_5 : decode cX0_pairsAfterPair 5 = .ok (.iload 5, 2) := by decide +kernel
theorem dX0_pairsAfterPair_7 : decode cX0_pairsAfterPair 7 = .ok (.iconst 4, 1) := by decide +kernel
theorem dX0_pairsAfterPair_8 : decode cX0_pairsAfterPair 8 = .ok (.if_icmp .ge 67, 3) := by decide +kernel
theorem dX0_pairsAfterPair_11 : decode cX0_pairsAfterPair 11 = .ok (.aload_n 0, 1) := by decide +kernel
theorem dX0_pairsAfterPair_12 : decode cX0_pairsAfterPair 12 = .ok (.iload_n 1, 1) := by decide +kernel
theorem dX0_pairsAfterPair_13 : decode cX0_pairsAfterPair 13 = .ok (.iload 5, 2) := by decide +kernel
theorem dX0_pairsAfterPair_15 : decode cX0_pairsAfterPair 15 = .ok (.invokevirtual 169, 3) := by decide +kernel
theorem dX0_pairsAfterPair_18 : decode cX0_pairsAfterPair 18 = .ok (.istore 6, 2) := by decide +kernel
theorem dX0_pairsAfterPair_20 : decode cX0_pairsAfterPair 20 = .ok (.aload_n 0, 1) := by decide +kernel
theorem dX0_pairsAfterPair_21 : decode cX0_pairsAfterPair 21 = .ok (.iload_n 2, 1) := by decide +kernel
theorem dX0_pairsAfterPair_22 : decode cX0_pairsAfterPair 22 = .ok (.iload 5, 2) := by decide +kernel
theorem dX0_pairsAfterPair_24 : decode cX0_pairsAfterPair 24 = .ok (.invokevirtual 169, 3) := by decide +kernel
theorem dX0_pairsAfterPair_27 : decode cX0_pairsAfterPair 27 = .ok (.istore 7, 2) := by decide +kernel
theorem dX0_pairsAfterPair_29 : decode cX0_pairsAfterPair 29 = .ok (.iload 6, 2) := by decide +kernel
theorem dX0_pairsAfterPair_31 : decode cX0_pairsAfterPair 31 = .ok (.ifCond .lt 38, 3) := by decide +kernel
theorem dX0_pairsAfterPair_34 : decode cX0_pairsAfterPair 34 = .ok (.iload 7, 2) := by decide +kernel
theorem dX0_pairsAfterPair_36 : decode cX0_pairsAfterPair 36 = .ok (.ifCond .lt 33, 3) := by decide +kernel
theorem dX0_pairsAfterPair_39 : decode cX0_pairsAfterPair 39 = .ok (.iload 6, 2) := by decide +kernel
theorem dX0_pairsAfterPair_41 : decode cX0_pairsAfterPair 41 = .ok (.iload 7, 2) := by decide +kernel
theorem dX0_pairsAfterPair_43 : decode cX0_pairsAfterPair 43 = .ok (.if_icmp .eq 26, 3) := by decide +kernel
theorem dX0_pairsAfterPair_46 : decode cX0_pairsAfterPair 46 = .ok (.lload_n 3, 1) := by decide +kernel
theorem dX0_pairsAfterPair_47 : decode cX0_pairsAfterPair 47 = .ok (.lconst 1, 1) := by decide +kernel
theorem dX0_pairsAfterPair_48 : decode cX0_pairsAfterPair 48 = .ok (.bipush 8, 2) := by decide +kernel
theorem dX0_pairsAfterPair_50 : decode cX0_pairsAfterPair 50 = .ok (.iload 6, 2) := by decide +kernel
theorem dX0_pairsAfterPair_52 : decode cX0_pairsAfterPair 52 = .ok (.iload 7, 2) := by decide +kernel
theorem dX0_pairsAfterPair_54 : decode cX0_pairsAfterPair 54 = .ok (.invokestatic 187, 3) := by decide +kernel
theorem dX0_pairsAfterPair_57 : decode cX0_pairsAfterPair 57 = .ok (.imul, 1) := by decide +kernel
theorem dX0_pairsAfterPair_58 : decode cX0_pairsAfterPair 58 = .ok (.iload 6, 2) := by decide +kernel
theorem dX0_pairsAfterPair_60 : decode cX0_pairsAfterPair 60 = .ok (.iload 7, 2) := by decide +kernel
theorem dX0_pairsAfterPair_62 : decode cX0_pairsAfterPair 62 = .ok (.invokestatic 122, 3) := by decide +kernel
theorem dX0_pairsAfterPair_65 : decode cX0_pairsAfterPair 65 = .ok (.iadd, 1) := by decide +kernel
theorem dX0_pairsAfterPair_66 : decode cX0_pairsAfterPair 66 = .ok (.lshl, 1) := by decide +kernel
theorem dX0_pairsAfterPair_67 : decode cX0_pairsAfterPair 67 = .ok (.lor, 1) := by decide +kernel
theorem dX0_pairsAfterPair_68 : decode cX0_pairsAfterPair 68 = .ok (.lstore_n 3, 1) := by decide +kernel
theorem dX0_pairsAfterPair_69 : decode cX0_pairsAfterPair 69 = .ok (.iinc 5 1, 3) := by decide +kernel
theorem dX0_pairsAfterPair_72 : decode cX0_pairsAfterPair 72 = .ok (.goto (-67), 3) := by decide +kernel
theorem dX0_pairsAfterPair_75 : decode cX0_pairsAfterPair 75 = .ok (.lload_n 3, 1) := by decide +kernel
theorem dX0_pairsAfterPair_76 : decode cX0_pairsAfterPair 76 = .ok (.lreturn, 1) := by decide +kernel
theorem dX1_init_0 : decode cX1_init 0 = .ok (.aload_n 0, 1) := by decide +kernel
theorem dX1_init_1 : decode cX1_init 1 = .ok (.invokespecial 3, 3) := by decide +kernel
theorem dX1_init_4 : decode cX1_init 4 = .ok (.aload_n 0, 1) := by decide +kernel
theorem dX1_init_5 : decode cX1_init 5 = .ok (.bipush 32, 2) := by decide +kernel
theorem dX1_init_7 : decode cX1_init 7 = .ok (.newarray .int, 2) := by decide +kernel
theorem dX1_init_9 : decode cX1_init 9 = .ok (.putfield 9, 3) := by decide +kernel
theorem dX1_init_12 : decode cX1_init 12 = .ok (.return_, 1) := by decide +kernel
theorem dX1_clear_0 : decode cX1_clear 0 = .ok (.aload_n 0, 1) := by decide +kernel
theorem dX1_clear_1 : decode cX1_clear 1 = .ok (.getfield 9, 3) := by decide +kernel
theorem dX1_clear_4 : decode cX1_clear 4 = .ok (.iconst 0, 1) := by decide +kernel
theorem dX1_clear_5 : decode cX1_clear 5 = .ok (.invokestatic 15, 3) := by decide +kernel
theorem dX1_clear_8 : decode cX1_clear 8 = .ok (.return_, 1) := by decide +kernel
theorem dX1_copyOf_0 : decode cX1_copyOf 0 = .ok (.aload_n 1, 1) := by decide +kernel
theorem dX1_copyOf_1 : decode cX1_copyOf 1 = .ok (.getfield 9, 3) := by decide +kernel
theorem dX1_copyOf_4 : decode cX1_copyOf 4 = .ok (.iconst 0, 1) := by decide +kernel
theorem dX1_copyOf_5 : decode cX1_copyOf 5 = .ok (.aload_n 0, 1) := by decide +kernel
theorem dX1_copyOf_6 : decode cX1_copyOf 6 = .ok (.getfield 9, 3) := by decide +kernel
theorem dX1_copyOf_9 : decode cX1_copyOf 9 = .ok (.iconst 0, 1) := by decide +kernel
theorem dX1_copyOf_10 : decode cX1_copyOf 10 = .ok (.bipush 32, 2) := by decide +kernel
theorem dX1_copyOf_12 : decode cX1_copyOf 12 = .ok (.invokestatic 21, 3) := by decide +kernel
theorem dX1_copyOf_15 : decode cX1_copyOf 15 = .ok (.return_, 1) := by decide +kernel
theorem dX1_row_0 : decode cX1_row 0 = .ok (.iload_n 1, 1) := by decide +kernel
theorem dX1_row_1 : decode cX1_row 1 = .ok (.ifCond .lt 22, 3) := by decide +kernel
theorem dX1_row_4 : decode cX1_row 4 = .ok (.iload_n 1, 1) := by decide +kernel
theorem dX1_row_5 : decode cX1_row 5 = .ok (.bipush 8, 2) := by decide +kernel
theorem dX1_row_7 : decode cX1_row 7 = .ok (.if_icmp .ge 16, 3) := by decide +kernel
theorem dX1_row_10 : decode cX1_row 10 = .ok (.iload_n 2, 1) := by decide +kernel
theorem dX1_row_11 : decode cX1_row 11 = .ok (.ifCond .lt 12, 3) := by decide +kernel
theorem dX1_row_14 : decode cX1_row 14 = .ok (.iload_n 2, 1) := by decide +kernel
theorem dX1_row_15 : decode cX1_row 15 = .ok (.iconst 4, 1) := by decide +kernel
theorem dX1_row_16 : decode cX1_row 16 = .ok (.if_icmp .ge 7, 3) := by decide +kernel
theorem dX1_row_19 : decode cX1_row 19 = .ok (.iconst 1, 1) := by decide +kernel
theorem dX1_row_20 : decode cX1_row 20 = .ok (.goto 4, 3) := by decide +kernel
theorem dX1_row_23 : decode cX1_row 23 = .ok (.iconst 0, 1) := by decide +kernel
theorem dX1_row_24 : decode cX1_row 24 = .ok (.istore_n 3, 1) := by decide +kernel
theorem dX1_row_25 : decode cX1_row 25 = .ok (.iload_n 3, 1) := by decide +kernel
theorem dX1_row_26 : decode cX1_row 26 = .ok (.ifCond .eq 16, 3) := by decide +kernel
theorem dX1_row_29 : decode cX1_row 29 = .ok (.aload_n 0, 1) := by decide +kernel
theorem dX1_row_30 : decode cX1_row 30 = .ok (.getfield 9, 3) := by decide +kernel
theorem dX1_row_33 : decode cX1_row 33 = .ok (.iconst 4, 1) := by decide +kernel
theorem dX1_row_34 : decode cX1_row 34 = .ok (.iload_n 1, 1) := by decide +kernel
theorem dX1_row_35 : decode cX1_row 35 = .ok (.imul, 1) := by decide +kernel
theorem dX1_row_36 : decode cX1_row 36 = .ok (.iload_n 2, 1) := by decide +kernel
theorem dX1_row_37 : decode cX1_row 37 = .ok (.iadd, 1) := by decide +kernel
theorem dX1_row_38 : decode cX1_row 38 = .ok (.iaload, 1) := by decide +kernel
theorem dX1_row_39 : decode cX1_row 39 = .ok (.goto 4, 3) := by decide +kernel
theorem dX1_row_42 : decode cX1_row 42 = .ok (.iconst 0, 1) := by decide +kernel
theorem dX1_row_43 : decode cX1_row 43 = .ok (.ireturn, 1) := by decide +kernel
theorem dX1_link_0 : decode cX1_link 0 = .ok (.iload_n 1, 1) := by decide +kernel
theorem dX1_link_1 : decode cX1_link 1 = .ok (.invokestatic 27, 3) := by decide +kernel
theorem dX1_link_4 : decode cX1_link 4 = .ok (.ifCond .eq 28, 3) := by decide +kernel
theorem dX1_link_7 : decode cX1_link 7 = .ok (.iload_n 2, 1) := by decide +kernel
theorem dX1_link_8 : decode cX1_link 8 = .ok (.invokestatic 31, 3) := by decide +kernel
theorem dX1_link_11 : decode cX1_link 11 = .ok (.ifCond .eq 21, 3) := by decide +kernel
theorem dX1_link_14 : decode cX1_link 14 = .ok (.aload_n 0, 1) := by decide +kernel
theorem dX1_link_15 : decode cX1_link 15 = .ok (.getfield 9, 3) := by decide +kernel
theorem dX1_link_18 : decode cX1_link 18 = .ok (.iconst 4, 1) := by decide +kernel
theorem dX1_link_19 : decode cX1_link 19 = .ok (.iload_n 1, 1) := by decide +kernel
theorem dX1_link_20 : decode cX1_link 20 = .ok (.imul, 1) := by decide +kernel
theorem dX1_link_21 : decode cX1_link 21 = .ok (.iload_n 2, 1) := by decide +kernel
theorem dX1_link_22 : decode cX1_link 22 = .ok (.iadd, 1) := by decide +kernel
theorem dX1_link_23 : decode cX1_link 23 = .ok (.dup2, 1) := by decide +kernel
theorem dX1_link_24 : decode cX1_link 24 = .ok (.iaload, 1) := by decide +kernel
theorem dX1_link_25 : decode cX1_link 25 = .ok (.iload_n 3, 1) := by decide +kernel
theorem dX1_link_26 : decode cX1_link 26 = .ok (.sipush 255, 3) := by decide +kernel
theorem dX1_link_29 : decode cX1_link 29 = .ok (.iand, 1) := by decide +kernel
theorem dX1_link_30 : decode cX1_link 30 = .ok (.ior, 1) := by decide +kernel
theorem dX1_link_31 : decode cX1_link 31 = .ok (.iastore, 1) := by decide +kernel
theorem dX1_link_32 : decode cX1_link 32 = .ok (.return_, 1) := by decide +kernel
theorem dX1_put_0 : decode cX1_put 0 = .ok (.iload_n 3, 1) := by decide +kernel
theorem dX1_put_1 : decode cX1_put 1 = .ok (.invokestatic 27, 3) := by decide +kernel
theorem dX1_put_4 : decode cX1_put 4 = .ok (.ifCond .eq 12, 3) := by decide +kernel
theorem dX1_put_7 : decode cX1_put 7 = .ok (.aload_n 0, 1) := by decide +kernel
theorem dX1_put_8 : decode cX1_put 8 = .ok (.iload_n 1, 1) := by decide +kernel
theorem dX1_put_9 : decode cX1_put 9 = .ok (.iload_n 2, 1) := by decide +kernel
theorem dX1_put_10 : decode cX1_put 10 = .ok (.iconst 1, 1) := by decide +kernel
theorem dX1_put_11 : decode cX1_put 11 = .ok (.iload_n 3, 1) := by decide +kernel
theorem dX1_put_12 : decode cX1_put 12 = .ok (.ishl, 1) := by decide +kernel
theorem dX1_put_13 : decode cX1_put 13 = .ok (.invokevirtual 34, 3) := by decide +kernel
theorem dX1_put_16 : decode cX1_put 16 = .ok (.return_, 1) := by decide +kernel
theorem dX1_drop_0 : decode cX1_drop 0 = .ok (.iload_n 1, 1) := by decide +kernel
theorem dX1_drop_1 : decode cX1_drop 1 = .ok (.invokestatic 27, 3) := by decide +kernel
theorem dX1_drop_4 : decode cX1_drop 4 = .ok (.ifCond .eq 35, 3) := by decide +kernel
theorem dX1_drop_7 : decode cX1_drop 7 = .ok (.iload_n 2, 1) := by decide +kernel
theorem dX1_drop_8 : decode cX1_drop 8 = .ok (.invokestatic 31, 3) := by decide +kernel
theorem dX1_drop_11 : decode cX1_drop 11 = .ok (.ifCond .eq 28, 3) := by decide +kernel
theorem dX1_drop_14 : decode cX1_drop 14 = .ok (.iload_n 3, 1) := by decide +kernel
theorem dX1_drop_15 : decode cX1_drop 15 = .ok (.invokestatic 27, 3) := by decide +kernel
theorem dX1_drop_18 : decode cX1_drop 18 = .ok (.ifCond .eq 21, 3) := by decide +kernel
theorem dX1_drop_21 : decode cX1_drop 21 = .ok (.aload_n 0, 1) := by decide +kernel
theorem dX1_drop_22 : decode cX1_drop 22 = .ok (.getfield 9, 3) := by decide +kernel
theorem dX1_drop_25 : decode cX1_drop 25 = .ok (.iconst 4, 1) := by decide +kernel
theorem dX1_drop_26 : decode cX1_drop 26 = .ok (.iload_n 1, 1) := by decide +kernel
theorem dX1_drop_27 : decode cX1_drop 27 = .ok (.imul, 1) := by decide +kernel
theorem dX1_drop_28 : decode cX1_drop 28 = .ok (.iload_n 2, 1) := by decide +kernel
theorem dX1_drop_29 : decode cX1_drop 29 = .ok (.iadd, 1) := by decide +kernel
theorem dX1_drop_30 : decode cX1_drop 30 = .ok (.dup2, 1) := by decide +kernel
theorem dX1_drop_31 : decode cX1_drop 31 = .ok (.iaload, 1) := by decide +kernel
theorem dX1_drop_32 : decode cX1_drop 32 = .ok (.iconst 1, 1) := by decide +kernel
theorem dX1_drop_33 : decode cX1_drop 33 = .ok (.iload_n 3, 1) := by decide +kernel
theorem dX1_drop_34 : decode cX1_drop 34 = .ok (.ishl, 1) := by decide +kernel
theorem dX1_drop_35 : decode cX1_drop 35 = .ok (.iconst (-1), 1) := by decide +kernel
theorem dX1_drop_36 : decode cX1_drop 36 = .ok (.ixor, 1) := by decide +kernel
theorem dX1_drop_37 : decode cX1_drop 37 = .ok (.iand, 1) := by decide +kernel
theorem dX1_drop_38 : decode cX1_drop 38 = .ok (.iastore, 1) := by decide +kernel
theorem dX1_drop_39 : decode cX1_drop 39 = .ok (.return_, 1) := by decide +kernel
theorem dX1_has_0 : decode cX1_has 0 = .ok (.iload_n 3, 1) := by decide +kernel
theorem dX1_has_1 : decode cX1_has 1 = .ok (.invokestatic 27, 3) := by decide +kernel
theorem dX1_has_4 : decode cX1_has 4 = .ok (.ifCond .eq 20, 3) := by decide +kernel
theorem dX1_has_7 : decode cX1_has 7 = .ok (.aload_n 0, 1) := by decide +kernel
theorem dX1_has_8 : decode cX1_has 8 = .ok (.iload_n 1, 1) := by decide +kernel
theorem dX1_has_9 : decode cX1_has 9 = .ok (.iload_n 2, 1) := by decide +kernel
theorem dX1_has_10 : decode cX1_has 10 = .ok (.invokevirtual 38, 3) := by decide +kernel
theorem dX1_has_13 : decode cX1_has 13 = .ok (.iload_n 3, 1) := by decide +kernel
theorem dX1_has_14 : decode cX1_has 14 = .ok (.ishr, 1) := by decide +kernel
theorem dX1_has_15 : decode cX1_has 15 = .ok (.iconst 1, 1) := by decide +kernel
theorem dX1_has_16 : decode cX1_has 16 = .ok (.iand, 1) := by decide +kernel
theorem dX1_has_17 : decode cX1_has 17 = .ok (.ifCond .eq 7, 3) := by decide +kernel
theorem dX1_has_20 : decode cX1_has 20 = .ok (.iconst 1, 1) := by decide +kernel
theorem dX1_has_21 : decode cX1_has 21 = .ok (.goto 4, 3) := by decide +kernel
theorem dX1_has_24 : decode cX1_has 24 = .ok (.iconst 0, 1) := by decide +kernel
theorem dX1_has_25 : decode cX1_has 25 = .ok (.ireturn, 1) := by decide +kernel
theorem dX1_countEdges_0 : decode cX1_countEdges 0 = .ok (.iconst 0, 1) := by decide +kernel
theorem dX1_countEdges_1 : decode cX1_countEdges 1 = .ok (.istore_n 1, 1) := by decide +kernel
theorem dX1_countEdges_2 : decode cX1_countEdges 2 = .ok (.iconst 0, 1) := by decide +kernel
theorem dX1_countEdges_3 : decode cX1_countEdges 3 = .ok (.istore_n 2, 1) := by decide +kernel
theorem dX1_countEdges_4 : decode cX1_countEdges 4 = .ok (.iload_n 2, 1) := by decide +kernel
theorem dX1_countEdges_5 : decode cX1_countEdges 5 = .ok (.bipush 32, 2) := by decide +kernel
theorem dX1_countEdges_7 : decode cX1_countEdges 7 = .ok (.if_icmp .ge 21, 3) := by decide +kernel
theorem dX1_countEdges_10 : decode cX1_countEdges 10 = .ok (.iload_n 1, 1) := by decide +kernel
theorem dX1_countEdges_11 : decode cX1_countEdges 11 = .ok (.aload_n 0, 1) := by decide +kernel
theorem dX1_countEdges_12 : decode cX1_countEdges 12 = .ok (.getfield 9, 3) := by decide +kernel
theorem dX1_countEdges_15 : decode cX1_countEdges 15 = .ok (.iload_n 2, 1) := by decide +kernel
theorem dX1_countEdges_16 : decode cX1_countEdges 16 = .ok (.iaload, 1) := by decide +kernel
theorem dX1_countEdges_17 : decode cX1_countEdges 17 = .ok (.invokestatic 42, 3) := by decide +kernel
theorem dX1_countEdges_20 : decode cX1_countEdges 20 = .ok (.iadd, 1) := by decide +kernel
theorem dX1_countEdges_21 : decode cX1_countEdges 21 = .ok (.istore_n 1, 1) := by decide +kernel
theorem dX1_countEdges_22 : decode cX1_countEdges 22 = .ok (.iinc 2 1, 3) := by decide +kernel
theorem dX1_countEdges_25 : decode cX1_countEdges 25 = .ok (.goto (-21), 3) := by decide +kernel
theorem dX1_countEdges_28 : decode cX1_countEdges 28 = .ok (.iload_n 1, 1) := by decide +kernel
theorem dX1_countEdges_29 : decode cX1_countEdges 29 = .ok (.ireturn, 1) := by decide +kernel
theorem dX1_follow_0 : decode cX1_follow 0 = .ok (.iconst 0, 1) := by decide +kernel
theorem dX1_follow_1 : decode cX1_follow 1 = .ok (.istore_n 3, 1) := by decide +kernel
theorem dX1_follow_2 : decode cX1_follow 2 = .ok (.iconst 0, 1) := by decide +kernel
theorem dX1_follow_3 : decode cX1_follow 3 = .ok (.istore 4, 2) := by decide +kernel
theorem dX1_follow_5 : decode cX1_follow 5 = .ok (.iload 4, 2) := by decide +kernel
theorem dX1_follow_7 : decode cX1_follow 7 = .ok (.bipush 8, 2) := by decide +kernel
theorem dX1_follow_9 : decode cX1_follow 9 = .ok (.if_icmp .ge 28, 3) := by decide +kernel
theorem dX1_follow_12 : decode cX1_follow 12 = .ok (.iload_n 1, 1) := by decide +kernel
theorem dX1_follow_13 : decode cX1_follow 13 = .ok (.iload 4, 2) := by decide +kernel
theorem dX1_follow_15 : decode cX1_follow 15 = .ok (.ishr, 1) := by decide +kernel
theorem dX1_follow_16 : decode cX1_follow 16 = .ok (.iconst 1, 1) := by decide +kernel
theorem dX1_follow_17 : decode cX1_follow 17 = .ok (.iand, 1) := by decide +kernel
theorem dX1_follow_18 : decode cX1_follow 18 = .ok (.ifCond .eq 13, 3) := by decide +kernel
theorem dX1_follow_21 : decode cX1_follow 21 = .ok (.iload_n 3, 1) := by decide +kernel
theorem dX1_follow_22 : decode cX1_follow 22 = .ok (.aload_n 0, 1) := by decide +kernel
theorem dX1_follow_23 : decode cX1_follow 23 = .ok (.iload 4, 2) := by decide +kernel
theorem dX1_follow_25 : decode cX1_follow 25 = .ok (.iload_n 2, 1) := by decide +kernel
theorem dX1_follow_26 : decode cX1_follow 26 = .ok (.invokevirtual 38, 3) := by decide +kernel
theorem dX1_follow_29 : decode cX1_follow 29 = .ok (.ior, 1) := by decide +kernel
theorem dX1_follow_30 : decode cX1_follow 30 = .ok (.istore_n 3, 1) := by decide +kernel
theorem dX1_follow_31 : decode cX1_follow 31 = .ok (.iinc 4 1, 3) := by decide +kernel
theorem dX1_follow_34 : decode cX1_follow 34 = .ok (.goto (-29), 3) := by decide +kernel
theorem dX1_follow_37 : decode cX1_follow 37 = .ok (.iload_n 3, 1) := by decide +kernel
theorem dX1_follow_38 : decode cX1_follow 38 = .ok (.ireturn, 1) := by decide +kernel
theorem dX1_exits_0 : decode cX1_exits 0 = .ok (.iconst 0, 1) := by decide +kernel
theorem dX1_exits_1 : decode cX1_exits 1 = .ok (.istore_n 2, 1) := by decide +kernel
theorem dX1_exits_2 : decode cX1_exits 2 = .ok (.iconst 0, 1) := by decide +kernel
theorem dX1_exits_3 : decode cX1_exits 3 = .ok (.istore_n 3, 1) := by decide +kernel
theorem dX1_exits_4 : decode cX1_exits 4 = .ok (.iload_n 3, 1) := by decide +kernel
theorem dX1_exits_5 : decode cX1_exits 5 = .ok (.iconst 4, 1) := by decide +kernel
theorem dX1_exits_6 : decode cX1_exits 6 = .ok (.if_icmp .ge 36, 3) := by decide +kernel
theorem dX1_exits_9 : decode cX1_exits 9 = .ok (.iload_n 2, 1) := by decide +kernel
theorem dX1_exits_10 : decode cX1_exits 10 = .ok (.iload_n 1, 1) := by decide +kernel
theorem dX1_exits_11 : decode cX1_exits 11 = .ok (.ifCond .lt 22, 3) := by decide +kernel
theorem dX1_exits_14 : decode cX1_exits 14 = .ok (.iload_n 1, 1) := by decide +kernel
theorem dX1_exits_15 : decode cX1_exits 15 = .ok (.bipush 8, 2) := by decide +kernel
theorem dX1_exits_17 : decode cX1_exits 17 = .ok (.if_icmp .ge 16, 3) := by decide +kernel
theorem dX1_exits_20 : decode cX1_exits 20 = .ok (.aload_n 0, 1) := by decide +kernel
theorem dX1_exits_21 : decode cX1_exits 21 = .ok (.getfield 9, 3) := by decide +kernel
theorem dX1_exits_24 : decode cX1_exits 24 = .ok (.iconst 4, 1) := by decide +kernel
theorem dX1_exits_25 : decode cX1_exits 25 = .ok (.iload_n 1, 1) := by decide +kernel
theorem dX1_exits_26 : decode cX1_exits 26 = .ok (.imul, 1) := by decide +kernel
theorem dX1_exits_27 : decode cX1_exits 27 = .ok (.iload_n 3, 1) := by decide +kernel
theorem dX1_exits_28 : decode cX1_exits 28 = .ok (.iadd, 1) := by decide +kernel
theorem dX1_exits_29 : decode cX1_exits 29 = .ok (.iaload, 1) := by decide +kernel
theorem dX1_exits_30 : decode cX1_exits 30 = .ok (.goto 4, 3) := by decide +kernel
theorem dX1_exits_33 : decode cX1_exits 33 = .ok (.iconst 0, 1) := by decide +kernel
theorem dX1_exits_34 : decode cX1_exits 34 = .ok (.ior, 1) := by decide +kernel
theorem dX1_exits_35 : decode cX1_exits 35 = .ok (.istore_n 2, 1) := by decide +kernel
theorem dX1_exits_36 : decode cX1_exits 36 = .ok (.iinc 3 1, 3) := by decide +kernel
theorem dX1_exits_39 : decode cX1_exits 39 = .ok (.goto (-35), 3) := by decide +kernel
theorem dX1_exits_42 : decode cX1_exits 42 = .ok (.iload_n 2, 1) := by decide +kernel
theorem dX1_exits_43 : decode cX1_exits 43 = .ok (.ireturn, 1) := by decide +kernel
theorem dX1_followAny_0 : decode cX1_followAny 0 = .ok (.iconst 0, 1) := by decide +kernel
theorem dX1_followAny_1 : decode cX1_followAny 1 = .ok (.istore_n 2, 1) := by decide +kernel
theorem dX1_followAny_2 : decode cX1_followAny 2 = .ok (.iconst 0, 1) := by decide +kernel
theorem dX1_followAny_3 : decode cX1_followAny 3 = .ok (.istore_n 3, 1) := by decide +kernel
theorem dX1_followAny_4 : decode cX1_followAny 4 = .ok (.iload_n 3, 1) := by decide +kernel
theorem dX1_followAny_5 : decode cX1_followAny 5 = .ok (.bipush 8, 2) := by decide +kernel
theorem dX1_followAny_7 : decode cX1_followAny 7 = .ok (.if_icmp .ge 25, 3) := by decide +kernel
theorem dX1_followAny_10 : decode cX1_followAny 10 = .ok (.iload_n 1, 1) := by decide +kernel
theorem dX1_followAny_11 : decode cX1_followAny 11 = .ok (.iload_n 3, 1) := by decide +kernel
theorem dX1_followAny_12 : decode cX1_followAny 12 = .ok (.ishr, 1) := by decide +kernel
theorem dX1_followAny_13 : decode cX1_followAny 13 = .ok (.iconst 1, 1) := by decide +kernel
theorem dX1_followAny_14 : decode cX1_followAny 14 = .ok (.iand, 1) := by decide +kernel
theorem dX1_followAny_15 : decode cX1_followAny 15 = .ok (.ifCond .eq 11, 3) := by decide +kernel
theorem dX1_followAny_18 : decode cX1_followAny 18 = .ok (.iload_n 2, 1) := by decide +kernel
theorem dX1_followAny_19 : decode cX1_followAny 19 = .ok (.aload_n 0, 1) := by decide +kernel
theorem dX1_followAny_20 : decode cX1_followAny 20 = .ok (.iload_n 3, 1) := by decide +kernel
theorem dX1_followAny_21 : decode cX1_followAny 21 = .ok (.invokevirtual 48, 3) := by decide +kernel
theorem dX1_followAny_24 : decode cX1_followAny 24 = .ok (.ior, 1) := by decide +kernel
theorem dX1_followAny_25 : decode cX1_followAny 25 = .ok (.istore_n 2, 1) := by decide +kernel
theorem dX1_followAny_26 : decode cX1_followAny 26 = .ok (.iinc 3 1, 3) := by decide +kernel
theorem dX1_followAny_29 : decode cX1_followAny 29 = .ok (.goto (-25), 3) := by decide +kernel
theorem dX1_followAny_32 : decode cX1_followAny 32 = .ok (.iload_n 2, 1) := by decide +kernel
theorem dX1_followAny_33 : decode cX1_followAny 33 = .ok (.ireturn, 1) := by decide +kernel
theorem dX1_verticesInto_0 : decode cX1_verticesInto 0 = .ok (.iconst 0, 1) := by decide +kernel
theorem dX1_verticesInto_1 : decode cX1_verticesInto 1 = .ok (.istore_n 2, 1) := by decide +kernel
theorem dX1_verticesInto_2 : decode cX1_verticesInto 2 = .ok (.iconst 0, 1) := by decide +kernel
theorem dX1_verticesInto_3 : decode cX1_verticesInto 3 = .ok (.istore_n 3, 1) := by decide +kernel
theorem dX1_verticesInto_4 : decode cX1_verticesInto 4 = .ok (.iload_n 3, 1) := by decide +kernel
theorem dX1_verticesInto_5 : decode cX1_verticesInto 5 = .ok (.bipush 8, 2) := by decide +kernel
theorem dX1_verticesInto_7 : decode cX1_verticesInto 7 = .ok (.if_icmp .ge 25, 3) := by decide +kernel
theorem dX1_verticesInto_10 : decode cX1_verticesInto 10 = .ok (.aload_n 0, 1) := by decide +kernel
theorem dX1_verticesInto_11 : decode cX1_verticesInto 11 = .ok (.iload_n 3, 1) := by decide +kernel
theorem dX1_verticesInto_12 : decode cX1_verticesInto 12 = .ok (.invokevirtual 48, 3) := by decide +kernel
theorem dX1_verticesInto_15 : decode cX1_verticesInto 15 = .ok (.iload_n 1, 1) := by decide +kernel
theorem dX1_verticesInto_16 : decode cX1_verticesInto 16 = .ok (.iand, 1) := by decide +kernel
theorem dX1_verticesInto_17 : decode cX1_verticesInto 17 = .ok (.ifCond .eq 9, 3) := by decide +kernel
theorem dX1_verticesInto_20 : decode cX1_verticesInto 20 = .ok (.iload_n 2, 1) := by decide +kernel
theorem dX1_verticesInto_21 : decode cX1_verticesInto 21 = .ok (.iconst 1, 1) := by decide +kernel
theorem dX1_verticesInto_22 : decode cX1_verticesInto 22 = .ok (.iload_n 3, 1) := by decide +kernel
theorem dX1_verticesInto_23 : decode cX1_verticesInto 23 = .ok (.ishl, 1) := by decide +kernel
theorem dX1_verticesInto_24 : decode cX1_verticesInto 24 = .ok (.ior, 1) := by decide +kernel
theorem dX1_verticesInto_25 : decode cX1_verticesInto 25 = .ok (.istore_n 2, 1) := by decide +kernel
theorem dX1_verticesInto_26 : decode cX1_verticesInto 26 = .ok (.iinc 3 1, 3) := by decide +kernel
theorem dX1_verticesInto_29 : decode cX1_verticesInto 29 = .ok (.goto (-25), 3) := by decide +kernel
theorem dX1_verticesInto_32 : decode cX1_verticesInto 32 = .ok (.iload_n 2, 1) := by decide +kernel
theorem dX1_verticesInto_33 : decode cX1_verticesInto 33 = .ok (.ireturn, 1) := by decide +kernel
theorem dX1_core_0 : decode cX1_core 0 = .ok (.sipush 255, 3) := by decide +kernel
theorem dX1_core_3 : decode cX1_core 3 = .ok (.istore_n 1, 1) := by decide +kernel
theorem dX1_core_4 : decode cX1_core 4 = .ok (.iconst 1, 1) := by decide +kernel
theorem dX1_core_5 : decode cX1_core 5 = .ok (.istore_n 2, 1) := by decide +kernel
theorem dX1_core_6 : decode cX1_core 6 = .ok (.iconst 0, 1) := by decide +kernel
theorem dX1_core_7 : decode cX1_core 7 = .ok (.istore_n 3, 1) := by decide +kernel
theorem dX1_core_8 : decode cX1_core 8 = .ok (.iload_n 3, 1) := by decide +kernel
theorem dX1_core_9 : decode cX1_core 9 = .ok (.bipush 8, 2) := by decide +kernel
theorem dX1_core_11 : decode cX1_core 11 = .ok (.if_icmp .gt 43, 3) := by decide +kernel
theorem dX1_core_14 : decode cX1_core 14 = .ok (.iload_n 2, 1) := by decide +kernel
theorem dX1_core_15 : decode cX1_core 15 = .ok (.ifCond .eq 39, 3) := by decide +kernel
theorem dX1_core_18 : decode cX1_core 18 = .ok (.iload_n 1, 1) := by decide +kernel
theorem dX1_core_19 : decode cX1_core 19 = .ok (.aload_n 0, 1) := by decide +kernel
theorem dX1_core_20 : decode cX1_core 20 = .ok (.iload_n 1, 1) := by decide +kernel
theorem dX1_core_21 : decode cX1_core 21 = .ok (.invokevirtual 51, 3) := by decide +kernel
theorem dX1_core_24 : decode cX1_core 24 = .ok (.iand, 1) := by decide +kernel
theorem dX1_core_25 : decode cX1_core 25 = .ok (.aload_n 0, 1) := by decide +kernel
theorem dX1_core_26 : decode cX1_core 26 = .ok (.iload_n 1, 1) := by decide +kernel
theorem dX1_core_27 : decode cX1_core 27 = .ok (.invokevirtual 54, 3) := by decide +kernel
theorem dX1_core_30 : decode cX1_core 30 = .ok (.iand, 1) := by decide +kernel
theorem dX1_core_31 : decode cX1_core 31 = .ok (.istore 4, 2) := by decide +kernel
theorem dX1_core_33 : decode cX1_core 33 = .ok (.iload 4, 2) := by decide +kernel
theorem dX1_core_35 : decode cX1_core 35 = .ok (.iload_n 1, 1) := by decide +kernel
theorem dX1_core_36 : decode cX1_core 36 = .ok (.if_icmp .eq 7, 3) := by decide +kernel
theorem dX1_core_39 : decode cX1_core 39 = .ok (.iconst 1, 1) := by decide +kernel
theorem dX1_core_40 : decode cX1_core 40 = .ok (.goto 4, 3) := by decide +kernel
theorem dX1_core_43 : decode cX1_core 43 = .ok (.iconst 0, 1) := by decide +kernel
theorem dX1_core_44 : decode cX1_core 44 = .ok (.istore_n 2, 1) := by decide +kernel
theorem dX1_core_45 : decode cX1_core 45 = .ok (.iload 4, 2) := by decide +kernel
theorem dX1_core_47 : decode cX1_core 47 = .ok (.istore_n 1, 1) := by decide +kernel
theorem dX1_core_48 : decode cX1_core 48 = .ok (.iinc 3 1, 3) := by decide +kernel
theorem dX1_core_51 : decode cX1_core 51 = .ok (.goto (-43), 3) := by decide +kernel
theorem dX1_core_54 : decode cX1_core 54 = .ok (.iload_n 1, 1) := by decide +kernel
theorem dX1_core_55 : decode cX1_core 55 = .ok (.ireturn, 1) := by decide +kernel
theorem dX1_copyCoreOf_0 : decode cX1_copyCoreOf 0 = .ok (.aload_n 1, 1) := by decide +kernel
theorem dX1_copyCoreOf_1 : decode cX1_copyCoreOf 1 = .ok (.invokevirtual 57, 3) := by decide +kernel
theorem dX1_copyCoreOf_4 : decode cX1_copyCoreOf 4 = .ok (.istore_n 2, 1) := by decide +kernel
theorem dX1_copyCoreOf_5 : decode cX1_copyCoreOf 5 = .ok (.iconst 0, 1) := by decide +kernel
theorem dX1_copyCoreOf_6 : decode cX1_copyCoreOf 6 = .ok (.istore_n 3, 1) := by decide +kernel
theorem dX1_copyCoreOf_7 : decode cX1_copyCoreOf 7 = .ok (.iload_n 3, 1) := by decide +kernel
theorem dX1_copyCoreOf_8 : decode cX1_copyCoreOf 8 = .ok (.bipush 8, 2) := by decide +kernel
theorem dX1_copyCoreOf_10 : decode cX1_copyCoreOf 10 = .ok (.if_icmp .ge 68, 3) := by decide +kernel
theorem dX1_copyCoreOf_13 : decode cX1_copyCoreOf 13 = .ok (.iload_n 2, 1) := by decide +kernel
theorem dX1_copyCoreOf_14 : decode cX1_copyCoreOf 14 = .ok (.iload_n 3, 1) := by decide +kernel
theorem dX1_copyCoreOf_15 : decode cX1_copyCoreOf 15 = .ok (.ishr, 1) := by decide +kernel
theorem dX1_copyCoreOf_16 : decode cX1_copyCoreOf 16 = .ok (.iconst 1, 1) := by decide +kernel
theorem dX1_copyCoreOf_17 : decode cX1_copyCoreOf 17 = .ok (.iand, 1) := by decide +kernel
theorem dX1_copyCoreOf_18 : decode cX1_copyCoreOf 18 = .ok (.ifCond .eq 7, 3) := by decide +kernel
theorem dX1_copyCoreOf_21 : decode cX1_copyCoreOf 21 = .ok (.iconst 1, 1) := by decide +kernel
theorem dX1_copyCoreOf_22 : decode cX1_copyCoreOf 22 = .ok (.goto 4, 3) := by decide +kernel
theorem dX1_copyCoreOf_25 : decode cX1_copyCoreOf 25 = .ok (.iconst 0, 1) := by decide +kernel
theorem dX1_copyCoreOf_26 : decode cX1_copyCoreOf 26 = .ok (.istore 4, 2) := by decide +kernel
theorem dX1_copyCoreOf_28 : decode cX1_copyCoreOf 28 = .ok (.iconst 0, 1) := by decide +kernel
theorem dX1_copyCoreOf_29 : decode cX1_copyCoreOf 29 = .ok (.istore 5, 2) := by decide +kernel
theorem dX1_copyCoreOf_31 : decode cX1_copyCoreOf 31 = .ok (.iload 5, 2) := by decide +kernel
theorem dX1_copyCoreOf_33 : decode cX1_copyCoreOf 33 = .ok (.iconst 4, 1) := by decide +kernel
theorem dX1_copyCoreOf_34 : decode cX1_copyCoreOf 34 = .ok (.if_icmp .ge 38, 3) := by decide +kernel
theorem dX1_copyCoreOf_37 : decode cX1_copyCoreOf 37 = .ok (.aload_n 0, 1) := by decide +kernel
theorem dX1_copyCoreOf_38 : decode cX1_copyCoreOf 38 = .ok (.getfield 9, 3) := by decide +kernel
theorem dX1_copyCoreOf_41 : decode cX1_copyCoreOf 41 = .ok (.iconst 4, 1) := by decide +kernel
theorem dX1_copyCoreOf_42 : decode cX1_copyCoreOf 42 = .ok (.iload_n 3, 1) := by decide +kernel
theorem dX1_copyCoreOf_43 : decode cX1_copyCoreOf 43 = .ok (.imul, 1) := by decide +kernel
theorem dX1_copyCoreOf_44 : decode cX1_copyCoreOf 44 = .ok (.iload 5, 2) := by decide +kernel
theorem dX1_copyCoreOf_46 : decode cX1_copyCoreOf 46 = .ok (.iadd, 1) := by decide +kernel
theorem dX1_copyCoreOf_47 : decode cX1_copyCoreOf 47 = .ok (.iload 4, 2) := by decide +kernel
theorem dX1_copyCoreOf_49 : decode cX1_copyCoreOf 49 = .ok (.ifCond .eq 15, 3) := by decide +kernel
theorem dX1_copyCoreOf_52 : decode cX1_copyCoreOf 52 = .ok (.aload_n 1, 1) := by decide +kernel
theorem dX1_copyCoreOf_53 : decode cX1_copyCoreOf 53 = .ok (.iload_n 3, 1) := by decide +kernel
theorem dX1_copyCoreOf_54 : decode cX1_copyCoreOf 54 = .ok (.iload 5, 2) := by decide +kernel
theorem dX1_copyCoreOf_56 : decode cX1_copyCoreOf 56 = .ok (.invokevirtual 38, 3) := by decide +kernel
theorem dX1_copyCoreOf_59 : decode cX1_copyCoreOf 59 = .ok (.iload_n 2, 1) := by decide +kernel
theorem dX1_copyCoreOf_60 : decode cX1_copyCoreOf 60 = .ok (.iand, 1) := by decide +kernel
theorem dX1_copyCoreOf_61 : decode cX1_copyCoreOf 61 = .ok (.goto 4, 3) := by decide +kernel
theorem dX1_copyCoreOf_64 : decode cX1_copyCoreOf 64 = .ok (.iconst 0, 1) := by decide +kernel
theorem dX1_copyCoreOf_65 : decode cX1_copyCoreOf 65 = .ok (.iastore, 1) := by decide +kernel
theorem dX1_copyCoreOf_66 : decode cX1_copyCoreOf 66 = .ok (.iinc 5 1, 3) := by decide +kernel
theorem dX1_copyCoreOf_69 : decode cX1_copyCoreOf 69 = .ok (.goto (-38), 3) := by decide +kernel
theorem dX1_copyCoreOf_72 : decode cX1_copyCoreOf 72 = .ok (.iinc 3 1, 3) := by decide +kernel
theorem dX1_copyCoreOf_75 : decode cX1_copyCoreOf 75 = .ok (.goto (-68), 3) := by decide +kernel
theorem dX1_copyCoreOf_78 : decode cX1_copyCoreOf 78 = .ok (.return_, 1) := by decide +kernel
theorem dX1_isStronglyConnected_0 : decode cX1_isStronglyConnected 0 = .ok (.aload_n 0, 1) := by decide +kernel
theorem dX1_isStronglyConnected_1 : decode cX1_isStronglyConnected 1 = .ok (.invokevirtual 57, 3) := by decide +kernel
theorem dX1_isStronglyConnected_4 : decode cX1_isStronglyConnected 4 = .ok (.istore_n 1, 1) := by decide +kernel
theorem dX1_isStronglyConnected_5 : decode cX1_isStronglyConnected 5 = .ok (.iload_n 1, 1) := by decide +kernel
theorem dX1_isStronglyConnected_6 : decode cX1_isStronglyConnected 6 = .ok (.iload_n 1, 1) := by decide +kernel
theorem dX1_isStronglyConnected_7 : decode cX1_isStronglyConnected 7 = .ok (.ineg, 1) := by decide +kernel
theorem dX1_isStronglyConnected_8 : decode cX1_isStronglyConnected 8 = .ok (.iand, 1) := by decide +kernel
theorem dX1_isStronglyConnected_9 : decode cX1_isStronglyConnected 9 = .ok (.istore_n 2, 1) := by decide +kernel
theorem dX1_isStronglyConnected_10 : decode cX1_isStronglyConnected 10 = .ok (.iload_n 2, 1) := by decide +kernel
theorem dX1_isStronglyConnected_11 : decode cX1_isStronglyConnected 11 = .ok (.istore_n 3, 1) := by decide +kernel
theorem dX1_isStronglyConnected_12 : decode cX1_isStronglyConnected 12 = .ok (.iconst 0, 1) := by decide +kernel
theorem dX1_isStronglyConnected_13 : decode cX1_isStronglyConnected 13 = .ok (.istore 4, 2) := by decide +kernel
theorem dX1_isStronglyConnected_15 : decode cX1_isStronglyConnected 15 = .ok (.iload 4, 2) := by decide +kernel
theorem dX1_isStronglyConnected_17 : decode cX1_isStronglyConnected 17 = .ok (.bipush 8, 2) := by decide +kernel
theorem dX1_isStronglyConnected_19 : decode cX1_isStronglyConnected 19 = .ok (.if_icmp .ge 25, 3) := by decide +kernel
theorem dX1_isStronglyConnected_22 : decode cX1_isStronglyConnected 22 = .ok (.iload_n 2, 1) := by decide +kernel
theorem dX1_isStronglyConnected_23 : decode cX1_isStronglyConnected 23 = .ok (.aload_n 0, 1) := by decide +kernel
theorem dX1_isStronglyConnected_24 : decode cX1_isStronglyConnected 24 = .ok (.iload_n 2, 1) := by decide +kernel
theorem dX1_isStronglyConnected_25 : decode cX1_isStronglyConnected 25 = .ok (.invokevirtual 51, 3) := by decide +kernel
theorem dX1_isStronglyConnected_28 : decode cX1_isStronglyConnected 28 = .ok (.ior, 1) := by decide +kernel
theorem dX1_isStronglyConnected_29 : decode cX1_isStronglyConnected 29 = .ok (.istore_n 2, 1) := by decide +kernel
theorem dX1_isStronglyConnected_30 : decode cX1_isStronglyConnected 30 = .ok (.iload_n 3, 1) := by decide +kernel
theorem dX1_isStronglyConnected_31 : decode cX1_isStronglyConnected 31 = .ok (.aload_n 0, 1) := by decide +kernel
theorem dX1_isStronglyConnected_32 : decode cX1_isStronglyConnected 32 = .ok (.iload_n 3, 1) := by decide +kernel
theorem dX1_isStronglyConnected_33 : decode cX1_isStronglyConnected 33 = .ok (.invokevirtual 54, 3) := by decide +kernel
theorem dX1_isStronglyConnected_36 : decode cX1_isStronglyConnected 36 = .ok (.ior, 1) := by decide +kernel
theorem dX1_isStronglyConnected_37 : decode cX1_isStronglyConnected 37 = .ok (.istore_n 3, 1) := by decide +kernel
theorem dX1_isStronglyConnected_38 : decode cX1_isStronglyConnected 38 = .ok (.iinc 4 1, 3) := by decide +kernel
theorem dX1_isStronglyConnected_41 : decode cX1_isStronglyConnected 41 = .ok (.goto (-26), 3) := by decide +kernel
theorem dX1_isStronglyConnected_44 : decode cX1_isStronglyConnected 44 = .ok (.iload_n 1, 1) := by decide +kernel
theorem dX1_isStronglyConnected_45 : decode cX1_isStronglyConnected 45 = .ok (.ifCond .eq 17, 3) := by decide +kernel
theorem dX1_isStronglyConnected_48 : decode cX1_isStronglyConnected 48 = .ok (.iload_n 2, 1) := by decide +kernel
theorem dX1_isStronglyConnected_49 : decode cX1_isStronglyConnected 49 = .ok (.iload_n 1, 1) := by decide +kernel
theorem dX1_isStronglyConnected_50 : decode cX1_isStronglyConnected 50 = .ok (.if_icmp .ne 12, 3) := by decide +kernel
theorem dX1_isStronglyConnected_53 : decode cX1_isStronglyConnected 53 = .ok (.iload_n 3, 1) := by decide +kernel
theorem dX1_isStronglyConnected_54 : decode cX1_isStronglyConnected 54 = .ok (.iload_n 1, 1) := by decide +kernel
theorem dX1_isStronglyConnected_55 : decode cX1_isStronglyConnected 55 = .ok (.if_icmp .ne 7, 3) := by decide +kernel
theorem dX1_isStronglyConnected_58 : decode cX1_isStronglyConnected 58 = .ok (.iconst 1, 1) := by decide +kernel
theorem dX1_isStronglyConnected_59 : decode cX1_isStronglyConnected 59 = .ok (.goto 4, 3) := by decide +kernel
theorem dX1_isStronglyConnected_62 : decode cX1_isStronglyConnected 62 = .ok (.iconst 0, 1) := by decide +kernel
theorem dX1_isStronglyConnected_63 : decode cX1_isStronglyConnected 63 = .ok (.ireturn, 1) := by decide +kernel
theorem dX1_cycleDivisor_0 : decode cX1_cycleDivisor 0 = .ok (.lconst 0, 1) := by decide +kernel
theorem dX1_cycleDivisor_1 : decode cX1_cycleDivisor 1 = .ok (.lstore_n 1, 1) := by decide +kernel
theorem dX1_cycleDivisor_2 : decode cX1_cycleDivisor 2 = .ok (.iconst 0, 1) := by decide +kernel
theorem dX1_cycleDivisor_3 : decode cX1_cycleDivisor 3 = .ok (.istore_n 3, 1) := by decide +kernel
theorem dX1_cycleDivisor_4 : decode cX1_cycleDivisor 4 = .ok (.iload_n 3, 1) := by decide +kernel
theorem dX1_cycleDivisor_5 : decode cX1_cycleDivisor 5 = .ok (.bipush 8, 2) := by decide +kernel
theorem dX1_cycleDivisor_7 : decode cX1_cycleDivisor 7 = .ok (.if_icmp .ge 55, 3) := by decide +kernel
theorem dX1_cycleDivisor_10 : decode cX1_cycleDivisor 10 = .ok (.iconst 1, 1) := by decide +kernel
theorem dX1_cycleDivisor_11 : decode cX1_cycleDivisor 11 = .ok (.iload_n 3, 1) := by decide +kernel
theorem dX1_cycleDivisor_12 : decode cX1_cycleDivisor 12 = .ok (.ishl, 1) := by decide +kernel
theorem dX1_cycleDivisor_13 : decode cX1_cycleDivisor 13 = .ok (.istore 4, 2) := by decide +kernel
theorem dX1_cycleDivisor_15 : decode cX1_cycleDivisor 15 = .ok (.iconst 1, 1) := by decide +kernel
theorem dX1_cycleDivisor_16 : decode cX1_cycleDivisor 16 = .ok (.istore 5, 2) := by decide +kernel
theorem dX1_cycleDivisor_18 : decode cX1_cycleDivisor 18 = .ok (.iload 5, 2) := by decide +kernel
theorem dX1_cycleDivisor_20 : decode cX1_cycleDivisor 20 = .ok (.bipush 8, 2) := by decide +kernel
theorem dX1_cycleDivisor_22 : decode cX1_cycleDivisor 22 = .ok (.if_icmp .gt 34, 3) := by decide +kernel
theorem dX1_cycleDivisor_25 : decode cX1_cycleDivisor 25 = .ok (.aload_n 0, 1) := by decide +kernel
theorem dX1_cycleDivisor_26 : decode cX1_cycleDivisor 26 = .ok (.iload 4, 2) := by decide +kernel
theorem dX1_cycleDivisor_28 : decode cX1_cycleDivisor 28 = .ok (.invokevirtual 51, 3) := by decide +kernel
theorem dX1_cycleDivisor_31 : decode cX1_cycleDivisor 31 = .ok (.istore 4, 2) := by decide +kernel
theorem dX1_cycleDivisor_33 : decode cX1_cycleDivisor 33 = .ok (.iload 4, 2) := by decide +kernel
theorem dX1_cycleDivisor_35 : decode cX1_cycleDivisor 35 = .ok (.iload_n 3, 1) := by decide +kernel
theorem dX1_cycleDivisor_36 : decode cX1_cycleDivisor 36 = .ok (.ishr, 1) := by decide +kernel
theorem dX1_cycleDivisor_37 : decode cX1_cycleDivisor 37 = .ok (.iconst 1, 1) := by decide +kernel
theorem dX1_cycleDivisor_38 : decode cX1_cycleDivisor 38 = .ok (.iand, 1) := by decide +kernel
theorem dX1_cycleDivisor_39 : decode cX1_cycleDivisor 39 = .ok (.ifCond .eq 11, 3) := by decide +kernel
theorem dX1_cycleDivisor_42 : decode cX1_cycleDivisor 42 = .ok (.iload 5, 2) := by decide +kernel
theorem dX1_cycleDivisor_44 : decode cX1_cycleDivisor 44 = .ok (.i2l, 1) := by decide +kernel
theorem dX1_cycleDivisor_45 : decode cX1_cycleDivisor 45 = .ok (.lload_n 1, 1) := by decide +kernel
theorem dX1_cycleDivisor_46 : decode cX1_cycleDivisor 46 = .ok (.invokestatic 61, 3) := by decide +kernel
theorem dX1_cycleDivisor_49 : decode cX1_cycleDivisor 49 = .ok (.lstore_n 1, 1) := by decide +kernel
theorem dX1_cycleDivisor_50 : decode cX1_cycleDivisor 50 = .ok (.iinc 5 1, 3) := by decide +kernel
theorem dX1_cycleDivisor_53 : decode cX1_cycleDivisor 53 = .ok (.goto (-35), 3) := by decide +kernel
theorem dX1_cycleDivisor_56 : decode cX1_cycleDivisor 56 = .ok (.iinc 3 1, 3) := by decide +kernel
theorem dX1_cycleDivisor_59 : decode cX1_cycleDivisor 59 = .ok (.goto (-55), 3) := by decide +kernel
theorem dX1_cycleDivisor_62 : decode cX1_cycleDivisor 62 = .ok (.lload_n 1, 1) := by decide +kernel
theorem dX1_cycleDivisor_63 : decode cX1_cycleDivisor 63 = .ok (.l2i, 1) := by decide +kernel
theorem dX1_cycleDivisor_64 : decode cX1_cycleDivisor 64 = .ok (.ireturn, 1) := by decide +kernel
theorem dX2_init_0 : decode cX2_init 0 = .ok (.aload_n 0, 1) := by decide +kernel
theorem dX2_init_1 : decode cX2_init 1 = .ok (.invokespecial 3, 3) := by decide +kernel
theorem dX2_init_4 : decode cX2_init 4 = .ok (.aload_n 0, 1) := by decide +kernel
theorem dX2_init_5 : decode cX2_init 5 = .ok (.bipush 10, 2) := by decide +kernel
theorem dX2_init_7 : decode cX2_init 7 = .ok (.anewarray 11, 3) := by decide +kernel
theorem dX2_init_10 : decode cX2_init 10 = .ok (.putfield 13, 3) := by decide +kernel
theorem dX2_init_13 : decode cX2_init 13 = .ok (.aload_n 0, 1) := by decide +kernel
theorem dX2_init_14 : decode cX2_init 14 = .ok (.bipush 10, 2) := by decide +kernel
theorem dX2_init_16 : decode cX2_init 16 = .ok (.newarray .int, 2) := by decide +kernel
theorem dX2_init_18 : decode cX2_init 18 = .ok (.putfield 17, 3) := by decide +kernel
theorem dX2_init_21 : decode cX2_init 21 = .ok (.iconst 0, 1) := by decide +kernel
theorem dX2_init_22 : decode cX2_init 22 = .ok (.istore_n 1, 1) := by decide +kernel
theorem dX2_init_23 : decode cX2_init 23 = .ok (.iload_n 1, 1) := by decide +kernel
theorem dX2_init_24 : decode cX2_init 24 = .ok (.bipush 10, 2) := by decide +kernel
theorem dX2_init_26 : decode cX2_init 26 = .ok (.if_icmp .ge 22, 3) := by decide +kernel
theorem dX2_init_29 : decode cX2_init 29 = .ok (.aload_n 0, 1) := by decide +kernel
theorem dX2_init_30 : decode cX2_init 30 = .ok (.getfield 13, 3) := by decide +kernel
theorem dX2_init_33 : decode cX2_init 33 = .ok (.iload_n 1, 1) := by decide +kernel
theorem dX2_init_34 : decode cX2_init 34 = .ok (.new 11, 3) := by decide +kernel
theorem dX2_init_37 : decode cX2_init 37 = .ok (.dup, 1) := by decide +kernel
theorem dX2_init_38 : decode cX2_init 38 = .ok (.invokespecial 21, 3) := by decide +kernel
theorem dX2_init_41 : decode cX2_init 41 = .ok (.aastore, 1) := by decide +kernel
theorem dX2_init_42 : decode cX2_init 42 = .ok (.iinc 1 1, 3) := by decide +kernel
theorem dX2_init_45 : decode cX2_init 45 = .ok (.goto (-22), 3) := by decide +kernel
theorem dX2_init_48 : decode cX2_init 48 = .ok (.return_, 1) := by decide +kernel
theorem dX2_push_0 : decode cX2_push 0 = .ok (.aload_n 0, 1) := by decide +kernel
theorem dX2_push_1 : decode cX2_push 1 = .ok (.aload_n 0, 1) := by decide +kernel
theorem dX2_push_2 : decode cX2_push 2 = .ok (.getfield 22, 3) := by decide +kernel
theorem dX2_push_5 : decode cX2_push 5 = .ok (.iconst 0, 1) := by decide +kernel
theorem dX2_push_6 : decode cX2_push 6 = .ok (.bipush 8, 2) := by decide +kernel
theorem dX2_push_8 : decode cX2_push 8 = .ok (.invokestatic 26, 3) := by decide +kernel
theorem dX2_push_11 : decode cX2_push 11 = .ok (.ifCond .eq 12, 3) := by decide +kernel
theorem dX2_push_14 : decode cX2_push 14 = .ok (.aload_n 0, 1) := by decide +kernel
theorem dX2_push_15 : decode cX2_push 15 = .ok (.getfield 22, 3) := by decide +kernel
theorem dX2_push_18 : decode cX2_push 18 = .ok (.iconst 1, 1) := by decide +kernel
theorem dX2_push_19 : decode cX2_push 19 = .ok (.iadd, 1) := by decide +kernel
theorem dX2_push_20 : decode cX2_push 20 = .ok (.goto 4, 3) := by decide +kernel
theorem dX2_push_23 : decode cX2_push 23 = .ok (.iconst 0, 1) := by decide +kernel
theorem dX2_push_24 : decode cX2_push 24 = .ok (.putfield 22, 3) := by decide +kernel
theorem dX2_push_27 : decode cX2_push 27 = .ok (.aload_n 0, 1) := by decide +kernel
theorem dX2_push_28 : decode cX2_push 28 = .ok (.getfield 13, 3) := by decide +kernel
theorem dX2_push_31 : decode cX2_push 31 = .ok (.aload_n 0, 1) := by decide +kernel
theorem dX2_push_32 : decode cX2_push 32 = .ok (.getfield 22, 3) := by decide +kernel
theorem dX2_push_35 : decode cX2_push 35 = .ok (.aaload, 1) := by decide +kernel
theorem dX2_push_36 : decode cX2_push 36 = .ok (.aload_n 2, 1) := by decide +kernel
theorem dX2_push_37 : decode cX2_push 37 = .ok (.invokevirtual 30, 3) := by decide +kernel
theorem dX2_push_40 : decode cX2_push 40 = .ok (.aload_n 0, 1) := by decide +kernel
theorem dX2_push_41 : decode cX2_push 41 = .ok (.getfield 17, 3) := by decide +kernel
theorem dX2_push_44 : decode cX2_push 44 = .ok (.aload_n 0, 1) := by decide +kernel
theorem dX2_push_45 : decode cX2_push 45 = .ok (.getfield 22, 3) := by decide +kernel
theorem dX2_push_48 : decode cX2_push 48 = .ok (.iload_n 1, 1) := by decide +kernel
theorem dX2_push_49 : decode cX2_push 49 = .ok (.iastore, 1) := by decide +kernel
theorem dX2_push_50 : decode cX2_push 50 = .ok (.aload_n 0, 1) := by decide +kernel
theorem dX2_push_51 : decode cX2_push 51 = .ok (.aload_n 0, 1) := by decide +kernel
theorem dX2_push_52 : decode cX2_push 52 = .ok (.getfield 34, 3) := by decide +kernel
theorem dX2_push_55 : decode cX2_push 55 = .ok (.iconst 1, 1) := by decide +kernel
theorem dX2_push_56 : decode cX2_push 56 = .ok (.iadd, 1) := by decide +kernel
theorem dX2_push_57 : decode cX2_push 57 = .ok (.bipush 10, 2) := by decide +kernel
theorem dX2_push_59 : decode cX2_push 59 = .ok (.invokestatic 37, 3) := by decide +kernel
theorem dX2_push_62 : decode cX2_push 62 = .ok (.putfield 34, 3) := by decide +kernel
theorem dX2_push_65 : decode cX2_push 65 = .ok (.return_, 1) := by decide +kernel
theorem dX2_pop_0 : decode cX2_pop 0 = .ok (.aload_n 0, 1) := by decide +kernel
theorem dX2_pop_1 : decode cX2_pop 1 = .ok (.getfield 34, 3) := by decide +kernel
theorem dX2_pop_4 : decode cX2_pop 4 = .ok (.ifCond .le 16, 3) := by decide +kernel
theorem dX2_pop_7 : decode cX2_pop 7 = .ok (.aload_n 0, 1) := by decide +kernel
theorem dX2_pop_8 : decode cX2_pop 8 = .ok (.getfield 22, 3) := by decide +kernel
theorem dX2_pop_11 : decode cX2_pop 11 = .ok (.iconst 0, 1) := by decide +kernel
theorem dX2_pop_12 : decode cX2_pop 12 = .ok (.bipush 9, 2) := by decide +kernel
theorem dX2_pop_14 : decode cX2_pop 14 = .ok (.invokestatic 26, 3) := by decide +kernel
theorem dX2_pop_17 : decode cX2_pop 17 = .ok (.ifCond .ne 5, 3) := by decide +kernel
theorem dX2_pop_20 : decode cX2_pop 20 = .ok (.iconst (-1), 1) := by decide +kernel
theorem dX2_pop_21 : decode cX2_pop 21 = .ok (.ireturn, 1) := by decide +kernel
theorem dX2_pop_22 : decode cX2_pop 22 = .ok (.aload_n 0, 1) := by decide +kernel
theorem dX2_pop_23 : decode cX2_pop 23 = .ok (.getfield 17, 3) := by decide +kernel
theorem dX2_pop_26 : decode cX2_pop 26 = .ok (.aload_n 0, 1) := by decide +kernel
theorem dX2_pop_27 : decode cX2_pop 27 = .ok (.getfield 22, 3) := by decide +kernel
theorem dX2_pop_30 : decode cX2_pop 30 = .ok (.iaload, 1) := by decide +kernel
theorem dX2_pop_31 : decode cX2_pop 31 = .ok (.istore_n 2, 1) := by decide +kernel
theorem dX2_pop_32 : decode cX2_pop 32 = .ok (.iload_n 2, 1) := by decide +kernel
theorem dX2_pop_33 : decode cX2_pop 33 = .ok (.ifCond .lt 9, 3) := by decide +kernel
theorem dX2_pop_36 : decode cX2_pop 36 = .ok (.iload_n 2, 1) := by decide +kernel
theorem dX2_pop_37 : decode cX2_pop 37 = .ok (.aload_n 1, 1) := by decide +kernel
theorem dX2_pop_38 : decode cX2_pop 38 = .ok (.arraylength, 1) := by decide +kernel
theorem dX2_pop_39 : decode cX2_pop 39 = .ok (.if_icmp .lt 5, 3) := by decide +kernel
theorem dX2_pop_42 : decode cX2_pop 42 = .ok (.iconst (-1), 1) := by decide +kernel
theorem dX2_pop_43 : decode cX2_pop 43 = .ok (.ireturn, 1) := by decide +kernel
theorem dX2_pop_44 : decode cX2_pop 44 = .ok (.aload_n 1, 1) := by decide +kernel
theorem dX2_pop_45 : decode cX2_pop 45 = .ok (.iload_n 2, 1) := by decide +kernel
theorem dX2_pop_46 : decode cX2_pop 46 = .ok (.aaload, 1) := by decide +kernel
theorem dX2_pop_47 : decode cX2_pop 47 = .ok (.aload_n 0, 1) := by decide +kernel
theorem dX2_pop_48 : decode cX2_pop 48 = .ok (.getfield 13, 3) := by decide +kernel
theorem dX2_pop_51 : decode cX2_pop 51 = .ok (.aload_n 0, 1) := by decide +kernel
theorem dX2_pop_52 : decode cX2_pop 52 = .ok (.getfield 22, 3) := by decide +kernel
theorem dX2_pop_55 : decode cX2_pop 55 = .ok (.aaload, 1) := by decide +kernel
theorem dX2_pop_56 : decode cX2_pop 56 = .ok (.invokevirtual 30, 3) := by decide +kernel
theorem dX2_pop_59 : decode cX2_pop 59 = .ok (.aload_n 0, 1) := by decide +kernel
theorem dX2_pop_60 : decode cX2_pop 60 = .ok (.aload_n 0, 1) := by decide +kernel
theorem dX2_pop_61 : decode cX2_pop 61 = .ok (.getfield 22, 3) := by decide +kernel
theorem dX2_pop_64 : decode cX2_pop 64 = .ok (.ifCond .le 12, 3) := by decide +kernel
theorem dX2_pop_67 : decode cX2_pop 67 = .ok (.aload_n 0, 1) := by decide +kernel
theorem dX2_pop_68 : decode cX2_pop 68 = .ok (.getfield 22, 3) := by decide +kernel
theorem dX2_pop_71 : decode cX2_pop 71 = .ok (.iconst 1, 1) := by decide +kernel
theorem dX2_pop_72 : decode cX2_pop 72 = .ok (.isub, 1) := by decide +kernel
theorem dX2_pop_73 : decode cX2_pop 73 = .ok (.goto 5, 3) := by decide +kernel
theorem dX2_pop_76 : decode cX2_pop 76 = .ok (.bipush 9, 2) := by decide +kernel
theorem dX2_pop_78 : decode cX2_pop 78 = .ok (.putfield 22, 3) := by decide +kernel
theorem dX2_pop_81 : decode cX2_pop 81 = .ok (.aload_n 0, 1) := by decide +kernel
theorem dX2_pop_82 : decode cX2_pop 82 = .ok (.dup, 1) := by decide +kernel
theorem dX2_pop_83 : decode cX2_pop 83 = .ok (.getfield 34, 3) := by decide +kernel
theorem dX2_pop_86 : decode cX2_pop 86 = .ok (.iconst 1, 1) := by decide +kernel
theorem dX2_pop_87 : decode cX2_pop 87 = .ok (.isub, 1) := by decide +kernel
theorem dX2_pop_88 : decode cX2_pop 88 = .ok (.putfield 34, 3) := by decide +kernel
theorem dX2_pop_91 : decode cX2_pop 91 = .ok (.iload_n 2, 1) := by decide +kernel
theorem dX2_pop_92 : decode cX2_pop 92 = .ok (.ireturn, 1) := by decide +kernel
theorem dX2_clear_0 : decode cX2_clear 0 = .ok (.aload_n 0, 1) := by decide +kernel
theorem dX2_clear_1 : decode cX2_clear 1 = .ok (.iconst 0, 1) := by decide +kernel
theorem dX2_clear_2 : decode cX2_clear 2 = .ok (.putfield 34, 3) := by decide +kernel
theorem dX2_clear_5 : decode cX2_clear 5 = .ok (.return_, 1) := by decide +kernel
theorem dX3_init_0 : decode cX3_init 0 = .ok (.aload_n 0, 1) := by decide +kernel
theorem dX3_init_1 : decode cX3_init 1 = .ok (.invokespecial 3, 3) := by decide +kernel
theorem dX3_init_4 : decode cX3_init 4 = .ok (.aload_n 0, 1) := by decide +kernel
theorem dX3_init_5 : decode cX3_init 5 = .ok (.bipush 30, 2) := by decide +kernel
theorem dX3_init_7 : decode cX3_init 7 = .ok (.newarray .float, 2) := by decide +kernel
theorem dX3_init_9 : decode cX3_init 9 = .ok (.putfield 9, 3) := by decide +kernel
theorem dX3_init_12 : decode cX3_init 12 = .ok (.aload_n 0, 1) := by decide +kernel
theorem dX3_init_13 : decode cX3_init 13 = .ok (.bipush 30, 2) := by decide +kernel
theorem dX3_init_15 : decode cX3_init 15 = .ok (.newarray .boolean, 2) := by decide +kernel
theorem dX3_init_17 : decode cX3_init 17 = .ok (.putfield 15, 3) := by decide +kernel
theorem dX3_init_20 : decode cX3_init 20 = .ok (.aload_n 0, 1) := by decide +kernel
theorem dX3_init_21 : decode cX3_init 21 = .ok (.iconst (-1), 1) := by decide +kernel
theorem dX3_init_22 : decode cX3_init 22 = .ok (.putfield 19, 3) := by decide +kernel
theorem dX3_init_25 : decode cX3_init 25 = .ok (.return_, 1) := by decide +kernel
theorem dX3_create_0 : decode cX3_create 0 = .ok (.aload_n 0, 1) := by decide +kernel
theorem dX3_create_1 : decode cX3_create 1 = .ok (.iload_n 1, 1) := by decide +kernel
theorem dX3_create_2 : decode cX3_create 2 = .ok (.putfield 19, 3) := by decide +kernel
theorem dX3_create_5 : decode cX3_create 5 = .ok (.aload_n 0, 1) := by decide +kernel
theorem dX3_create_6 : decode cX3_create 6 = .ok (.iconst 0, 1) := by decide +kernel
theorem dX3_create_7 : decode cX3_create 7 = .ok (.iload_n 2, 1) := by decide +kernel
theorem dX3_create_8 : decode cX3_create 8 = .ok (.bipush 30, 2) := by decide +kernel
theorem dX3_create_10 : decode cX3_create 10 = .ok (.invokestatic 23, 3) := by decide +kernel
theorem dX3_create_13 : decode cX3_create 13 = .ok (.invokestatic 29, 3) := by decide +kernel
theorem dX3_create_16 : decode cX3_create 16 = .ok (.putfield 32, 3) := by decide +kernel
theorem dX3_create_19 : decode cX3_create 19 = .ok (.iconst 0, 1) := by decide +kernel
theorem dX3_create_20 : decode cX3_create 20 = .ok (.istore_n 3, 1) := by decide +kernel
theorem dX3_create_21 : decode cX3_create 21 = .ok (.iload_n 3, 1) := by decide +kernel
theorem dX3_create_22 : decode cX3_create 22 = .ok (.bipush 30, 2) := by decide +kernel
theorem dX3_create_24 : decode cX3_create 24 = .ok (.if_icmp .ge 23, 3) := by decide +kernel
theorem dX3_create_27 : decode cX3_create 27 = .ok (.aload_n 0, 1) := by decide +kernel
theorem dX3_create_28 : decode cX3_create 28 = .ok (.getfield 9, 3) := by decide +kernel
theorem dX3_create_31 : decode cX3_create 31 = .ok (.iload_n 3, 1) := by decide +kernel
theorem dX3_create_32 : decode cX3_create 32 = .ok (.fconst 0, 1) := by decide +kernel
theorem dX3_create_33 : decode cX3_create 33 = .ok (.fastore, 1) := by decide +kernel
theorem dX3_create_34 : decode cX3_create 34 = .ok (.aload_n 0, 1) := by decide +kernel
theorem dX3_create_35 : decode cX3_create 35 = .ok (.getfield 15, 3) := by decide +kernel
theorem dX3_create_38 : decode cX3_create 38 = .ok (.iload_n 3, 1) := by decide +kernel
theorem dX3_create_39 : decode cX3_create 39 = .ok (.iconst 0, 1) := by decide +kernel
theorem dX3_create_40 : decode cX3_create 40 = .ok (.bastore, 1) := by decide +kernel
theorem dX3_create_41 : decode cX3_create 41 = .ok (.iinc 3 1, 3) := by decide +kernel
theorem dX3_create_44 : decode cX3_create 44 = .ok (.goto (-23), 3) := by decide +kernel
theorem dX3_create_47 : decode cX3_create 47 = .ok (.return_, 1) := by decide +kernel
theorem dX3_exists_0 : decode cX3_exists 0 = .ok (.aload_n 0, 1) := by decide +kernel
theorem dX3_exists_1 : decode cX3_exists 1 = .ok (.getfield 19, 3) := by decide +kernel
theorem dX3_exists_4 : decode cX3_exists 4 = .ok (.iconst (-1), 1) := by decide +kernel
theorem dX3_exists_5 : decode cX3_exists 5 = .ok (.if_icmp .eq 7, 3) := by decide +kernel
theorem dX3_exists_8 : decode cX3_exists 8 = .ok (.iconst 1, 1) := by decide +kernel
theorem dX3_exists_9 : decode cX3_exists 9 = .ok (.goto 4, 3) := by decide +kernel
theorem dX3_exists_12 : decode cX3_exists 12 = .ok (.iconst 0, 1) := by decide +kernel
theorem dX3_exists_13 : decode cX3_exists 13 = .ok (.ireturn, 1) := by decide +kernel
theorem dX3_length_0 : decode cX3_length 0 = .ok (.aload_n 0, 1) := by decide +kernel
theorem dX3_length_1 : decode cX3_length 1 = .ok (.getfield 32, 3) := by decide +kernel
theorem dX3_length_4 : decode cX3_length 4 = .ok (.ireturn, 1) := by decide +kernel
theorem dX3_isFloat_0 : decode cX3_isFloat 0 = .ok (.aload_n 0, 1) := by decide +kernel
theorem dX3_isFloat_1 : decode cX3_isFloat 1 = .ok (.getfield 19, 3) := by decide +kernel
theorem dX3_isFloat_4 : decode cX3_isFloat 4 = .ok (.iconst 2, 1) := by decide +kernel
theorem dX3_isFloat_5 : decode cX3_isFloat 5 = .ok (.if_icmp .ne 7, 3) := by decide +kernel
theorem dX3_isFloat_8 : decode cX3_isFloat 8 = .ok (.iconst 1, 1) := by decide +kernel
theorem dX3_isFloat_9 : decode cX3_isFloat 9 = .ok (.goto 4, 3) := by decide +kernel
theorem dX3_isFloat_12 : decode cX3_isFloat 12 = .ok (.iconst 0, 1) := by decide +kernel
theorem dX3_isFloat_13 : decode cX3_isFloat 13 = .ok (.ireturn, 1) := by decide +kernel
theorem dX3_hasIndex_0 : decode cX3_hasIndex 0 = .ok (.iload_n 1, 1) := by decide +kernel
theorem dX3_hasIndex_1 : decode cX3_hasIndex 1 = .ok (.ifCond .lt 21, 3) := by decide +kernel
theorem dX3_hasIndex_4 : decode cX3_hasIndex 4 = .ok (.iload_n 1, 1) := by decide +kernel
theorem dX3_hasIndex_5 : decode cX3_hasIndex 5 = .ok (.aload_n 0, 1) := by decide +kernel
theorem dX3_hasIndex_6 : decode cX3_hasIndex 6 = .ok (.getfield 32, 3) := by decide +kernel
theorem dX3_hasIndex_9 : decode cX3_hasIndex 9 = .ok (.if_icmp .ge 13, 3) := by decide +kernel
theorem dX3_hasIndex_12 : decode cX3_hasIndex 12 = .ok (.iload_n 1, 1) := by decide +kernel
theorem dX3_hasIndex_13 : decode cX3_hasIndex 13 = .ok (.bipush 30, 2) := by decide +kernel
theorem dX3_hasIndex_15 : decode cX3_hasIndex 15 = .ok (.if_icmp .ge 7, 3) := by decide +kernel
theorem dX3_hasIndex_18 : decode cX3_hasIndex 18 = .ok (.iconst 1, 1) := by decide +kernel
theorem dX3_hasIndex_19 : decode cX3_hasIndex 19 = .ok (.goto 4, 3) := by decide +kernel
theorem dX3_hasIndex_22 : decode cX3_hasIndex 22 = .ok (.iconst 0, 1) := by decide +kernel
theorem dX3_hasIndex_23 : decode cX3_hasIndex 23 = .ok (.ireturn, 1) := by decide +kernel
theorem dX3_set_0 : decode cX3_set 0 = .ok (.aload_n 0, 1) := by decide +kernel
theorem dX3_set_1 : decode cX3_set 1 = .ok (.iload_n 1, 1) := by decide +kernel
theorem dX3_set_2 : decode cX3_set 2 = .ok (.invokevirtual 35, 3) := by decide +kernel
theorem dX3_set_5 : decode cX3_set 5 = .ok (.ifCond .eq 38, 3) := by decide +kernel
theorem dX3_set_8 : decode cX3_set 8 = .ok (.aload_n 0, 1) := by decide +kernel
theorem dX3_set_9 : decode cX3_set 9 = .ok (.getfield 9, 3) := by decide +kernel
theorem dX3_set_12 : decode cX3_set 12 = .ok (.iload_n 1, 1) := by decide +kernel
theorem dX3_set_13 : decode cX3_set 13 = .ok (.aload_n 0, 1) := by decide +kernel
theorem dX3_set_14 : decode cX3_set 14 = .ok (.getfield 19, 3) := by decide +kernel
theorem dX3_set_17 : decode cX3_set 17 = .ok (.iconst 2, 1) := by decide +kernel
theorem dX3_set_18 : decode cX3_set 18 = .ok (.if_icmp .ne 11, 3) := by decide +kernel
theorem dX3_set_21 : decode cX3_set 21 = .ok (.iload_n 2, 1) := by decide +kernel
theorem dX3_set_22 : decode cX3_set 22 = .ok (.i2f, 1) := by decide +kernel
theorem dX3_set_23 : decode cX3_set 23 = .ok (.ldc 39, 2) := by decide +kernel
theorem dX3_set_25 : decode cX3_set 25 = .ok (.fdiv, 1) := by decide +kernel
theorem dX3_set_26 : decode cX3_set 26 = .ok (.goto 9, 3) := by decide +kernel
theorem dX3_set_29 : decode cX3_set 29 = .ok (.aload_n 0, 1) := by decide +kernel
theorem dX3_set_30 : decode cX3_set 30 = .ok (.iload_n 2, 1) := by decide +kernel
theorem dX3_set_31 : decode cX3_set 31 = .ok (.i2l, 1) := by decide +kernel
theorem dX3_set_32 : decode cX3_set 32 = .ok (.invokevirtual 40, 3) := by decide +kernel
theorem dX3_set_35 : decode cX3_set 35 = .ok (.fastore, 1) := by decide +kernel
theorem dX3_set_36 : decode cX3_set 36 = .ok (.aload_n 0, 1) := by decide +kernel
theorem dX3_set_37 : decode cX3_set 37 = .ok (.getfield 15, 3) := by decide +kernel
theorem dX3_set_40 : decode cX3_set 40 = .ok (.iload_n 1, 1) := by decide +kernel
theorem dX3_set_41 : decode cX3_set 41 = .ok (.iconst 0, 1) := by decide +kernel
theorem dX3_set_42 : decode cX3_set 42 = .ok (.bastore, 1) := by decide +kernel
theorem dX3_set_43 : decode cX3_set 43 = .ok (.return_, 1) := by decide +kernel
theorem dX3_makeNaN_0 : decode cX3_makeNaN 0 = .ok (.aload_n 0, 1) := by decide +kernel
theorem dX3_makeNaN_1 : decode cX3_makeNaN 1 = .ok (.iload_n 1, 1) := by decide +kernel
theorem dX3_makeNaN_2 : decode cX3_makeNaN 2 = .ok (.invokevirtual 35, 3) := by decide +kernel
theorem dX3_makeNaN_5 : decode cX3_makeNaN 5 = .ok (.ifCond .eq 10, 3) := by decide +kernel
theorem dX3_makeNaN_8 : decode cX3_makeNaN 8 = .ok (.aload_n 0, 1) := by decide +kernel
theorem dX3_makeNaN_9 : decode cX3_makeNaN 9 = .ok (.getfield 15, 3) := by decide +kernel
theorem dX3_makeNaN_12 : decode cX3_makeNaN 12 = .ok (.iload_n 1, 1) := by decide +kernel
theorem dX3_makeNaN_13 : decode cX3_makeNaN 13 = .ok (.iconst 1, 1) := by decide +kernel
theorem dX3_makeNaN_14 : decode cX3_makeNaN 14 = .ok (.bastore, 1) := by decide +kernel
theorem dX3_makeNaN_15 : decode cX3_makeNaN 15 = .ok (.return_, 1) := by decide +kernel
theorem dX3_order_0 : decode cX3_order 0 = .ok (.aload_n 0, 1) := by decide +kernel
theorem dX3_order_1 : decode cX3_order 1 = .ok (.iload_n 1, 1) := by decide +kernel
theorem dX3_order_2 : decode cX3_order 2 = .ok (.invokevirtual 35, 3) := by decide +kernel
theorem dX3_order_5 : decode cX3_order 5 = .ok (.ifCond .eq 29, 3) := by decide +kernel
theorem dX3_order_8 : decode cX3_order 8 = .ok (.aload_n 0, 1) := by decide +kernel
theorem dX3_order_9 : decode cX3_order 9 = .ok (.iload_n 2, 1) := by decide +kernel
theorem dX3_order_10 : decode cX3_order 10 = .ok (.invokevirtual 35, 3) := by decide +kernel
theorem dX3_order_13 : decode cX3_order 13 = .ok (.ifCond .eq 21, 3) := by decide +kernel
theorem dX3_order_16 : decode cX3_order 16 = .ok (.aload_n 0, 1) := by decide +kernel
theorem dX3_order_17 : decode cX3_order 17 = .ok (.getfield 15, 3) := by decide +kernel
theorem dX3_order_20 : decode cX3_order 20 = .ok (.iload_n 1, 1) := by decide +kernel
theorem dX3_order_21 : decode cX3_order 21 = .ok (.baload, 1) := by decide +kernel
theorem dX3_order_22 : decode cX3_order 22 = .ok (.ifCond .ne 12, 3) := by decide +kernel
theorem dX3_order_25 : decode cX3_order 25 = .ok (.aload_n 0, 1) := by decide +kernel
theorem dX3_order_26 : decode cX3_order 26 = .ok (.getfield 15, 3) := by decide +kernel
theorem dX3_order_29 : decode cX3_order 29 = .ok (.iload_n 2, 1) := by decide +kernel
theorem dX3_order_30 : decode cX3_order 30 = .ok (.baload, 1) := by decide +kernel
theorem dX3_order_31 : decode cX3_order 31 = .ok (.ifCond .eq 5, 3) := by decide +kernel
theorem dX3_order_34 : decode cX3_order 34 = .ok (.iconst 3, 1) := by decide +kernel
theorem dX3_order_35 : decode cX3_order 35 = .ok (.ireturn, 1) := by decide +kernel
theorem dX3_order_36 : decode cX3_order 36 = .ok (.aload_n 0, 1) := by decide +kernel
theorem dX3_order_37 : decode cX3_order 37 = .ok (.getfield 9, 3) := by decide +kernel
theorem dX3_order_40 : decode cX3_order 40 = .ok (.iload_n 1, 1) := by decide +kernel
theorem dX3_order_41 : decode cX3_order 41 = .ok (.faload, 1) := by decide +kernel
theorem dX3_order_42 : decode cX3_order 42 = .ok (.aload_n 0, 1) := by decide +kernel
theorem dX3_order_43 : decode cX3_order 43 = .ok (.getfield 9, 3) := by decide +kernel
theorem dX3_order_46 : decode cX3_order 46 = .ok (.iload_n 2, 1) := by decide +kernel
theorem dX3_order_47 : decode cX3_order 47 = .ok (.faload, 1) := by decide +kernel
theorem dX3_order_48 : decode cX3_order 48 = .ok (.fcmp .g, 1) := by decide +kernel
theorem dX3_order_49 : decode cX3_order 49 = .ok (.ifCond .ge 5, 3) := by decide +kernel
theorem dX3_order_52 : decode cX3_order 52 = .ok (.iconst 0, 1) := by decide +kernel
theorem dX3_order_53 : decode cX3_order 53 = .ok (.ireturn, 1) := by decide +kernel
theorem dX3_order_54 : decode cX3_order 54 = .ok (.aload_n 0, 1) := by decide +kernel
theorem dX3_order_55 : decode cX3_order 55 = .ok (.getfield 9, 3) := by decide +kernel
theorem dX3_order_58 : decode cX3_order 58 = .ok (.iload_n 1, 1) := by decide +kernel
theorem dX3_order_59 : decode cX3_order 59 = .ok (.faload, 1) := by decide +kernel
theorem dX3_order_60 : decode cX3_order 60 = .ok (.aload_n 0, 1) := by decide +kernel
theorem dX3_order_61 : decode cX3_order 61 = .ok (.getfield 9, 3) := by decide +kernel
theorem dX3_order_64 : decode cX3_order 64 = .ok (.iload_n 2, 1) := by decide +kernel
theorem dX3_order_65 : decode cX3_order 65 = .ok (.faload, 1) := by decide +kernel
theorem dX3_order_66 : decode cX3_order 66 = .ok (.fcmp .l, 1) := by decide +kernel
theorem dX3_order_67 : decode cX3_order 67 = .ok (.ifCond .le 7, 3) := by decide +kernel
theorem dX3_order_70 : decode cX3_order 70 = .ok (.iconst 2, 1) := by decide +kernel
theorem dX3_order_71 : decode cX3_order 71 = .ok (.goto 4, 3) := by decide +kernel
theorem dX3_order_74 : decode cX3_order 74 = .ok (.iconst 1, 1) := by decide +kernel
theorem dX3_order_75 : decode cX3_order 75 = .ok (.ireturn, 1) := by decide +kernel
theorem dX3_holds_0 : decode cX3_holds 0 = .ok (.aload_n 0, 1) := by decide +kernel
theorem dX3_holds_1 : decode cX3_holds 1 = .ok (.iload_n 1, 1) := by decide +kernel
theorem dX3_holds_2 : decode cX3_holds 2 = .ok (.invokevirtual 35, 3) := by decide +kernel
theorem dX3_holds_5 : decode cX3_holds 5 = .ok (.ifCond .eq 31, 3) := by decide +kernel
theorem dX3_holds_8 : decode cX3_holds 8 = .ok (.aload_n 0, 1) := by decide +kernel
theorem dX3_holds_9 : decode cX3_holds 9 = .ok (.getfield 15, 3) := by decide +kernel
theorem dX3_holds_12 : decode cX3_holds 12 = .ok (.iload_n 1, 1) := by decide +kernel
theorem dX3_holds_13 : decode cX3_holds 13 = .ok (.baload, 1) := by decide +kernel
theorem dX3_holds_14 : decode cX3_holds 14 = .ok (.ifCond .ne 22, 3) := by decide +kernel
theorem dX3_holds_17 : decode cX3_holds 17 = .ok (.aload_n 0, 1) := by decide +kernel
theorem dX3_holds_18 : decode cX3_holds 18 = .ok (.getfield 9, 3) := by decide +kernel
theorem dX3_holds_21 : decode cX3_holds 21 = .ok (.iload_n 1, 1) := by decide +kernel
theorem dX3_holds_22 : decode cX3_holds 22 = .ok (.faload, 1) := by decide +kernel
theorem dX3_holds_23 : decode cX3_holds 23 = .ok (.aload_n 0, 1) := by decide +kernel
theorem dX3_holds_24 : decode cX3_holds 24 = .ok (.lload_n 2, 1) := by decide +kernel
theorem dX3_holds_25 : decode cX3_holds 25 = .ok (.invokevirtual 40, 3) := by decide +kernel
theorem dX3_holds_28 : decode cX3_holds 28 = .ok (.fcmp .l, 1) := by decide +kernel
theorem dX3_holds_29 : decode cX3_holds 29 = .ok (.ifCond .ne 7, 3) := by decide +kernel
theorem dX3_holds_32 : decode cX3_holds 32 = .ok (.iconst 1, 1) := by decide +kernel
theorem dX3_holds_33 : decode cX3_holds 33 = .ok (.goto 4, 3) := by decide +kernel
theorem dX3_holds_36 : decode cX3_holds 36 = .ok (.iconst 0, 1) := by decide +kernel
theorem dX3_holds_37 : decode cX3_holds 37 = .ok (.ireturn, 1) := by decide +kernel
theorem dX3_converted_0 : decode cX3_converted 0 = .ok (.aload_n 0, 1) := by decide +kernel
theorem dX3_converted_1 : decode cX3_converted 1 = .ok (.getfield 19, 3) := by decide +kernel
theorem dX3_converted_4 : decode cX3_converted 4 = .ok (.ifCond .ne 8, 3) := by decide +kernel
theorem dX3_converted_7 : decode cX3_converted 7 = .ok (.lload_n 1, 1) := by decide +kernel
theorem dX3_converted_8 : decode cX3_converted 8 = .ok (.l2i, 1) := by decide +kernel
theorem dX3_converted_9 : decode cX3_converted 9 = .ok (.i2b, 1) := by decide +kernel
theorem dX3_converted_10 : decode cX3_converted 10 = .ok (.i2f, 1) := by decide +kernel
theorem dX3_converted_11 : decode cX3_converted 11 = .ok (.freturn, 1) := by decide +kernel
theorem dX3_converted_12 : decode cX3_converted 12 = .ok (.aload_n 0, 1) := by decide +kernel
theorem dX3_converted_13 : decode cX3_converted 13 = .ok (.getfield 19, 3) := by decide +kernel
theorem dX3_converted_16 : decode cX3_converted 16 = .ok (.iconst 1, 1) := by decide +kernel
theorem dX3_converted_17 : decode cX3_converted 17 = .ok (.if_icmp .ne 10, 3) := by decide +kernel
theorem dX3_converted_20 : decode cX3_converted 20 = .ok (.lload_n 1, 1) := by decide +kernel
theorem dX3_converted_21 : decode cX3_converted 21 = .ok (.l2i, 1) := by decide +kernel
theorem dX3_converted_22 : decode cX3_converted 22 = .ok (.i2c, 1) := by decide +kernel
theorem dX3_converted_23 : decode cX3_converted 23 = .ok (.i2f, 1) := by decide +kernel
theorem dX3_converted_24 : decode cX3_converted 24 = .ok (.goto 5, 3) := by decide +kernel
theorem dX3_converted_27 : decode cX3_converted 27 = .ok (.lload_n 1, 1) := by decide +kernel
theorem dX3_converted_28 : decode cX3_converted 28 = .ok (.l2f, 1) := by decide +kernel
theorem dX3_converted_29 : decode cX3_converted 29 = .ok (.freturn, 1) := by decide +kernel
theorem dX4_init_0 : decode cX4_init 0 = .ok (.aload_n 0, 1) := by decide +kernel
theorem dX4_init_1 : decode cX4_init 1 = .ok (.invokespecial 7, 3) := by decide +kernel
theorem dX4_init_4 : decode cX4_init 4 = .ok (.aload_n 0, 1) := by decide +kernel
theorem dX4_init_5 : decode cX4_init 5 = .ok (.sipush 512, 3) := by decide +kernel
theorem dX4_init_8 : decode cX4_init 8 = .ok (.newarray .long, 2) := by decide +kernel
theorem dX4_init_10 : decode cX4_init 10 = .ok (.putfield 13, 3) := by decide +kernel
theorem dX4_init_13 : decode cX4_init 13 = .ok (.aload_n 0, 1) := by decide +kernel
theorem dX4_init_14 : decode cX4_init 14 = .ok (.sipush 2048, 3) := by decide +kernel
theorem dX4_init_17 : decode cX4_init 17 = .ok (.newarray .int, 2) := by decide +kernel
theorem dX4_init_19 : decode cX4_init 19 = .ok (.putfield 17, 3) := by decide +kernel
theorem dX4_init_22 : decode cX4_init 22 = .ok (.aload_n 0, 1) := by decide +kernel
theorem dX4_init_23 : decode cX4_init 23 = .ok (.iconst (-1), 1) := by decide +kernel
theorem dX4_init_24 : decode cX4_init 24 = .ok (.putfield 21, 3) := by decide +kernel
theorem dX4_init_27 : decode cX4_init 27 = .ok (.return_, 1) := by decide +kernel
theorem dX4_findDifference_0 : decode cX4_findDifference 0 = .ok (.aload_n 0, 1) := by decide +kernel
theorem dX4_findDifference_1 : decode cX4_findDifference 1 = .ok (.invokevirtual 25, 3) := by decide +kernel
theorem dX4_findDifference_4 : decode cX4_findDifference 4 = .ok (.sipush 256, 3) := by decide +kernel
theorem dX4_findDifference_7 : decode cX4_findDifference 7 = .ok (.aload_n 1, 1) := by decide +kernel
theorem dX4_findDifference_8 : decode cX4_findDifference 8 = .ok (.invokevirtual 28, 3) := by decide +kernel
theorem dX4_findDifference_11 : decode cX4_findDifference 11 = .ok (.imul, 1) := by decide +kernel
theorem dX4_findDifference_12 : decode cX4_findDifference 12 = .ok (.aload_n 2, 1) := by decide +kernel
theorem dX4_findDifference_13 : decode cX4_findDifference 13 = .ok (.invokevirtual 28, 3) := by decide +kernel
theorem dX4_findDifference_16 : decode cX4_findDifference 16 = .ok (.iadd, 1) := by decide +kernel
theorem dX4_findDifference_17 : decode cX4_findDifference 17 = .ok (.istore_n 3, 1) := by decide +kernel
theorem dX4_findDifference_18 : decode cX4_findDifference 18 = .ok (.aload_n 0, 1) := by decide +kernel
theorem dX4_findDifference_19 : decode cX4_findDifference 19 = .ok (.iconst (-1), 1) := by decide +kernel
theorem dX4_findDifference_20 : decode cX4_findDifference 20 = .ok (.putfield 21, 3) := by decide +kernel
theorem dX4_findDifference_23 : decode cX4_findDifference 23 = .ok (.iload_n 3, 1) := by decide +kernel
theorem dX4_findDifference_24 : decode cX4_findDifference 24 = .ok (.invokestatic 32, 3) := by decide +kernel
theorem dX4_findDifference_27 : decode cX4_findDifference 27 = .ok (.ifCond .eq 5, 3) := by decide +kernel
theorem dX4_findDifference_30 : decode cX4_findDifference 30 = .ok (.iconst 1, 1) := by decide +kernel
theorem dX4_findDifference_31 : decode cX4_findDifference 31 = .ok (.ireturn, 1) := by decide +kernel
theorem dX4_findDifference_32 : decode cX4_findDifference 32 = .ok (.aload_n 0, 1) := by decide +kernel
theorem dX4_findDifference_33 : decode cX4_findDifference 33 = .ok (.iload_n 3, 1) := by decide +kernel
theorem dX4_findDifference_34 : decode cX4_findDifference 34 = .ok (.iconst 0, 1) := by decide +kernel
theorem dX4_findDifference_35 : decode cX4_findDifference 35 = .ok (.invokevirtual 36, 3) := by decide +kernel
theorem dX4_findDifference_38 : decode cX4_findDifference 38 = .ok (.iconst 0, 1) := by decide +kernel
theorem dX4_findDifference_39 : decode cX4_findDifference 39 = .ok (.istore 4, 2) := by decide +kernel
theorem dX4_findDifference_41 : decode cX4_findDifference 41 = .ok (.iload 4, 2) := by decide +kernel
theorem dX4_findDifference_43 : decode cX4_findDifference 43 = .ok (.aload_n 0, 1) := by decide +kernel
theorem dX4_findDifference_44 : decode cX4_findDifference 44 = .ok (.getfield 40, 3) := by decide +kernel
theorem dX4_findDifference_47 : decode cX4_findDifference 47 = .ok (.if_icmp .ge 111, 3) := by decide +kernel
theorem dX4_findDifference_50 : decode cX4_findDifference 50 = .ok (.iload 4, 2) := by decide +kernel
theorem dX4_findDifference_52 : decode cX4_findDifference 52 = .ok (.ldc 43, 2) := by decide +kernel
theorem dX4_findDifference_54 : decode cX4_findDifference 54 = .ok (.if_icmp .ge 104, 3) := by decide +kernel
theorem dX4_findDifference_57 : decode cX4_findDifference 57 = .ok (.aload_n 0, 1) := by decide +kernel
theorem dX4_findDifference_58 : decode cX4_findDifference 58 = .ok (.iload 4, 2) := by decide +kernel
theorem dX4_findDifference_60 : decode cX4_findDifference 60 = .ok (.invokevirtual 44, 3) := by decide +kernel
theorem dX4_findDifference_63 : decode cX4_findDifference 63 = .ok (.istore 5, 2) := by decide +kernel
theorem dX4_findDifference_65 : decode cX4_findDifference 65 = .ok (.iconst 0, 1) := by decide +kernel
theorem dX4_findDifference_66 : decode cX4_findDifference 66 = .ok (.istore 6, 2) := by decide +kernel
theorem dX4_findDifference_68 : decode cX4_findDifference 68 = .ok (.iload 6, 2) := by decide +kernel
theorem dX4_findDifference_70 : decode cX4_findDifference 70 = .ok (.iconst 4, 1) := by decide +kernel
theorem dX4_findDifference_71 : decode cX4_findDifference 71 = .ok (.if_icmp .ge 81, 3) := by decide +kernel
theorem dX4_findDifference_74 : decode cX4_findDifference 74 = .ok (.aload_n 1, 1) := by decide +kernel
theorem dX4_findDifference_75 : decode cX4_findDifference 75 = .ok (.iload 5, 2) := by decide +kernel
theorem dX4_findDifference_77 : decode cX4_findDifference 77 = .ok (.sipush 256, 3) := by decide +kernel
theorem dX4_findDifference_80 : decode cX4_findDifference 80 = .ok (.idiv, 1) := by decide +kernel
theorem dX4_findDifference_81 : decode cX4_findDifference 81 = .ok (.iload 6, 2) := by decide +kernel
theorem dX4_findDifference_83 : decode cX4_findDifference 83 = .ok (.invokevirtual 48, 3) := by decide +kernel
theorem dX4_findDifference_86 : decode cX4_findDifference 86 = .ok (.istore 7, 2) := by decide +kernel
theorem dX4_findDifference_88 : decode cX4_findDifference 88 = .ok (.aload_n 2, 1) := by decide +kernel
theorem dX4_findDifference_89 : decode cX4_findDifference 89 = .ok (.iload 5, 2) := by decide +kernel
theorem dX4_findDifference_91 : decode cX4_findDifference 91 = .ok (.sipush 256, 3) := by decide +kernel
theorem dX4_findDifference_94 : decode cX4_findDifference 94 = .ok (.irem, 1) := by decide +kernel
theorem dX4_findDifference_95 : decode cX4_findDifference 95 = .ok (.iload 6, 2) := by decide +kernel
theorem dX4_findDifference_97 : decode cX4_findDifference 97 = .ok (.invokevirtual 48, 3) := by decide +kernel
theorem dX4_findDifference_100 : decode cX4_findDifference 100 = .ok (.istore 8, 2) := by decide +kernel
theorem dX4_findDifference_102 : decode cX4_findDifference 102 = .ok (.sipush 256, 3) := by decide +kernel
theorem dX4_findDifference_105 : decode cX4_findDifference 105 = .ok (.iload 7, 2) := by decide +kernel
theorem dX4_findDifference_107 : decode cX4_findDifference 107 = .ok (.imul, 1) := by decide +kernel
theorem dX4_findDifference_108 : decode cX4_findDifference 108 = .ok (.iload 8, 2) := by decide +kernel
theorem dX4_findDifference_110 : decode cX4_findDifference 110 = .ok (.iadd, 1) := by decide +kernel
theorem dX4_findDifference_111 : decode cX4_findDifference 111 = .ok (.istore 9, 2) := by decide +kernel
theorem dX4_findDifference_113 : decode cX4_findDifference 113 = .ok (.iconst 4, 1) := by decide +kernel
theorem dX4_findDifference_114 : decode cX4_findDifference 114 = .ok (.iload 4, 2) := by decide +kernel
theorem dX4_findDifference_116 : decode cX4_findDifference 116 = .ok (.imul, 1) := by decide +kernel
theorem dX4_findDifference_117 : decode cX4_findDifference 117 = .ok (.iload 6, 2) := by decide +kernel
theorem dX4_findDifference_119 : decode cX4_findDifference 119 = .ok (.iadd, 1) := by decide +kernel
theorem dX4_findDifference_120 : decode cX4_findDifference 120 = .ok (.istore 10, 2) := by decide +kernel
theorem dX4_findDifference_122 : decode cX4_findDifference 122 = .ok (.iload 9, 2) := by decide +kernel
theorem dX4_findDifference_124 : decode cX4_findDifference 124 = .ok (.invokestatic 32, 3) := by decide +kernel
theorem dX4_findDifference_127 : decode cX4_findDifference 127 = .ok (.ifCond .eq 11, 3) := by decide +kernel
theorem dX4_findDifference_130 : decode cX4_findDifference 130 = .ok (.aload_n 0, 1) := by decide +kernel
theorem dX4_findDifference_131 : decode cX4_findDifference 131 = .ok (.iload 10, 2) := by decide +kernel
theorem dX4_findDifference_133 : decode cX4_findDifference 133 = .ok (.putfield 21, 3) := by decide +kernel
theorem dX4_findDifference_136 : decode cX4_findDifference 136 = .ok (.iconst 1, 1) := by decide +kernel
theorem dX4_findDifference_137 : decode cX4_findDifference 137 = .ok (.ireturn, 1) := by decide +kernel
theorem dX4_findDifference_138 : decode cX4_findDifference 138 = .ok (.aload_n 0, 1) := by decide +kernel
theorem dX4_findDifference_139 : decode cX4_findDifference 139 = .ok (.iload 9, 2) := by decide +kernel
theorem dX4_findDifference_141 : decode cX4_findDifference 141 = .ok (.iload 10, 2) := by decide +kernel
theorem dX4_findDifference_143 : decode cX4_findDifference 143 = .ok (.invokevirtual 36, 3) := by decide +kernel
theorem dX4_findDifference_146 : decode cX4_findDifference 146 = .ok (.iinc 6 1, 3) := by decide +kernel
theorem dX4_findDifference_149 : decode cX4_findDifference 149 = .ok (.goto (-81), 3) := by decide +kernel
theorem dX4_findDifference_152 : decode cX4_findDifference 152 = .ok (.iinc 4 1, 3) := by decide +kernel
theorem dX4_findDifference_155 : decode cX4_findDifference 155 = .ok (.goto (-114), 3) := by decide +kernel
theorem dX4_findDifference_158 : decode cX4_findDifference 158 = .ok (.iconst 0, 1) := by decide +kernel
theorem dX4_findDifference_159 : decode cX4_findDifference 159 = .ok (.ireturn, 1) := by decide +kernel
theorem dX4_isDifference_0 : decode cX4_isDifference 0 = .ok (.iload_n 0, 1) := by decide +kernel
theorem dX4_isDifference_1 : decode cX4_isDifference 1 = .ok (.sipush 256, 3) := by decide +kernel
theorem dX4_isDifference_4 : decode cX4_isDifference 4 = .ok (.idiv, 1) := by decide +kernel
theorem dX4_isDifference_5 : decode cX4_isDifference 5 = .ok (.sipush 255, 3) := by decide +kernel
theorem dX4_isDifference_8 : decode cX4_isDifference 8 = .ok (.if_icmp .ne 7, 3) := by decide +kernel
theorem dX4_isDifference_11 : decode cX4_isDifference 11 = .ok (.iconst 1, 1) := by decide +kernel
theorem dX4_isDifference_12 : decode cX4_isDifference 12 = .ok (.goto 4, 3) := by decide +kernel
theorem dX4_isDifference_15 : decode cX4_isDifference 15 = .ok (.iconst 0, 1) := by decide +kernel
theorem dX4_isDifference_16 : decode cX4_isDifference 16 = .ok (.iload_n 0, 1) := by decide +kernel
theorem dX4_isDifference_17 : decode cX4_isDifference 17 = .ok (.sipush 256, 3) := by decide +kernel
theorem dX4_isDifference_20 : decode cX4_isDifference 20 = .ok (.irem, 1) := by decide +kernel
theorem dX4_isDifference_21 : decode cX4_isDifference 21 = .ok (.sipush 255, 3) := by decide +kernel
theorem dX4_isDifference_24 : decode cX4_isDifference 24 = .ok (.if_icmp .ne 7, 3) := by decide +kernel
theorem dX4_isDifference_27 : decode cX4_isDifference 27 = .ok (.iconst 1, 1) := by decide +kernel
theorem dX4_isDifference_28 : decode cX4_isDifference 28 = .ok (.goto 4, 3) := by decide +kernel
theorem dX4_isDifference_31 : decode cX4_isDifference 31 = .ok (.iconst 0, 1) := by decide +kernel
theorem dX4_isDifference_32 : decode cX4_isDifference 32 = .ok (.if_icmp .eq 7, 3) := by decide +kernel
theorem dX4_isDifference_35 : decode cX4_isDifference 35 = .ok (.iconst 1, 1) := by decide +kernel
theorem dX4_isDifference_36 : decode cX4_isDifference 36 = .ok (.goto 4, 3) := by decide +kernel
theorem dX4_isDifference_39 : decode cX4_isDifference 39 = .ok (.iconst 0, 1) := by decide +kernel
theorem dX4_isDifference_40 : decode cX4_isDifference 40 = .ok (.ireturn, 1) := by decide +kernel
theorem dX4_pairAt_0 : decode cX4_pairAt 0 = .ok (.iload_n 1, 1) := by decide +kernel
theorem dX4_pairAt_1 : decode cX4_pairAt 1 = .ok (.ifCond .lt 24, 3) := by decide +kernel
theorem dX4_pairAt_4 : decode cX4_pairAt 4 = .ok (.iload_n 1, 1) := by decide +kernel
theorem dX4_pairAt_5 : decode cX4_pairAt 5 = .ok (.aload_n 0, 1) := by decide +kernel
theorem dX4_pairAt_6 : decode cX4_pairAt 6 = .ok (.getfield 40, 3) := by decide +kernel
theorem dX4_pairAt_9 : decode cX4_pairAt 9 = .ok (.if_icmp .ge 16, 3) := by decide +kernel
theorem dX4_pairAt_12 : decode cX4_pairAt 12 = .ok (.iload_n 1, 1) := by decide +kernel
theorem dX4_pairAt_13 : decode cX4_pairAt 13 = .ok (.aload_n 0, 1) := by decide +kernel
theorem dX4_pairAt_14 : decode cX4_pairAt 14 = .ok (.getfield 13, 3) := by decide +kernel
theorem dX4_pairAt_17 : decode cX4_pairAt 17 = .ok (.arraylength, 1) := by decide +kernel
theorem dX4_pairAt_18 : decode cX4_pairAt 18 = .ok (.if_icmp .ge 7, 3) := by decide +kernel
theorem dX4_pairAt_21 : decode cX4_pairAt 21 = .ok (.iconst 1, 1) := by decide +kernel
theorem dX4_pairAt_22 : decode cX4_pairAt 22 = .ok (.goto 4, 3) := by decide +kernel
theorem dX4_pairAt_25 : decode cX4_pairAt 25 = .ok (.iconst 0, 1) := by decide +kernel
theorem dX4_pairAt_26 : decode cX4_pairAt 26 = .ok (.istore_n 2, 1) := by decide +kernel
theorem dX4_pairAt_27 : decode cX4_pairAt 27 = .ok (.iload_n 2, 1) := by decide +kernel
theorem dX4_pairAt_28 : decode cX4_pairAt 28 = .ok (.ifCond .eq 17, 3) := by decide +kernel
theorem dX4_pairAt_31 : decode cX4_pairAt 31 = .ok (.aload_n 0, 1) := by decide +kernel
theorem dX4_pairAt_32 : decode cX4_pairAt 32 = .ok (.getfield 13, 3) := by decide +kernel
theorem dX4_pairAt_35 : decode cX4_pairAt 35 = .ok (.iload_n 1, 1) := by decide +kernel
theorem dX4_pairAt_36 : decode cX4_pairAt 36 = .ok (.laload, 1) := by decide +kernel
theorem dX4_pairAt_37 : decode cX4_pairAt 37 = .ok (.ldc2_w 52, 3) := by decide +kernel
theorem dX4_pairAt_40 : decode cX4_pairAt 40 = .ok (.land, 1) := by decide +kernel
theorem dX4_pairAt_41 : decode cX4_pairAt 41 = .ok (.l2i, 1) := by decide +kernel
theorem dX4_pairAt_42 : decode cX4_pairAt 42 = .ok (.goto 5, 3) := by decide +kernel
theorem dX4_pairAt_45 : decode cX4_pairAt 45 = .ok (.ldc 54, 2) := by decide +kernel
theorem dX4_pairAt_47 : decode cX4_pairAt 47 = .ok (.ireturn, 1) := by decide +kernel
theorem dX4_arrivalAt_0 : decode cX4_arrivalAt 0 = .ok (.iload_n 1, 1) := by decide +kernel
theorem dX4_arrivalAt_1 : decode cX4_arrivalAt 1 = .ok (.ifCond .le 24, 3) := by decide +kernel
theorem dX4_arrivalAt_4 : decode cX4_arrivalAt 4 = .ok (.iload_n 1, 1) := by decide +kernel
theorem dX4_arrivalAt_5 : decode cX4_arrivalAt 5 = .ok (.aload_n 0, 1) := by decide +kernel
theorem dX4_arrivalAt_6 : decode cX4_arrivalAt 6 = .ok (.getfield 40, 3) := by decide +kernel
theorem dX4_arrivalAt_9 : decode cX4_arrivalAt 9 = .ok (.if_icmp .ge 16, 3) := by decide +kernel
theorem dX4_arrivalAt_12 : decode cX4_arrivalAt 12 = .ok (.iload_n 1, 1) := by decide +kernel
theorem dX4_arrivalAt_13 : decode cX4_arrivalAt 13 = .ok (.aload_n 0, 1) := by decide +kernel
theorem dX4_arrivalAt_14 : decode cX4_arrivalAt 14 = .ok (.getfield 13, 3) := by decide +kernel
theorem dX4_arrivalAt_17 : decode cX4_arrivalAt 17 = .ok (.arraylength, 1) := by decide +kernel
theorem dX4_arrivalAt_18 : decode cX4_arrivalAt 18 = .ok (.if_icmp .ge 7, 3) := by decide +kernel
theorem dX4_arrivalAt_21 : decode cX4_arrivalAt 21 = .ok (.iconst 1, 1) := by decide +kernel
theorem dX4_arrivalAt_22 : decode cX4_arrivalAt 22 = .ok (.goto 4, 3) := by decide +kernel
theorem dX4_arrivalAt_25 : decode cX4_arrivalAt 25 = .ok (.iconst 0, 1) := by decide +kernel
theorem dX4_arrivalAt_26 : decode cX4_arrivalAt 26 = .ok (.istore_n 2, 1) := by decide +kernel
theorem dX4_arrivalAt_27 : decode cX4_arrivalAt 27 = .ok (.iload_n 2, 1) := by decide +kernel
theorem dX4_arrivalAt_28 : decode cX4_arrivalAt 28 = .ok (.ifCond .eq 17, 3) := by decide +kernel
theorem dX4_arrivalAt_31 : decode cX4_arrivalAt 31 = .ok (.aload_n 0, 1) := by decide +kernel
theorem dX4_arrivalAt_32 : decode cX4_arrivalAt 32 = .ok (.getfield 13, 3) := by decide +kernel
theorem dX4_arrivalAt_35 : decode cX4_arrivalAt 35 = .ok (.iload_n 1, 1) := by decide +kernel
theorem dX4_arrivalAt_36 : decode cX4_arrivalAt 36 = .ok (.laload, 1) := by decide +kernel
theorem dX4_arrivalAt_37 : decode cX4_arrivalAt 37 = .ok (.ldc2_w 55, 3) := by decide +kernel
theorem dX4_arrivalAt_40 : decode cX4_arrivalAt 40 = .ok (.ldiv, 1) := by decide +kernel
theorem dX4_arrivalAt_41 : decode cX4_arrivalAt 41 = .ok (.l2i, 1) := by decide +kernel
theorem dX4_arrivalAt_42 : decode cX4_arrivalAt 42 = .ok (.goto 4, 3) := by decide +kernel
theorem dX4_arrivalAt_45 : decode cX4_arrivalAt 45 = .ok (.iconst (-1), 1) := by decide +kernel
theorem dX4_arrivalAt_46 : decode cX4_arrivalAt 46 = .ok (.ireturn, 1) := by decide +kernel
theorem dX4_forget_0 : decode cX4_forget 0 = .ok (.iconst 0, 1) := by decide +kernel
theorem dX4_forget_1 : decode cX4_forget 1 = .ok (.istore_n 1, 1) := by decide +kernel
theorem dX4_forget_2 : decode cX4_forget 2 = .ok (.iload_n 1, 1) := by decide +kernel
theorem dX4_forget_3 : decode cX4_forget 3 = .ok (.aload_n 0, 1) := by decide +kernel
theorem dX4_forget_4 : decode cX4_forget 4 = .ok (.getfield 40, 3) := by decide +kernel
theorem dX4_forget_7 : decode cX4_forget 7 = .ok (.if_icmp .ge 23, 3) := by decide +kernel
theorem dX4_forget_10 : decode cX4_forget 10 = .ok (.aload_n 0, 1) := by decide +kernel
theorem dX4_forget_11 : decode cX4_forget 11 = .ok (.getfield 17, 3) := by decide +kernel
theorem dX4_forget_14 : decode cX4_forget 14 = .ok (.aload_n 0, 1) := by decide +kernel
theorem dX4_forget_15 : decode cX4_forget 15 = .ok (.iload_n 1, 1) := by decide +kernel
theorem dX4_forget_16 : decode cX4_forget 16 = .ok (.invokevirtual 44, 3) := by decide +kernel
theorem dX4_forget_19 : decode cX4_forget 19 = .ok (.bipush 32, 2) := by decide +kernel
theorem dX4_forget_21 : decode cX4_forget 21 = .ok (.idiv, 1) := by decide +kernel
theorem dX4_forget_22 : decode cX4_forget 22 = .ok (.iconst 0, 1) := by decide +kernel
theorem dX4_forget_23 : decode cX4_forget 23 = .ok (.iastore, 1) := by decide +kernel
theorem dX4_forget_24 : decode cX4_forget 24 = .ok (.iinc 1 1, 3) := by decide +kernel
theorem dX4_forget_27 : decode cX4_forget 27 = .ok (.goto (-25), 3) := by decide +kernel
theorem dX4_forget_30 : decode cX4_forget 30 = .ok (.aload_n 0, 1) := by decide +kernel
theorem dX4_forget_31 : decode cX4_forget 31 = .ok (.iconst 0, 1) := by decide +kernel
theorem dX4_forget_32 : decode cX4_forget 32 = .ok (.putfield 40, 3) := by decide +kernel
theorem dX4_forget_35 : decode cX4_forget 35 = .ok (.return_, 1) := by decide +kernel
theorem dX4_note_0 : decode cX4_note 0 = .ok (.iload_n 1, 1) := by decide +kernel
theorem dX4_note_1 : decode cX4_note 1 = .ok (.ifCond .lt 28, 3) := by decide +kernel
theorem dX4_note_4 : decode cX4_note 4 = .ok (.iload_n 1, 1) := by decide +kernel
theorem dX4_note_5 : decode cX4_note 5 = .ok (.ldc 54, 2) := by decide +kernel
theorem dX4_note_7 : decode cX4_note 7 = .ok (.if_icmp .ge 22, 3) := by decide +kernel
theorem dX4_note_10 : decode cX4_note 10 = .ok (.aload_n 0, 1) := by decide +kernel
theorem dX4_note_11 : decode cX4_note 11 = .ok (.getfield 17, 3) := by decide +kernel
theorem dX4_note_14 : decode cX4_note 14 = .ok (.iload_n 1, 1) := by decide +kernel
theorem dX4_note_15 : decode cX4_note 15 = .ok (.bipush 32, 2) := by decide +kernel
theorem dX4_note_17 : decode cX4_note 17 = .ok (.idiv, 1) := by decide +kernel
theorem dX4_note_18 : decode cX4_note 18 = .ok (.iaload, 1) := by decide +kernel
theorem dX4_note_19 : decode cX4_note 19 = .ok (.iload_n 1, 1) := by decide +kernel
theorem dX4_note_20 : decode cX4_note 20 = .ok (.bipush 32, 2) := by decide +kernel
theorem dX4_note_22 : decode cX4_note 22 = .ok (.irem, 1) := by decide +kernel
theorem dX4_note_23 : decode cX4_note 23 = .ok (.ishr, 1) := by decide +kernel
theorem dX4_note_24 : decode cX4_note 24 = .ok (.iconst 1, 1) := by decide +kernel
theorem dX4_note_25 : decode cX4_note 25 = .ok (.iand, 1) := by decide +kernel
theorem dX4_note_26 : decode cX4_note 26 = .ok (.ifCond .eq 4, 3) := by decide +kernel
theorem dX4_note_29 : decode cX4_note 29 = .ok (.return_, 1) := by decide +kernel
theorem dX4_note_30 : decode cX4_note 30 = .ok (.aload_n 0, 1) := by decide +kernel
theorem dX4_note_31 : decode cX4_note 31 = .ok (.invokevirtual 57, 3) := by decide +kernel
theorem dX4_note_34 : decode cX4_note 34 = .ok (.aload_n 0, 1) := by decide +kernel
theorem dX4_note_35 : decode cX4_note 35 = .ok (.getfield 40, 3) := by decide +kernel
theorem dX4_note_38 : decode cX4_note 38 = .ok (.ifCond .lt 61, 3) := by decide +kernel
theorem dX4_note_41 : decode cX4_note 41 = .ok (.aload_n 0, 1) := by decide +kernel
theorem dX4_note_42 : decode cX4_note 42 = .ok (.getfield 40, 3) := by decide +kernel
theorem dX4_note_45 : decode cX4_note 45 = .ok (.aload_n 0, 1) := by decide +kernel
theorem dX4_note_46 : decode cX4_note 46 = .ok (.getfield 13, 3) := by decide +kernel
theorem dX4_note_49 : decode cX4_note 49 = .ok (.arraylength, 1) := by decide +kernel
theorem dX4_note_50 : decode cX4_note 50 = .ok (.if_icmp .ge 49, 3) := by decide +kernel
theorem dX4_note_53 : decode cX4_note 53 = .ok (.aload_n 0, 1) := by decide +kernel
theorem dX4_note_54 : decode cX4_note 54 = .ok (.getfield 17, 3) := by decide +kernel
theorem dX4_note_57 : decode cX4_note 57 = .ok (.iload_n 1, 1) := by decide +kernel
theorem dX4_note_58 : decode cX4_note 58 = .ok (.bipush 32, 2) := by decide +kernel
theorem dX4_note_60 : decode cX4_note 60 = .ok (.idiv, 1) := by decide +kernel
theorem dX4_note_61 : decode cX4_note 61 = .ok (.dup2, 1) := by decide +kernel
theorem dX4_note_62 : decode cX4_note 62 = .ok (.iaload, 1) := by decide +kernel
theorem dX4_note_63 : decode cX4_note 63 = .ok (.iconst 1, 1) := by decide +kernel
theorem dX4_note_64 : decode cX4_note 64 = .ok (.iload_n 1, 1) := by decide +kernel
theorem dX4_note_65 : decode cX4_note 65 = .ok (.bipush 32, 2) := by decide +kernel
theorem dX4_note_67 : decode cX4_note 67 = .ok (.irem, 1) := by decide +kernel
theorem dX4_note_68 : decode cX4_note 68 = .ok (.ishl, 1) := by decide +kernel
theorem dX4_note_69 : decode cX4_note 69 = .ok (.ior, 1) := by decide +kernel
theorem dX4_note_70 : decode cX4_note 70 = .ok (.iastore, 1) := by decide +kernel
theorem dX4_note_71 : decode cX4_note 71 = .ok (.aload_n 0, 1) := by decide +kernel
theorem dX4_note_72 : decode cX4_note 72 = .ok (.getfield 13, 3) := by decide +kernel
theorem dX4_note_75 : decode cX4_note 75 = .ok (.aload_n 0, 1) := by decide +kernel
theorem dX4_note_76 : decode cX4_note 76 = .ok (.getfield 40, 3) := by decide +kernel
theorem dX4_note_79 : decode cX4_note 79 = .ok (.iload_n 1, 1) := by decide +kernel
theorem dX4_note_80 : decode cX4_note 80 = .ok (.i2l, 1) := by decide +kernel
theorem dX4_note_81 : decode cX4_note 81 = .ok (.ldc2_w 55, 3) := by decide +kernel
theorem dX4_note_84 : decode cX4_note 84 = .ok (.iload_n 2, 1) := by decide +kernel
theorem dX4_note_85 : decode cX4_note 85 = .ok (.i2l, 1) := by decide +kernel
theorem dX4_note_86 : decode cX4_note 86 = .ok (.lmul, 1) := by decide +kernel
theorem dX4_note_87 : decode cX4_note 87 = .ok (.ladd, 1) := by decide +kernel
theorem dX4_note_88 : decode cX4_note 88 = .ok (.lastore, 1) := by decide +kernel
theorem dX4_note_89 : decode cX4_note 89 = .ok (.aload_n 0, 1) := by decide +kernel
theorem dX4_note_90 : decode cX4_note 90 = .ok (.dup, 1) := by decide +kernel
theorem dX4_note_91 : decode cX4_note 91 = .ok (.getfield 40, 3) := by decide +kernel
theorem dX4_note_94 : decode cX4_note 94 = .ok (.iconst 1, 1) := by decide +kernel
theorem dX4_note_95 : decode cX4_note 95 = .ok (.iadd, 1) := by decide +kernel
theorem dX4_note_96 : decode cX4_note 96 = .ok (.putfield 40, 3) := by decide +kernel
theorem dX4_note_99 : decode cX4_note 99 = .ok (.return_, 1) := by decide +kernel
theorem dX4_makeRoom_0 : decode cX4_makeRoom 0 = .ok (.aload_n 0, 1) := by decide +kernel
theorem dX4_makeRoom_1 : decode cX4_makeRoom 1 = .ok (.getfield 40, 3) := by decide +kernel
theorem dX4_makeRoom_4 : decode cX4_makeRoom 4 = .ok (.aload_n 0, 1) := by decide +kernel
theorem dX4_makeRoom_5 : decode cX4_makeRoom 5 = .ok (.getfield 13, 3) := by decide +kernel
theorem dX4_makeRoom_8 : decode cX4_makeRoom 8 = .ok (.arraylength, 1) := by decide +kernel
theorem dX4_makeRoom_9 : decode cX4_makeRoom 9 = .ok (.if_icmp .lt 31, 3) := by decide +kernel
theorem dX4_makeRoom_12 : decode cX4_makeRoom 12 = .ok (.aload_n 0, 1) := by decide +kernel
theorem dX4_makeRoom_13 : decode cX4_makeRoom 13 = .ok (.getfield 13, 3) := by decide +kernel
theorem dX4_makeRoom_16 : decode cX4_makeRoom 16 = .ok (.arraylength, 1) := by decide +kernel
theorem dX4_makeRoom_17 : decode cX4_makeRoom 17 = .ok (.ldc 43, 2) := by decide +kernel
theorem dX4_makeRoom_19 : decode cX4_makeRoom 19 = .ok (.if_icmp .ge 21, 3) := by decide +kernel
theorem dX4_makeRoom_22 : decode cX4_makeRoom 22 = .ok (.aload_n 0, 1) := by decide +kernel
theorem dX4_makeRoom_23 : decode cX4_makeRoom 23 = .ok (.aload_n 0, 1) := by decide +kernel
theorem dX4_makeRoom_24 : decode cX4_makeRoom 24 = .ok (.getfield 13, 3) := by decide +kernel
theorem dX4_makeRoom_27 : decode cX4_makeRoom 27 = .ok (.iconst 2, 1) := by decide +kernel
theorem dX4_makeRoom_28 : decode cX4_makeRoom 28 = .ok (.aload_n 0, 1) := by decide +kernel
theorem dX4_makeRoom_29 : decode cX4_makeRoom 29 = .ok (.getfield 13, 3) := by decide +kernel
theorem dX4_makeRoom_32 : decode cX4_makeRoom 32 = .ok (.arraylength, 1) := by decide +kernel
theorem dX4_makeRoom_33 : decode cX4_makeRoom 33 = .ok (.imul, 1) := by decide +kernel
theorem dX4_makeRoom_34 : decode cX4_makeRoom 34 = .ok (.invokestatic 60, 3) := by decide +kernel
theorem dX4_makeRoom_37 : decode cX4_makeRoom 37 = .ok (.putfield 13, 3) := by decide +kernel
theorem dX4_makeRoom_40 : decode cX4_makeRoom 40 = .ok (.return_, 1) := by decide +kernel
theorem dX4_spellDifference_0 : decode cX4_spellDifference 0 = .ok (.aload_n 1, 1) := by decide +kernel
theorem dX4_spellDifference_1 : decode cX4_spellDifference 1 = .ok (.invokevirtual 66, 3) := by decide +kernel
theorem dX4_spellDifference_4 : decode cX4_spellDifference 4 = .ok (.aload_n 0, 1) := by decide +kernel
theorem dX4_spellDifference_5 : decode cX4_spellDifference 5 = .ok (.getfield 21, 3) := by decide +kernel
theorem dX4_spellDifference_8 : decode cX4_spellDifference 8 = .ok (.istore_n 2, 1) := by decide +kernel
theorem dX4_spellDifference_9 : decode cX4_spellDifference 9 = .ok (.iconst 0, 1) := by decide +kernel
theorem dX4_spellDifference_10 : decode cX4_spellDifference 10 = .ok (.istore_n 3, 1) := by decide +kernel
theorem dX4_spellDifference_11 : decode cX4_spellDifference 11 = .ok (.iload_n 3, 1) := by decide +kernel
theorem dX4_spellDifference_12 : decode cX4_spellDifference 12 = .ok (.ldc 43, 2) := by decide +kernel
theorem dX4_spellDifference_14 : decode cX4_spellDifference 14 = .ok (.if_icmp .ge 28, 3) := by decide +kernel
theorem dX4_spellDifference_17 : decode cX4_spellDifference 17 = .ok (.iload_n 2, 1) := by decide +kernel
theorem dX4_spellDifference_18 : decode cX4_spellDifference 18 = .ok (.ifCond .lt 24, 3) := by decide +kernel
theorem dX4_spellDifference_21 : decode cX4_spellDifference 21 = .ok (.aload_n 1, 1) := by decide +kernel
theorem dX4_spellDifference_22 : decode cX4_spellDifference 22 = .ok (.iload_n 2, 1) := by decide +kernel
theorem dX4_spellDifference_23 : decode cX4_spellDifference 23 = .ok (.iconst 4, 1) := by decide +kernel
theorem dX4_spellDifference_24 : decode cX4_spellDifference 24 = .ok (.irem, 1) := by decide +kernel
theorem dX4_spellDifference_25 : decode cX4_spellDifference 25 = .ok (.invokevirtual 71, 3) := by decide +kernel
theorem dX4_spellDifference_28 : decode cX4_spellDifference 28 = .ok (.aload_n 0, 1) := by decide +kernel
theorem dX4_spellDifference_29 : decode cX4_spellDifference 29 = .ok (.iload_n 2, 1) := by decide +kernel
theorem dX4_spellDifference_30 : decode cX4_spellDifference 30 = .ok (.iconst 4, 1) := by decide +kernel
theorem dX4_spellDifference_31 : decode cX4_spellDifference 31 = .ok (.idiv, 1) := by decide +kernel
theorem dX4_spellDifference_32 : decode cX4_spellDifference 32 = .ok (.invokevirtual 75, 3) := by decide +kernel
theorem dX4_spellDifference_35 : decode cX4_spellDifference 35 = .ok (.istore_n 2, 1) := by decide +kernel
theorem dX4_spellDifference_36 : decode cX4_spellDifference 36 = .ok (.iinc 3 1, 3) := by decide +kernel
theorem dX4_spellDifference_39 : decode cX4_spellDifference 39 = .ok (.goto (-28), 3) := by decide +kernel
theorem dX4_spellDifference_42 : decode cX4_spellDifference 42 = .ok (.aload_n 1, 1) := by decide +kernel
theorem dX4_spellDifference_43 : decode cX4_spellDifference 43 = .ok (.invokevirtual 78, 3) := by decide +kernel
theorem dX4_spellDifference_46 : decode cX4_spellDifference 46 = .ok (.return_, 1) := by decide +kernel
theorem dX5_init_0 : decode cX5_init 0 = .ok (.aload_n 0, 1) := by decide +kernel
theorem dX5_init_1 : decode cX5_init 1 = .ok (.invokespecial 3, 3) := by decide +kernel
theorem dX5_init_4 : decode cX5_init 4 = .ok (.aload_n 0, 1) := by decide +kernel
theorem dX5_init_5 : decode cX5_init 5 = .ok (.bipush 64, 2) := by decide +kernel
theorem dX5_init_7 : decode cX5_init 7 = .ok (.newarray .long, 2) := by decide +kernel
theorem dX5_init_9 : decode cX5_init 9 = .ok (.putfield 9, 3) := by decide +kernel
theorem dX5_init_12 : decode cX5_init 12 = .ok (.aload_n 0, 1) := by decide +kernel
theorem dX5_init_13 : decode cX5_init 13 = .ok (.bipush 64, 2) := by decide +kernel
theorem dX5_init_15 : decode cX5_init 15 = .ok (.newarray .long, 2) := by decide +kernel
theorem dX5_init_17 : decode cX5_init 17 = .ok (.putfield 15, 3) := by decide +kernel
theorem dX5_init_20 : decode cX5_init 20 = .ok (.aload_n 0, 1) := by decide +kernel
theorem dX5_init_21 : decode cX5_init 21 = .ok (.bipush 64, 2) := by decide +kernel
theorem dX5_init_23 : decode cX5_init 23 = .ok (.newarray .long, 2) := by decide +kernel
theorem dX5_init_25 : decode cX5_init 25 = .ok (.putfield 18, 3) := by decide +kernel
theorem dX5_init_28 : decode cX5_init 28 = .ok (.aload_n 0, 1) := by decide +kernel
theorem dX5_init_29 : decode cX5_init 29 = .ok (.bipush 9, 2) := by decide +kernel
theorem dX5_init_31 : decode cX5_init 31 = .ok (.newarray .long, 2) := by decide +kernel
theorem dX5_init_33 : decode cX5_init 33 = .ok (.putfield 21, 3) := by decide +kernel
theorem dX5_init_36 : decode cX5_init 36 = .ok (.return_, 1) := by decide +kernel
theorem dX5_coefficient_0 : decode cX5_coefficient 0 = .ok (.iload_n 1, 1) := by decide +kernel
theorem dX5_coefficient_1 : decode cX5_coefficient 1 = .ok (.ifCond .lt 18, 3) := by decide +kernel
theorem dX5_coefficient_4 : decode cX5_coefficient 4 = .ok (.iload_n 1, 1) := by decide +kernel
theorem dX5_coefficient_5 : decode cX5_coefficient 5 = .ok (.bipush 8, 2) := by decide +kernel
theorem dX5_coefficient_7 : decode cX5_coefficient 7 = .ok (.if_icmp .gt 12, 3) := by decide +kernel
theorem dX5_coefficient_10 : decode cX5_coefficient 10 = .ok (.aload_n 0, 1) := by decide +kernel
theorem dX5_coefficient_11 : decode cX5_coefficient 11 = .ok (.getfield 21, 3) := by decide +kernel
theorem dX5_coefficient_14 : decode cX5_coefficient 14 = .ok (.iload_n 1, 1) := by decide +kernel
theorem dX5_coefficient_15 : decode cX5_coefficient 15 = .ok (.laload, 1) := by decide +kernel
theorem dX5_coefficient_16 : decode cX5_coefficient 16 = .ok (.goto 4, 3) := by decide +kernel
theorem dX5_coefficient_19 : decode cX5_coefficient 19 = .ok (.lconst 0, 1) := by decide +kernel
theorem dX5_coefficient_20 : decode cX5_coefficient 20 = .ok (.lreturn, 1) := by decide +kernel
theorem dX5_compute_0 : decode cX5_compute 0 = .ok (.aload_n 0, 1) := by decide +kernel
theorem dX5_compute_1 : decode cX5_compute 1 = .ok (.aload_n 1, 1) := by decide +kernel
theorem dX5_compute_2 : decode cX5_compute 2 = .ok (.invokevirtual 24, 3) := by decide +kernel
theorem dX5_compute_5 : decode cX5_compute 5 = .ok (.aload_n 0, 1) := by decide +kernel
theorem dX5_compute_6 : decode cX5_compute 6 = .ok (.getfield 18, 3) := by decide +kernel
theorem dX5_compute_9 : decode cX5_compute 9 = .ok (.lconst 0, 1) := by decide +kernel
theorem dX5_compute_10 : decode cX5_compute 10 = .ok (.invokestatic 28, 3) := by decide +kernel
theorem dX5_compute_13 : decode cX5_compute 13 = .ok (.aload_n 0, 1) := by decide +kernel
theorem dX5_compute_14 : decode cX5_compute 14 = .ok (.getfield 21, 3) := by decide +kernel
theorem dX5_compute_17 : decode cX5_compute 17 = .ok (.bipush 8, 2) := by decide +kernel
theorem dX5_compute_19 : decode cX5_compute 19 = .ok (.lconst 1, 1) := by decide +kernel
theorem dX5_compute_20 : decode cX5_compute 20 = .ok (.lastore, 1) := by decide +kernel
theorem dX5_compute_21 : decode cX5_compute 21 = .ok (.iconst 1, 1) := by decide +kernel
theorem dX5_compute_22 : decode cX5_compute 22 = .ok (.istore_n 2, 1) := by decide +kernel
theorem dX5_compute_23 : decode cX5_compute 23 = .ok (.iload_n 2, 1) := by decide +kernel
theorem dX5_compute_24 : decode cX5_compute 24 = .ok (.bipush 8, 2) := by decide +kernel
theorem dX5_compute_26 : decode cX5_compute 26 = .ok (.if_icmp .gt 84, 3) := by decide +kernel
theorem dX5_compute_29 : decode cX5_compute 29 = .ok (.aload_n 0, 1) := by decide +kernel
theorem dX5_compute_30 : decode cX5_compute 30 = .ok (.getfield 18, 3) := by decide +kernel
theorem dX5_compute_33 : decode cX5_compute 33 = .ok (.iconst 0, 1) := by decide +kernel
theorem dX5_compute_34 : decode cX5_compute 34 = .ok (.aload_n 0, 1) := by decide +kernel
theorem dX5_compute_35 : decode cX5_compute 35 = .ok (.getfield 15, 3) := by decide +kernel
theorem dX5_compute_38 : decode cX5_compute 38 = .ok (.iconst 0, 1) := by decide +kernel
theorem dX5_compute_39 : decode cX5_compute 39 = .ok (.bipush 64, 2) := by decide +kernel
theorem dX5_compute_41 : decode cX5_compute 41 = .ok (.invokestatic 34, 3) := by decide +kernel
theorem dX5_compute_44 : decode cX5_compute 44 = .ok (.iconst 0, 1) := by decide +kernel
theorem dX5_compute_45 : decode cX5_compute 45 = .ok (.istore_n 3, 1) := by decide +kernel
theorem dX5_compute_46 : decode cX5_compute 46 = .ok (.iload_n 3, 1) := by decide +kernel
theorem dX5_compute_47 : decode cX5_compute 47 = .ok (.bipush 8, 2) := by decide +kernel
theorem dX5_compute_49 : decode cX5_compute 49 = .ok (.if_icmp .ge 34, 3) := by decide +kernel
theorem dX5_compute_52 : decode cX5_compute 52 = .ok (.aload_n 0, 1) := by decide +kernel
theorem dX5_compute_53 : decode cX5_compute 53 = .ok (.getfield 15, 3) := by decide +kernel
theorem dX5_compute_56 : decode cX5_compute 56 = .ok (.bipush 8, 2) := by decide +kernel
theorem dX5_compute_58 : decode cX5_compute 58 = .ok (.iload_n 3, 1) := by decide +kernel
theorem dX5_compute_59 : decode cX5_compute 59 = .ok (.imul, 1) := by decide +kernel
theorem dX5_compute_60 : decode cX5_compute 60 = .ok (.iload_n 3, 1) := by decide +kernel
theorem dX5_compute_61 : decode cX5_compute 61 = .ok (.iadd, 1) := by decide +kernel
theorem dX5_compute_62 : decode cX5_compute 62 = .ok (.dup2, 1) := by decide +kernel
theorem dX5_compute_63 : decode cX5_compute 63 = .ok (.laload, 1) := by decide +kernel
theorem dX5_compute_64 : decode cX5_compute 64 = .ok (.aload_n 0, 1) := by decide +kernel
theorem dX5_compute_65 : decode cX5_compute 65 = .ok (.getfield 21, 3) := by decide +kernel
theorem dX5_compute_68 : decode cX5_compute 68 = .ok (.bipush 8, 2) := by decide +kernel
theorem dX5_compute_70 : decode cX5_compute 70 = .ok (.iload_n 2, 1) := by decide +kernel
theorem dX5_compute_71 : decode cX5_compute 71 = .ok (.isub, 1) := by decide +kernel
theorem dX5_compute_72 : decode cX5_compute 72 = .ok (.iconst 1, 1) := by decide +kernel
theorem dX5_compute_73 : decode cX5_compute 73 = .ok (.iadd, 1) := by decide +kernel
theorem dX5_compute_74 : decode cX5_compute 74 = .ok (.laload, 1) := by decide +kernel
theorem dX5_compute_75 : decode cX5_compute 75 = .ok (.ladd, 1) := by decide +kernel
theorem dX5_compute_76 : decode cX5_compute 76 = .ok (.lastore, 1) := by decide +kernel
theorem dX5_compute_77 : decode cX5_compute 77 = .ok (.iinc 3 1, 3) := by decide +kernel
theorem dX5_compute_80 : decode cX5_compute 80 = .ok (.goto (-34), 3) := by decide +kernel
theorem dX5_compute_83 : decode cX5_compute 83 = .ok (.aload_n 0, 1) := by decide +kernel
theorem dX5_compute_84 : decode cX5_compute 84 = .ok (.invokevirtual 40, 3) := by decide +kernel
theorem dX5_compute_87 : decode cX5_compute 87 = .ok (.aload_n 0, 1) := by decide +kernel
theorem dX5_compute_88 : decode cX5_compute 88 = .ok (.getfield 21, 3) := by decide +kernel
theorem dX5_compute_91 : decode cX5_compute 91 = .ok (.bipush 8, 2) := by decide +kernel
theorem dX5_compute_93 : decode cX5_compute 93 = .ok (.iload_n 2, 1) := by decide +kernel
theorem dX5_compute_94 : decode cX5_compute 94 = .ok (.isub, 1) := by decide +kernel
theorem dX5_compute_95 : decode cX5_compute 95 = .ok (.aload_n 0, 1) := by decide +kernel
theorem dX5_compute_96 : decode cX5_compute 96 = .ok (.invokevirtual 43, 3) := by decide +kernel
theorem dX5_compute_99 : decode cX5_compute 99 = .ok (.lneg, 1) := by decide +kernel
theorem dX5_compute_100 : decode cX5_compute 100 = .ok (.iload_n 2, 1) := by decide +kernel
theorem dX5_compute_101 : decode cX5_compute 101 = .ok (.i2l, 1) := by decide +kernel
theorem dX5_compute_102 : decode cX5_compute 102 = .ok (.ldiv, 1) := by decide +kernel
theorem dX5_compute_103 : decode cX5_compute 103 = .ok (.lastore, 1) := by decide +kernel
theorem dX5_compute_104 : decode cX5_compute 104 = .ok (.iinc 2 1, 3) := by decide +kernel
theorem dX5_compute_107 : decode cX5_compute 107 = .ok (.goto (-84), 3) := by decide +kernel
theorem dX5_compute_110 : decode cX5_compute 110 = .ok (.return_, 1) := by decide +kernel
theorem dX5_countEdges_0 : decode cX5_countEdges 0 = .ok (.iconst 0, 1) := by decide +kernel
theorem dX5_countEdges_1 : decode cX5_countEdges 1 = .ok (.istore_n 2, 1) := by decide +kernel
theorem dX5_countEdges_2 : decode cX5_countEdges 2 = .ok (.iload_n 2, 1) := by decide +kernel
theorem dX5_countEdges_3 : decode cX5_countEdges 3 = .ok (.bipush 8, 2) := by decide +kernel
theorem dX5_countEdges_5 : decode cX5_countEdges 5 = .ok (.if_icmp .ge 76, 3) := by decide +kernel
theorem dX5_countEdges_8 : decode cX5_countEdges 8 = .ok (.iconst 0, 1) := by decide +kernel
theorem dX5_countEdges_9 : decode cX5_countEdges 9 = .ok (.istore_n 3, 1) := by decide +kernel
theorem dX5_countEdges_10 : decode cX5_countEdges 10 = .ok (.iload_n 3, 1) := by decide +kernel
theorem dX5_countEdges_11 : decode cX5_countEdges 11 = .ok (.bipush 8, 2) := by decide +kernel
theorem dX5_countEdges_13 : decode cX5_countEdges 13 = .ok (.if_icmp .ge 62, 3) := by decide +kernel
theorem dX5_countEdges_16 : decode cX5_countEdges 16 = .ok (.iconst 0, 1) := by decide +kernel
theorem dX5_countEdges_17 : decode cX5_countEdges 17 = .ok (.istore 4, 2) := by decide +kernel
theorem dX5_countEdges_19 : decode cX5_countEdges 19 = .ok (.iconst 0, 1) := by decide +kernel
theorem dX5_countEdges_20 : decode cX5_countEdges 20 = .ok (.istore 5, 2) := by decide +kernel
theorem dX5_countEdges_22 : decode cX5_countEdges 22 = .ok (.iload 5, 2) := by decide +kernel
theorem dX5_countEdges_24 : decode cX5_countEdges 24 = .ok (.iconst 4, 1) := by decide +kernel
theorem dX5_countEdges_25 : decode cX5_countEdges 25 = .ok (.if_icmp .ge 30, 3) := by decide +kernel
theorem dX5_countEdges_28 : decode cX5_countEdges 28 = .ok (.iload 4, 2) := by decide +kernel
theorem dX5_countEdges_30 : decode cX5_countEdges 30 = .ok (.aload_n 1, 1) := by decide +kernel
theorem dX5_countEdges_31 : decode cX5_countEdges 31 = .ok (.iload_n 2, 1) := by decide +kernel
theorem dX5_countEdges_32 : decode cX5_countEdges 32 = .ok (.iload 5, 2) := by decide +kernel
theorem dX5_countEdges_34 : decode cX5_countEdges 34 = .ok (.iload_n 3, 1) := by decide +kernel
theorem dX5_countEdges_35 : decode cX5_countEdges 35 = .ok (.invokevirtual 47, 3) := by decide +kernel
theorem dX5_countEdges_38 : decode cX5_countEdges 38 = .ok (.ifCond .eq 7, 3) := by decide +kernel
theorem dX5_countEdges_41 : decode cX5_countEdges 41 = .ok (.iconst 1, 1) := by decide +kernel
theorem dX5_countEdges_42 : decode cX5_countEdges 42 = .ok (.goto 4, 3) := by decide +kernel
theorem dX5_countEdges_45 : decode cX5_countEdges 45 = .ok (.iconst 0, 1) := by decide +kernel
theorem dX5_countEdges_46 : decode cX5_countEdges 46 = .ok (.iadd, 1) := by decide +kernel
theorem dX5_countEdges_47 : decode cX5_countEdges 47 = .ok (.istore 4, 2) := by decide +kernel
theorem dX5_countEdges_49 : decode cX5_countEdges 49 = .ok (.iinc 5 1, 3) := by decide +kernel
theorem dX5_countEdges_52 : decode cX5_countEdges 52 = .ok (.goto (-30), 3) := by decide +kernel
theorem dX5_countEdges_55 : decode cX5_countEdges 55 = .ok (.aload_n 0, 1) := by decide +kernel
theorem dX5_countEdges_56 : decode cX5_countEdges 56 = .ok (.getfield 9, 3) := by decide +kernel
theorem dX5_countEdges_59 : decode cX5_countEdges 59 = .ok (.bipush 8, 2) := by decide +kernel
theorem dX5_countEdges_61 : decode cX5_countEdges 61 = .ok (.iload_n 2, 1) := by decide +kernel
theorem dX5_countEdges_62 : decode cX5_countEdges 62 = .ok (.imul, 1) := by decide +kernel
theorem dX5_countEdges_63 : decode cX5_countEdges 63 = .ok (.iload_n 3, 1) := by decide +kernel
theorem dX5_countEdges_64 : decode cX5_countEdges 64 = .ok (.iadd, 1) := by decide +kernel
theorem dX5_countEdges_65 : decode cX5_countEdges 65 = .ok (.iload 4, 2) := by decide +kernel
theorem dX5_countEdges_67 : decode cX5_countEdges 67 = .ok (.i2l, 1) := by decide +kernel
theorem dX5_countEdges_68 : decode cX5_countEdges 68 = .ok (.lastore, 1) := by decide +kernel
theorem dX5_countEdges_69 : decode cX5_countEdges 69 = .ok (.iinc 3 1, 3) := by decide +kernel
theorem dX5_countEdges_72 : decode cX5_countEdges 72 = .ok (.goto (-62), 3) := by decide +kernel
theorem dX5_countEdges_75 : decode cX5_countEdges 75 = .ok (.iinc 2 1, 3) := by decide +kernel
theorem dX5_countEdges_78 : decode cX5_countEdges 78 = .ok (.goto (-76), 3) := by decide +kernel
theorem dX5_countEdges_81 : decode cX5_countEdges 81 = .ok (.return_, 1) := by decide +kernel
theorem dX5_multiply_0 : decode cX5_multiply 0 = .ok (.iconst 0, 1) := by decide +kernel
theorem dX5_multiply_1 : decode cX5_multiply 1 = .ok (.istore_n 1, 1) := by decide +kernel
theorem dX5_multiply_2 : decode cX5_multiply 2 = .ok (.iload_n 1, 1) := by decide +kernel
theorem dX5_multiply_3 : decode cX5_multiply 3 = .ok (.bipush 8, 2) := by decide +kernel
theorem dX5_multiply_5 : decode cX5_multiply 5 = .ok (.if_icmp .ge 81, 3) := by decide +kernel
theorem dX5_multiply_8 : decode cX5_multiply 8 = .ok (.iconst 0, 1) := by decide +kernel
theorem dX5_multiply_9 : decode cX5_multiply 9 = .ok (.istore_n 2, 1) := by decide +kernel
theorem dX5_multiply_10 : decode cX5_multiply 10 = .ok (.iload_n 2, 1) := by decide +kernel
theorem dX5_multiply_11 : decode cX5_multiply 11 = .ok (.bipush 8, 2) := by decide +kernel
theorem dX5_multiply_13 : decode cX5_multiply 13 = .ok (.if_icmp .ge 67, 3) := by decide +kernel
theorem dX5_multiply_16 : decode cX5_multiply 16 = .ok (.lconst 0, 1) := by decide +kernel
theorem dX5_multiply_17 : decode cX5_multiply 17 = .ok (.lstore_n 3, 1) := by decide +kernel
theorem dX5_multiply_18 : decode cX5_multiply 18 = .ok (.iconst 0, 1) := by decide +kernel
theorem dX5_multiply_19 : decode cX5_multiply 19 = .ok (.istore 5, 2) := by decide +kernel
theorem dX5_multiply_21 : decode cX5_multiply 21 = .ok (.iload 5, 2) := by decide +kernel
theorem dX5_multiply_23 : decode cX5_multiply 23 = .ok (.bipush 8, 2) := by decide +kernel
theorem dX5_multiply_25 : decode cX5_multiply 25 = .ok (.if_icmp .ge 37, 3) := by decide +kernel
theorem dX5_multiply_28 : decode cX5_multiply 28 = .ok (.lload_n 3, 1) := by decide +kernel
theorem dX5_multiply_29 : decode cX5_multiply 29 = .ok (.aload_n 0, 1) := by decide +kernel
theorem dX5_multiply_30 : decode cX5_multiply 30 = .ok (.getfield 9, 3) := by decide +kernel
theorem dX5_multiply_33 : decode cX5_multiply 33 = .ok (.bipush 8, 2) := by decide +kernel
theorem dX5_multiply_35 : decode cX5_multiply 35 = .ok (.iload_n 1, 1) := by decide +kernel
theorem dX5_multiply_36 : decode cX5_multiply 36 = .ok (.imul, 1) := by decide +kernel
theorem dX5_multiply_37 : decode cX5_multiply 37 = .ok (.iload 5, 2) := by decide +kernel
theorem dX5_multiply_39 : decode cX5_multiply 39 = .ok (.iadd, 1) := by decide +kernel
theorem dX5_multiply_40 : decode cX5_multiply 40 = .ok (.laload, 1) := by decide +kernel
theorem dX5_multiply_41 : decode cX5_multiply 41 = .ok (.aload_n 0, 1) := by decide +kernel
theorem dX5_multiply_42 : decode cX5_multiply 42 = .ok (.getfield 15, 3) := by decide +kernel
theorem dX5_multiply_45 : decode cX5_multiply 45 = .ok (.bipush 8, 2) := by decide +kernel
theorem dX5_multiply_47 : decode cX5_multiply 47 = .ok (.iload 5, 2) := by decide +kernel
theorem dX5_multiply_49 : decode cX5_multiply 49 = .ok (.imul, 1) := by decide +kernel
theorem dX5_multiply_50 : decode cX5_multiply 50 = .ok (.iload_n 2, 1) := by decide +kernel
theorem dX5_multiply_51 : decode cX5_multiply 51 = .ok (.iadd, 1) := by decide +kernel
theorem dX5_multiply_52 : decode cX5_multiply 52 = .ok (.laload, 1) := by decide +kernel
theorem dX5_multiply_53 : decode cX5_multiply 53 = .ok (.lmul, 1) := by decide +kernel
theorem dX5_multiply_54 : decode cX5_multiply 54 = .ok (.ladd, 1) := by decide +kernel
theorem dX5_multiply_55 : decode cX5_multiply 55 = .ok (.lstore_n 3, 1) := by decide +kernel
theorem dX5_multiply_56 : decode cX5_multiply 56 = .ok (.iinc 5 1, 3) := by decide +kernel
theorem dX5_multiply_59 : decode cX5_multiply 59 = .ok (.goto (-38), 3) := by decide +kernel
theorem dX5_multiply_62 : decode cX5_multiply 62 = .ok (.aload_n 0, 1) := by decide +kernel
theorem dX5_multiply_63 : decode cX5_multiply 63 = .ok (.getfield 18, 3) := by decide +kernel
theorem dX5_multiply_66 : decode cX5_multiply 66 = .ok (.bipush 8, 2) := by decide +kernel
theorem dX5_multiply_68 : decode cX5_multiply 68 = .ok (.iload_n 1, 1) := by decide +kernel
theorem dX5_multiply_69 : decode cX5_multiply 69 = .ok (.imul, 1) := by decide +kernel
theorem dX5_multiply_70 : decode cX5_multiply 70 = .ok (.iload_n 2, 1) := by decide +kernel
theorem dX5_multiply_71 : decode cX5_multiply 71 = .ok (.iadd, 1) := by decide +kernel
theorem dX5_multiply_72 : decode cX5_multiply 72 = .ok (.lload_n 3, 1) := by decide +kernel
theorem dX5_multiply_73 : decode cX5_multiply 73 = .ok (.lastore, 1) := by decide +kernel
theorem dX5_multiply_74 : decode cX5_multiply 74 = .ok (.iinc 2 1, 3) := by decide +kernel
theorem dX5_multiply_77 : decode cX5_multiply 77 = .ok (.goto (-67), 3) := by decide +kernel
theorem dX5_multiply_80 : decode cX5_multiply 80 = .ok (.iinc 1 1, 3) := by decide +kernel
theorem dX5_multiply_83 : decode cX5_multiply 83 = .ok (.goto (-81), 3) := by decide +kernel
theorem dX5_multiply_86 : decode cX5_multiply 86 = .ok (.return_, 1) := by decide +kernel
theorem dX5_trace_0 : decode cX5_trace 0 = .ok (.lconst 0, 1) := by decide +kernel
theorem dX5_trace_1 : decode cX5_trace 1 = .ok (.lstore_n 1, 1) := by decide +kernel
theorem dX5_trace_2 : decode cX5_trace 2 = .ok (.iconst 0, 1) := by decide +kernel
theorem dX5_trace_3 : decode cX5_trace 3 = .ok (.istore_n 3, 1) := by decide +kernel
theorem dX5_trace_4 : decode cX5_trace 4 = .ok (.iload_n 3, 1) := by decide +kernel
theorem dX5_trace_5 : decode cX5_trace 5 = .ok (.bipush 8, 2) := by decide +kernel
