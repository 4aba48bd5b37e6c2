theorem dX0_init_0 : decode cX0_init 0 = .ok (.aload_n 0, 1) := by decide +kernel
theorem dX0_init_1 : decode cX0_init 1 = .ok (.invokespecial 3, 3) := by decide +kernel
theorem dX0_init_4 : decode cX0_init 4 = .ok (.aload_n 0, 1) := by decide +kernel
theorem dX0_init_5 : decode cX0_init 5 = .ok (.iconst 1, 1) := by decide +kernel
theorem dX0_init_6 : decode cX0_init 6 = .ok (.putfield 9, 3) := by decide +kernel
theorem dX0_init_9 : decode cX0_init 9 = .ok (.aload_n 0, 1) := by decide +kernel
theorem dX0_init_10 : decode cX0_init 10 = .ok (.bipush 49, 2) := by decide +kernel
theorem dX0_init_12 : decode cX0_init 12 = .ok (.newarray .int, 2) := by decide +kernel
theorem dX0_init_14 : decode cX0_init 14 = .ok (.putfield 15, 3) := by decide +kernel
theorem dX0_init_17 : decode cX0_init 17 = .ok (.aload_n 0, 1) := by decide +kernel
theorem dX0_init_18 : decode cX0_init 18 = .ok (.sipush 128, 3) := by decide +kernel
theorem dX0_init_21 : decode cX0_init 21 = .ok (.newarray .int, 2) := by decide +kernel
theorem dX0_init_23 : decode cX0_init 23 = .ok (.putfield 19, 3) := by decide +kernel
theorem dX0_init_26 : decode cX0_init 26 = .ok (.aload_n 0, 1) := by decide +kernel
theorem dX0_init_27 : decode cX0_init 27 = .ok (.sipush 128, 3) := by decide +kernel
theorem dX0_init_30 : decode cX0_init 30 = .ok (.newarray .int, 2) := by decide +kernel
theorem dX0_init_32 : decode cX0_init 32 = .ok (.putfield 22, 3) := by decide +kernel
theorem dX0_init_35 : decode cX0_init 35 = .ok (.aload_n 0, 1) := by decide +kernel
theorem dX0_init_36 : decode cX0_init 36 = .ok (.sipush 128, 3) := by decide +kernel
theorem dX0_init_39 : decode cX0_init 39 = .ok (.newarray .int, 2) := by decide +kernel
theorem dX0_init_41 : decode cX0_init 41 = .ok (.putfield 25, 3) := by decide +kernel
theorem dX0_init_44 : decode cX0_init 44 = .ok (.return_, 1) := by decide +kernel
theorem dX0_load_0 : decode cX0_load 0 = .ok (.aload_n 0, 1) := by decide +kernel
theorem dX0_load_1 : decode cX0_load 1 = .ok (.aload_n 1, 1) := by decide +kernel
theorem dX0_load_2 : decode cX0_load 2 = .ok (.getfield 28, 3) := by decide +kernel
theorem dX0_load_5 : decode cX0_load 5 = .ok (.putfield 9, 3) := by decide +kernel
theorem dX0_load_8 : decode cX0_load 8 = .ok (.iconst 0, 1) := by decide +kernel
theorem dX0_load_9 : decode cX0_load 9 = .ok (.istore_n 2, 1) := by decide +kernel
theorem dX0_load_10 : decode cX0_load 10 = .ok (.iload_n 2, 1) := by decide +kernel
theorem dX0_load_11 : decode cX0_load 11 = .ok (.aload_n 0, 1) := by decide +kernel
theorem dX0_load_12 : decode cX0_load 12 = .ok (.getfield 9, 3) := by decide +kernel
theorem dX0_load_15 : decode cX0_load 15 = .ok (.if_icmp .ge 37, 3) := by decide +kernel
theorem dX0_load_18 : decode cX0_load 18 = .ok (.iconst 0, 1) := by decide +kernel
theorem dX0_load_19 : decode cX0_load 19 = .ok (.istore_n 3, 1) := by decide +kernel
theorem dX0_load_20 : decode cX0_load 20 = .ok (.iload_n 3, 1) := by decide +kernel
theorem dX0_load_21 : decode cX0_load 21 = .ok (.aload_n 0, 1) := by decide +kernel
theorem dX0_load_22 : decode cX0_load 22 = .ok (.getfield 9, 3) := by decide +kernel
theorem dX0_load_25 : decode cX0_load 25 = .ok (.if_icmp .ge 21, 3) := by decide +kernel
theorem dX0_load_28 : decode cX0_load 28 = .ok (.aload_n 0, 1) := by decide +kernel
theorem dX0_load_29 : decode cX0_load 29 = .ok (.iload_n 2, 1) := by decide +kernel
theorem dX0_load_30 : decode cX0_load 30 = .ok (.iload_n 3, 1) := by decide +kernel
theorem dX0_load_31 : decode cX0_load 31 = .ok (.aload_n 1, 1) := by decide +kernel
theorem dX0_load_32 : decode cX0_load 32 = .ok (.iload_n 2, 1) := by decide +kernel
theorem dX0_load_33 : decode cX0_load 33 = .ok (.iload_n 3, 1) := by decide +kernel
theorem dX0_load_34 : decode cX0_load 34 = .ok (.invokevirtual 33, 3) := by decide +kernel
theorem dX0_load_37 : decode cX0_load 37 = .ok (.invokevirtual 37, 3) := by decide +kernel
theorem dX0_load_40 : decode cX0_load 40 = .ok (.iinc 3 1, 3) := by decide +kernel
theorem dX0_load_43 : decode cX0_load 43 = .ok (.goto (-23), 3) := by decide +kernel
theorem dX0_load_46 : decode cX0_load 46 = .ok (.iinc 2 1, 3) := by decide +kernel
theorem dX0_load_49 : decode cX0_load 49 = .ok (.goto (-39), 3) := by decide +kernel
theorem dX0_load_52 : decode cX0_load 52 = .ok (.return_, 1) := by decide +kernel
theorem dX0_putCost_0 : decode cX0_putCost 0 = .ok (.aload_n 0, 1) := by decide +kernel
theorem dX0_putCost_1 : decode cX0_putCost 1 = .ok (.getfield 15, 3) := by decide +kernel
theorem dX0_putCost_4 : decode cX0_putCost 4 = .ok (.iload_n 1, 1) := by decide +kernel
theorem dX0_putCost_5 : decode cX0_putCost 5 = .ok (.iload_n 2, 1) := by decide +kernel
theorem dX0_putCost_6 : decode cX0_putCost 6 = .ok (.invokestatic 41, 3) := by decide +kernel
theorem dX0_putCost_9 : decode cX0_putCost 9 = .ok (.iload_n 3, 1) := by decide +kernel
theorem dX0_putCost_10 : decode cX0_putCost 10 = .ok (.iastore, 1) := by decide +kernel
theorem dX0_putCost_11 : decode cX0_putCost 11 = .ok (.return_, 1) := by decide +kernel
theorem dX0_allColumns_0 : decode cX0_allColumns 0 = .ok (.iconst 1, 1) := by decide +kernel
theorem dX0_allColumns_1 : decode cX0_allColumns 1 = .ok (.aload_n 0, 1) := by decide +kernel
theorem dX0_allColumns_2 : decode cX0_allColumns 2 = .ok (.getfield 9, 3) := by decide +kernel
theorem dX0_allColumns_5 : decode cX0_allColumns 5 = .ok (.ishl, 1) := by decide +kernel
theorem dX0_allColumns_6 : decode cX0_allColumns 6 = .ok (.iconst 1, 1) := by decide +kernel
theorem dX0_allColumns_7 : decode cX0_allColumns 7 = .ok (.isub, 1) := by decide +kernel
theorem dX0_allColumns_8 : decode cX0_allColumns 8 = .ok (.ireturn, 1) := by decide +kernel
theorem dX0_isFree_0 : decode cX0_isFree 0 = .ok (.iload_n 0, 1) := by decide +kernel
theorem dX0_isFree_1 : decode cX0_isFree 1 = .ok (.iload_n 1, 1) := by decide +kernel
theorem dX0_isFree_2 : decode cX0_isFree 2 = .ok (.ishr, 1) := by decide +kernel
theorem dX0_isFree_3 : decode cX0_isFree 3 = .ok (.iconst 1, 1) := by decide +kernel
theorem dX0_isFree_4 : decode cX0_isFree 4 = .ok (.iand, 1) := by decide +kernel
theorem dX0_isFree_5 : decode cX0_isFree 5 = .ok (.ifCond .ne 7, 3) := by decide +kernel
theorem dX0_isFree_8 : decode cX0_isFree 8 = .ok (.iconst 1, 1) := by decide +kernel
theorem dX0_isFree_9 : decode cX0_isFree 9 = .ok (.goto 4, 3) := by decide +kernel
theorem dX0_isFree_12 : decode cX0_isFree 12 = .ok (.iconst 0, 1) := by decide +kernel
theorem dX0_isFree_13 : decode cX0_isFree 13 = .ok (.ireturn, 1) := by decide +kernel
theorem dX0_leastSum_0 : decode cX0_leastSum 0 = .ok (.aload_n 0, 1) := by decide +kernel
theorem dX0_leastSum_1 : decode cX0_leastSum 1 = .ok (.invokevirtual 44, 3) := by decide +kernel
theorem dX0_leastSum_4 : decode cX0_leastSum 4 = .ok (.istore_n 1, 1) := by decide +kernel
theorem dX0_leastSum_5 : decode cX0_leastSum 5 = .ok (.aload_n 0, 1) := by decide +kernel
theorem dX0_leastSum_6 : decode cX0_leastSum 6 = .ok (.getfield 19, 3) := by decide +kernel
theorem dX0_leastSum_9 : decode cX0_leastSum 9 = .ok (.iload_n 1, 1) := by decide +kernel
theorem dX0_leastSum_10 : decode cX0_leastSum 10 = .ok (.iconst 0, 1) := by decide +kernel
theorem dX0_leastSum_11 : decode cX0_leastSum 11 = .ok (.iastore, 1) := by decide +kernel
theorem dX0_leastSum_12 : decode cX0_leastSum 12 = .ok (.aload_n 0, 1) := by decide +kernel
theorem dX0_leastSum_13 : decode cX0_leastSum 13 = .ok (.getfield 22, 3) := by decide +kernel
theorem dX0_leastSum_16 : decode cX0_leastSum 16 = .ok (.iload_n 1, 1) := by decide +kernel
theorem dX0_leastSum_17 : decode cX0_leastSum 17 = .ok (.iconst 1, 1) := by decide +kernel
theorem dX0_leastSum_18 : decode cX0_leastSum 18 = .ok (.iastore, 1) := by decide +kernel
theorem dX0_leastSum_19 : decode cX0_leastSum 19 = .ok (.iload_n 1, 1) := by decide +kernel
theorem dX0_leastSum_20 : decode cX0_leastSum 20 = .ok (.iconst 1, 1) := by decide +kernel
theorem dX0_leastSum_21 : decode cX0_leastSum 21 = .ok (.isub, 1) := by decide +kernel
theorem dX0_leastSum_22 : decode cX0_leastSum 22 = .ok (.istore_n 2, 1) := by decide +kernel
theorem dX0_leastSum_23 : decode cX0_leastSum 23 = .ok (.iload_n 2, 1) := by decide +kernel
theorem dX0_leastSum_24 : decode cX0_leastSum 24 = .ok (.ifCond .lt 14, 3) := by decide +kernel
theorem dX0_leastSum_27 : decode cX0_leastSum 27 = .ok (.aload_n 0, 1) := by decide +kernel
theorem dX0_leastSum_28 : decode cX0_leastSum 28 = .ok (.iload_n 2, 1) := by decide +kernel
theorem dX0_leastSum_29 : decode cX0_leastSum 29 = .ok (.invokevirtual 48, 3) := by decide +kernel
theorem dX0_leastSum_32 : decode cX0_leastSum 32 = .ok (.iinc 2 (-1), 3) := by decide +kernel
theorem dX0_leastSum_35 : decode cX0_leastSum 35 = .ok (.goto (-12), 3) := by decide +kernel
theorem dX0_leastSum_38 : decode cX0_leastSum 38 = .ok (.aload_n 0, 1) := by decide +kernel
theorem dX0_leastSum_39 : decode cX0_leastSum 39 = .ok (.getfield 19, 3) := by decide +kernel
theorem dX0_leastSum_42 : decode cX0_leastSum 42 = .ok (.iconst 0, 1) := by decide +kernel
theorem dX0_leastSum_43 : decode cX0_leastSum 43 = .ok (.iaload, 1) := by decide +kernel
theorem dX0_leastSum_44 : decode cX0_leastSum 44 = .ok (.ireturn, 1) := by decide +kernel
theorem dX0_findLeast_0 : decode cX0_findLeast 0 = .ok (.iload_n 1, 1) := by decide +kernel
theorem dX0_findLeast_1 : decode cX0_findLeast 1 = .ok (.invokestatic 52, 3) := by decide +kernel
theorem dX0_findLeast_4 : decode cX0_findLeast 4 = .ok (.istore_n 2, 1) := by decide +kernel
theorem dX0_findLeast_5 : decode cX0_findLeast 5 = .ok (.ldc 58, 2) := by decide +kernel
theorem dX0_findLeast_7 : decode cX0_findLeast 7 = .ok (.istore_n 3, 1) := by decide +kernel
theorem dX0_findLeast_8 : decode cX0_findLeast 8 = .ok (.iconst 0, 1) := by decide +kernel
theorem dX0_findLeast_9 : decode cX0_findLeast 9 = .ok (.istore 4, 2) := by decide +kernel
theorem dX0_findLeast_11 : decode cX0_findLeast 11 = .ok (.iconst 0, 1) := by decide +kernel
theorem dX0_findLeast_12 : decode cX0_findLeast 12 = .ok (.istore 5, 2) := by decide +kernel
theorem dX0_findLeast_14 : decode cX0_findLeast 14 = .ok (.iload 5, 2) := by decide +kernel
theorem dX0_findLeast_16 : decode cX0_findLeast 16 = .ok (.aload_n 0, 1) := by decide +kernel
theorem dX0_findLeast_17 : decode cX0_findLeast 17 = .ok (.getfield 9, 3) := by decide +kernel
theorem dX0_findLeast_20 : decode cX0_findLeast 20 = .ok (.if_icmp .ge 77, 3) := by decide +kernel
theorem dX0_findLeast_23 : decode cX0_findLeast 23 = .ok (.iload_n 1, 1) := by decide +kernel
theorem dX0_findLeast_24 : decode cX0_findLeast 24 = .ok (.iload 5, 2) := by decide +kernel
theorem dX0_findLeast_26 : decode cX0_findLeast 26 = .ok (.invokestatic 59, 3) := by decide +kernel
theorem dX0_findLeast_29 : decode cX0_findLeast 29 = .ok (.ifCond .eq 62, 3) := by decide +kernel
theorem dX0_findLeast_32 : decode cX0_findLeast 32 = .ok (.iload_n 1, 1) := by decide +kernel
theorem dX0_findLeast_33 : decode cX0_findLeast 33 = .ok (.iconst 1, 1) := by decide +kernel
theorem dX0_findLeast_34 : decode cX0_findLeast 34 = .ok (.iload 5, 2) := by decide +kernel
theorem dX0_findLeast_36 : decode cX0_findLeast 36 = .ok (.ishl, 1) := by decide +kernel
theorem dX0_findLeast_37 : decode cX0_findLeast 37 = .ok (.ior, 1) := by decide +kernel
theorem dX0_findLeast_38 : decode cX0_findLeast 38 = .ok (.istore 6, 2) := by decide +kernel
theorem dX0_findLeast_40 : decode cX0_findLeast 40 = .ok (.aload_n 0, 1) := by decide +kernel
theorem dX0_findLeast_41 : decode cX0_findLeast 41 = .ok (.getfield 15, 3) := by decide +kernel
theorem dX0_findLeast_44 : decode cX0_findLeast 44 = .ok (.iload_n 2, 1) := by decide +kernel
theorem dX0_findLeast_45 : decode cX0_findLeast 45 = .ok (.iload 5, 2) := by decide +kernel
theorem dX0_findLeast_47 : decode cX0_findLeast 47 = .ok (.invokestatic 41, 3) := by decide +kernel
theorem dX0_findLeast_50 : decode cX0_findLeast 50 = .ok (.iaload, 1) := by decide +kernel
theorem dX0_findLeast_51 : decode cX0_findLeast 51 = .ok (.aload_n 0, 1) := by decide +kernel
theorem dX0_findLeast_52 : decode cX0_findLeast 52 = .ok (.getfield 19, 3) := by decide +kernel
theorem dX0_findLeast_55 : decode cX0_findLeast 55 = .ok (.iload 6, 2) := by decide +kernel
theorem dX0_findLeast_57 : decode cX0_findLeast 57 = .ok (.iaload, 1) := by decide +kernel
theorem dX0_findLeast_58 : decode cX0_findLeast 58 = .ok (.iadd, 1) := by decide +kernel
theorem dX0_findLeast_59 : decode cX0_findLeast 59 = .ok (.istore 7, 2) := by decide +kernel
theorem dX0_findLeast_61 : decode cX0_findLeast 61 = .ok (.iload 7, 2) := by decide +kernel
theorem dX0_findLeast_63 : decode cX0_findLeast 63 = .ok (.iload_n 3, 1) := by decide +kernel
theorem dX0_findLeast_64 : decode cX0_findLeast 64 = .ok (.if_icmp .ge 9, 3) := by decide +kernel
theorem dX0_findLeast_67 : decode cX0_findLeast 67 = .ok (.iload 7, 2) := by decide +kernel
theorem dX0_findLeast_69 : decode cX0_findLeast 69 = .ok (.istore_n 3, 1) := by decide +kernel
theorem dX0_findLeast_70 : decode cX0_findLeast 70 = .ok (.iconst 0, 1) := by decide +kernel
theorem dX0_findLeast_71 : decode cX0_findLeast 71 = .ok (.istore 4, 2) := by decide +kernel
theorem dX0_findLeast_73 : decode cX0_findLeast 73 = .ok (.iload 7, 2) := by decide +kernel
theorem dX0_findLeast_75 : decode cX0_findLeast 75 = .ok (.iload_n 3, 1) := by decide +kernel
theorem dX0_findLeast_76 : decode cX0_findLeast 76 = .ok (.if_icmp .ne 15, 3) := by decide +kernel
theorem dX0_findLeast_79 : decode cX0_findLeast 79 = .ok (.iload 4, 2) := by decide +kernel
theorem dX0_findLeast_81 : decode cX0_findLeast 81 = .ok (.aload_n 0, 1) := by decide +kernel
theorem dX0_findLeast_82 : decode cX0_findLeast 82 = .ok (.getfield 22, 3) := by decide +kernel
theorem dX0_findLeast_85 : decode cX0_findLeast 85 = .ok (.iload 6, 2) := by decide +kernel
theorem dX0_findLeast_87 : decode cX0_findLeast 87 = .ok (.iaload, 1) := by decide +kernel
theorem dX0_findLeast_88 : decode cX0_findLeast 88 = .ok (.iadd, 1) := by decide +kernel
theorem dX0_findLeast_89 : decode cX0_findLeast 89 = .ok (.istore 4, 2) := by decide +kernel
theorem dX0_findLeast_91 : decode cX0_findLeast 91 = .ok (.iinc 5 1, 3) := by decide +kernel
theorem dX0_findLeast_94 : decode cX0_findLeast 94 = .ok (.goto (-80), 3) := by decide +kernel
theorem dX0_findLeast_97 : decode cX0_findLeast 97 = .ok (.aload_n 0, 1) := by decide +kernel
theorem dX0_findLeast_98 : decode cX0_findLeast 98 = .ok (.getfield 19, 3) := by decide +kernel
theorem dX0_findLeast_101 : decode cX0_findLeast 101 = .ok (.iload_n 1, 1) := by decide +kernel
theorem dX0_findLeast_102 : decode cX0_findLeast 102 = .ok (.iload_n 3, 1) := by decide +kernel
theorem dX0_findLeast_103 : decode cX0_findLeast 103 = .ok (.iastore, 1) := by decide +kernel
theorem dX0_findLeast_104 : decode cX0_findLeast 104 = .ok (.aload_n 0, 1) := by decide +kernel
theorem dX0_findLeast_105 : decode cX0_findLeast 105 = .ok (.getfield 22, 3) := by decide +kernel
theorem dX0_findLeast_108 : decode cX0_findLeast 108 = .ok (.iload_n 1, 1) := by decide +kernel
theorem dX0_findLeast_109 : decode cX0_findLeast 109 = .ok (.iload 4, 2) := by decide +kernel
theorem dX0_findLeast_111 : decode cX0_findLeast 111 = .ok (.iastore, 1) := by decide +kernel
theorem dX0_findLeast_112 : decode cX0_findLeast 112 = .ok (.return_, 1) := by decide +kernel
theorem dX0_leastWays_0 : decode cX0_leastWays 0 = .ok (.aload_n 0, 1) := by decide +kernel
theorem dX0_leastWays_1 : decode cX0_leastWays 1 = .ok (.getfield 22, 3) := by decide +kernel
theorem dX0_leastWays_4 : decode cX0_leastWays 4 = .ok (.iconst 0, 1) := by decide +kernel
theorem dX0_leastWays_5 : decode cX0_leastWays 5 = .ok (.iaload, 1) := by decide +kernel
theorem dX0_leastWays_6 : decode cX0_leastWays 6 = .ok (.ireturn, 1) := by decide +kernel
theorem dX0_traceLeast_0 : decode cX0_traceLeast 0 = .ok (.iconst 0, 1) := by decide +kernel
theorem dX0_traceLeast_1 : decode cX0_traceLeast 1 = .ok (.istore_n 2, 1) := by decide +kernel
theorem dX0_traceLeast_2 : decode cX0_traceLeast 2 = .ok (.iconst 0, 1) := by decide +kernel
theorem dX0_traceLeast_3 : decode cX0_traceLeast 3 = .ok (.istore_n 3, 1) := by decide +kernel
theorem dX0_traceLeast_4 : decode cX0_traceLeast 4 = .ok (.iload_n 3, 1) := by decide +kernel
theorem dX0_traceLeast_5 : decode cX0_traceLeast 5 = .ok (.aload_n 0, 1) := by decide +kernel
theorem dX0_traceLeast_6 : decode cX0_traceLeast 6 = .ok (.getfield 9, 3) := by decide +kernel
theorem dX0_traceLeast_9 : decode cX0_traceLeast 9 = .ok (.if_icmp .ge 62, 3) := by decide +kernel
theorem dX0_traceLeast_12 : decode cX0_traceLeast 12 = .ok (.iconst 0, 1) := by decide +kernel
theorem dX0_traceLeast_13 : decode cX0_traceLeast 13 = .ok (.istore 4, 2) := by decide +kernel
theorem dX0_traceLeast_15 : decode cX0_traceLeast 15 = .ok (.iload 4, 2) := by decide +kernel
theorem dX0_traceLeast_17 : decode cX0_traceLeast 17 = .ok (.aload_n 0, 1) := by decide +kernel
theorem dX0_traceLeast_18 : decode cX0_traceLeast 18 = .ok (.getfield 9, 3) := by decide +kernel
theorem dX0_traceLeast_21 : decode cX0_traceLeast 21 = .ok (.if_icmp .ge 44, 3) := by decide +kernel
theorem dX0_traceLeast_24 : decode cX0_traceLeast 24 = .ok (.iload_n 2, 1) := by decide +kernel
theorem dX0_traceLeast_25 : decode cX0_traceLeast 25 = .ok (.iload 4, 2) := by decide +kernel
theorem dX0_traceLeast_27 : decode cX0_traceLeast 27 = .ok (.invokestatic 59, 3) := by decide +kernel
theorem dX0_traceLeast_30 : decode cX0_traceLeast 30 = .ok (.ifCond .eq 29, 3) := by decide +kernel
theorem dX0_traceLeast_33 : decode cX0_traceLeast 33 = .ok (.aload_n 0, 1) := by decide +kernel
theorem dX0_traceLeast_34 : decode cX0_traceLeast 34 = .ok (.iload_n 3, 1) := by decide +kernel
theorem dX0_traceLeast_35 : decode cX0_traceLeast 35 = .ok (.iload 4, 2) := by decide +kernel
theorem dX0_traceLeast_37 : decode cX0_traceLeast 37 = .ok (.iload_n 2, 1) := by decide +kernel
theorem dX0_traceLeast_38 : decode cX0_traceLeast 38 = .ok (.invokevirtual 63, 3) := by decide +kernel
theorem dX0_traceLeast_41 : decode cX0_traceLeast 41 = .ok (.ifCond .eq 18, 3) := by decide +kernel
theorem dX0_traceLeast_44 : decode cX0_traceLeast 44 = .ok (.aload_n 1, 1) := by decide +kernel
theorem dX0_traceLeast_45 : decode cX0_traceLeast 45 = .ok (.iload_n 3, 1) := by decide +kernel
theorem dX0_traceLeast_46 : decode cX0_traceLeast 46 = .ok (.iload 4, 2) := by decide +kernel
theorem dX0_traceLeast_48 : decode cX0_traceLeast 48 = .ok (.iastore, 1) := by decide +kernel
theorem dX0_traceLeast_49 : decode cX0_traceLeast 49 = .ok (.iload_n 2, 1) := by decide +kernel
theorem dX0_traceLeast_50 : decode cX0_traceLeast 50 = .ok (.iconst 1, 1) := by decide +kernel
theorem dX0_traceLeast_51 : decode cX0_traceLeast 51 = .ok (.iload 4, 2) := by decide +kernel
theorem dX0_traceLeast_53 : decode cX0_traceLeast 53 = .ok (.ishl, 1) := by decide +kernel
theorem dX0_traceLeast_54 : decode cX0_traceLeast 54 = .ok (.ior, 1) := by decide +kernel
theorem dX0_traceLeast_55 : decode cX0_traceLeast 55 = .ok (.istore_n 2, 1) := by decide +kernel
theorem dX0_traceLeast_56 : decode cX0_traceLeast 56 = .ok (.goto 9, 3) := by decide +kernel
theorem dX0_traceLeast_59 : decode cX0_traceLeast 59 = .ok (.iinc 4 1, 3) := by decide +kernel
theorem dX0_traceLeast_62 : decode cX0_traceLeast 62 = .ok (.goto (-47), 3) := by decide +kernel
theorem dX0_traceLeast_65 : decode cX0_traceLeast 65 = .ok (.iinc 3 1, 3) := by decide +kernel
theorem dX0_traceLeast_68 : decode cX0_traceLeast 68 = .ok (.goto (-64), 3) := by decide +kernel
theorem dX0_traceLeast_71 : decode cX0_traceLeast 71 = .ok (.return_, 1) := by decide +kernel
theorem dX0_isOnLeast_0 : decode cX0_isOnLeast 0 = .ok (.aload_n 0, 1) := by decide +kernel
theorem dX0_isOnLeast_1 : decode cX0_isOnLeast 1 = .ok (.getfield 15, 3) := by decide +kernel
theorem dX0_isOnLeast_4 : decode cX0_isOnLeast 4 = .ok (.iload_n 1, 1) := by decide +kernel
theorem dX0_isOnLeast_5 : decode cX0_isOnLeast 5 = .ok (.iload_n 2, 1) := by decide +kernel
theorem dX0_isOnLeast_6 : decode cX0_isOnLeast 6 = .ok (.invokestatic 41, 3) := by decide +kernel
theorem dX0_isOnLeast_9 : decode cX0_isOnLeast 9 = .ok (.iaload, 1) := by decide +kernel
theorem dX0_isOnLeast_10 : decode cX0_isOnLeast 10 = .ok (.aload_n 0, 1) := by decide +kernel
theorem dX0_isOnLeast_11 : decode cX0_isOnLeast 11 = .ok (.getfield 19, 3) := by decide +kernel
theorem dX0_isOnLeast_14 : decode cX0_isOnLeast 14 = .ok (.iload_n 3, 1) := by decide +kernel
theorem dX0_isOnLeast_15 : decode cX0_isOnLeast 15 = .ok (.iconst 1, 1) := by decide +kernel
theorem dX0_isOnLeast_16 : decode cX0_isOnLeast 16 = .ok (.iload_n 2, 1) := by decide +kernel
theorem dX0_isOnLeast_17 : decode cX0_isOnLeast 17 = .ok (.ishl, 1) := by decide +kernel
theorem dX0_isOnLeast_18 : decode cX0_isOnLeast 18 = .ok (.ior, 1) := by decide +kernel
theorem dX0_isOnLeast_19 : decode cX0_isOnLeast 19 = .ok (.iaload, 1) := by decide +kernel
theorem dX0_isOnLeast_20 : decode cX0_isOnLeast 20 = .ok (.iadd, 1) := by decide +kernel
theorem dX0_isOnLeast_21 : decode cX0_isOnLeast 21 = .ok (.aload_n 0, 1) := by decide +kernel
theorem dX0_isOnLeast_22 : decode cX0_isOnLeast 22 = .ok (.getfield 19, 3) := by decide +kernel
theorem dX0_isOnLeast_25 : decode cX0_isOnLeast 25 = .ok (.iload_n 3, 1) := by decide +kernel
theorem dX0_isOnLeast_26 : decode cX0_isOnLeast 26 = .ok (.iaload, 1) := by decide +kernel
theorem dX0_isOnLeast_27 : decode cX0_isOnLeast 27 = .ok (.if_icmp .ne 7, 3) := by decide +kernel
theorem dX0_isOnLeast_30 : decode cX0_isOnLeast 30 = .ok (.iconst 1, 1) := by decide +kernel
theorem dX0_isOnLeast_31 : decode cX0_isOnLeast 31 = .ok (.goto 4, 3) := by decide +kernel
theorem dX0_isOnLeast_34 : decode cX0_isOnLeast 34 = .ok (.iconst 0, 1) := by decide +kernel
theorem dX0_isOnLeast_35 : decode cX0_isOnLeast 35 = .ok (.ireturn, 1) := by decide +kernel
theorem dX0_greatestSum_0 : decode cX0_greatestSum 0 = .ok (.aload_n 0, 1) := by decide +kernel
theorem dX0_greatestSum_1 : decode cX0_greatestSum 1 = .ok (.invokevirtual 44, 3) := by decide +kernel
theorem dX0_greatestSum_4 : decode cX0_greatestSum 4 = .ok (.istore_n 1, 1) := by decide +kernel
theorem dX0_greatestSum_5 : decode cX0_greatestSum 5 = .ok (.aload_n 0, 1) := by decide +kernel
theorem dX0_greatestSum_6 : decode cX0_greatestSum 6 = .ok (.getfield 25, 3) := by decide +kernel
theorem dX0_greatestSum_9 : decode cX0_greatestSum 9 = .ok (.iload_n 1, 1) := by decide +kernel
theorem dX0_greatestSum_10 : decode cX0_greatestSum 10 = .ok (.iconst 0, 1) := by decide +kernel
theorem dX0_greatestSum_11 : decode cX0_greatestSum 11 = .ok (.iastore, 1) := by decide +kernel
theorem dX0_greatestSum_12 : decode cX0_greatestSum 12 = .ok (.iload_n 1, 1) := by decide +kernel
theorem dX0_greatestSum_13 : decode cX0_greatestSum 13 = .ok (.iconst 1, 1) := by decide +kernel
theorem dX0_greatestSum_14 : decode cX0_greatestSum 14 = .ok (.isub, 1) := by decide +kernel
theorem dX0_greatestSum_15 : decode cX0_greatestSum 15 = .ok (.istore_n 2, 1) := by decide +kernel
theorem dX0_greatestSum_16 : decode cX0_greatestSum 16 = .ok (.iload_n 2, 1) := by decide +kernel
theorem dX0_greatestSum_17 : decode cX0_greatestSum 17 = .ok (.ifCond .lt 87, 3) := by decide +kernel
theorem dX0_greatestSum_20 : decode cX0_greatestSum 20 = .ok (.iload_n 2, 1) := by decide +kernel
theorem dX0_greatestSum_21 : decode cX0_greatestSum 21 = .ok (.invokestatic 52, 3) := by decide +kernel
theorem dX0_greatestSum_24 : decode cX0_greatestSum 24 = .ok (.istore_n 3, 1) := by decide +kernel
theorem dX0_greatestSum_25 : decode cX0_greatestSum 25 = .ok (.ldc 67, 2) := by decide +kernel
theorem dX0_greatestSum_27 : decode cX0_greatestSum 27 = .ok (.istore 4, 2) := by decide +kernel
theorem dX0_greatestSum_29 : decode cX0_greatestSum 29 = .ok (.iconst 0, 1) := by decide +kernel
theorem dX0_greatestSum_30 : decode cX0_greatestSum 30 = .ok (.istore 5, 2) := by decide +kernel
theorem dX0_greatestSum_32 : decode cX0_greatestSum 32 = .ok (.iload 5, 2) := by decide +kernel
theorem dX0_greatestSum_34 : decode cX0_greatestSum 34 = .ok (.aload_n 0, 1) := by decide +kernel
theorem dX0_greatestSum_35 : decode cX0_greatestSum 35 = .ok (.getfield 9, 3) := by decide +kernel
theorem dX0_greatestSum_38 : decode cX0_greatestSum 38 = .ok (.if_icmp .ge 52, 3) := by decide +kernel
theorem dX0_greatestSum_41 : decode cX0_greatestSum 41 = .ok (.iload_n 2, 1) := by decide +kernel
theorem dX0_greatestSum_42 : decode cX0_greatestSum 42 = .ok (.iload 5, 2) := by decide +kernel
theorem dX0_greatestSum_44 : decode cX0_greatestSum 44 = .ok (.invokestatic 59, 3) := by decide +kernel
theorem dX0_greatestSum_47 : decode cX0_greatestSum 47 = .ok (.ifCond .eq 37, 3) := by decide +kernel
theorem dX0_greatestSum_50 : decode cX0_greatestSum 50 = .ok (.aload_n 0, 1) := by decide +kernel
theorem dX0_greatestSum_51 : decode cX0_greatestSum 51 = .ok (.getfield 15, 3) := by decide +kernel
theorem dX0_greatestSum_54 : decode cX0_greatestSum 54 = .ok (.iload_n 3, 1) := by decide +kernel
theorem dX0_greatestSum_55 : decode cX0_greatestSum 55 = .ok (.iload 5, 2) := by decide +kernel
theorem dX0_greatestSum_57 : decode cX0_greatestSum 57 = .ok (.invokestatic 41, 3) := by decide +kernel
theorem dX0_greatestSum_60 : decode cX0_greatestSum 60 = .ok (.iaload, 1) := by decide +kernel
theorem dX0_greatestSum_61 : decode cX0_greatestSum 61 = .ok (.aload_n 0, 1) := by decide +kernel
theorem dX0_greatestSum_62 : decode cX0_greatestSum 62 = .ok (.getfield 25, 3) := by decide +kernel
theorem dX0_greatestSum_65 : decode cX0_greatestSum 65 = .ok (.iload_n 2, 1) := by decide +kernel
theorem dX0_greatestSum_66 : decode cX0_greatestSum 66 = .ok (.iconst 1, 1) := by decide +kernel
theorem dX0_greatestSum_67 : decode cX0_greatestSum 67 = .ok (.iload 5, 2) := by decide +kernel
theorem dX0_greatestSum_69 : decode cX0_greatestSum 69 = .ok (.ishl, 1) := by decide +kernel
theorem dX0_greatestSum_70 : decode cX0_greatestSum 70 = .ok (.ior, 1) := by decide +kernel
theorem dX0_greatestSum_71 : decode cX0_greatestSum 71 = .ok (.iaload, 1) := by decide +kernel
theorem dX0_greatestSum_72 : decode cX0_greatestSum 72 = .ok (.iadd, 1) := by decide +kernel
theorem dX0_greatestSum_73 : decode cX0_greatestSum 73 = .ok (.istore 6, 2) := by decide +kernel
theorem dX0_greatestSum_75 : decode cX0_greatestSum 75 = .ok (.iload 4, 2) := by decide +kernel
theorem dX0_greatestSum_77 : decode cX0_greatestSum 77 = .ok (.iload 6, 2) := by decide +kernel
theorem dX0_greatestSum_79 : decode cX0_greatestSum 79 = .ok (.invokestatic 68, 3) := by decide +kernel
theorem dX0_greatestSum_82 : decode cX0_greatestSum 82 = .ok (.istore 4, 2) := by decide +kernel
theorem dX0_greatestSum_84 : decode cX0_greatestSum 84 = .ok (.iinc 5 1, 3) := by decide +kernel
theorem dX0_greatestSum_87 : decode cX0_greatestSum 87 = .ok (.goto (-55), 3) := by decide +kernel
theorem dX0_greatestSum_90 : decode cX0_greatestSum 90 = .ok (.aload_n 0, 1) := by decide +kernel
theorem dX0_greatestSum_91 : decode cX0_greatestSum 91 = .ok (.getfield 25, 3) := by decide +kernel
theorem dX0_greatestSum_94 : decode cX0_greatestSum 94 = .ok (.iload_n 2, 1) := by decide +kernel
theorem dX0_greatestSum_95 : decode cX0_greatestSum 95 = .ok (.iload 4, 2) := by decide +kernel
theorem dX0_greatestSum_97 : decode cX0_greatestSum 97 = .ok (.iastore, 1) := by decide +kernel
theorem dX0_greatestSum_98 : decode cX0_greatestSum 98 = .ok (.iinc 2 (-1), 3) := by decide +kernel
theorem dX0_greatestSum_101 : decode cX0_greatestSum 101 = .ok (.goto (-85), 3) := by decide +kernel
theorem dX0_greatestSum_104 : decode cX0_greatestSum 104 = .ok (.aload_n 0, 1) := by decide +kernel
theorem dX0_greatestSum_105 : decode cX0_greatestSum 105 = .ok (.getfield 25, 3) := by decide +kernel
theorem dX0_greatestSum_108 : decode cX0_greatestSum 108 = .ok (.iconst 0, 1) := by decide +kernel
theorem dX0_greatestSum_109 : decode cX0_greatestSum 109 = .ok (.iaload, 1) := by decide +kernel
theorem dX0_greatestSum_110 : decode cX0_greatestSum 110 = .ok (.ireturn, 1) := by decide +kernel
theorem dX0_leastPeak_0 : decode cX0_leastPeak 0 = .ok (.aload_n 0, 1) := by decide +kernel
theorem dX0_leastPeak_1 : decode cX0_leastPeak 1 = .ok (.invokevirtual 44, 3) := by decide +kernel
theorem dX0_leastPeak_4 : decode cX0_leastPeak 4 = .ok (.istore_n 1, 1) := by decide +kernel
theorem dX0_leastPeak_5 : decode cX0_leastPeak 5 = .ok (.aload_n 0, 1) := by decide +kernel
theorem dX0_leastPeak_6 : decode cX0_leastPeak 6 = .ok (.getfield 19, 3) := by decide +kernel
theorem dX0_leastPeak_9 : decode cX0_leastPeak 9 = .ok (.iload_n 1, 1) := by decide +kernel
theorem dX0_leastPeak_10 : decode cX0_leastPeak 10 = .ok (.iconst 0, 1) := by decide +kernel
theorem dX0_leastPeak_11 : decode cX0_leastPeak 11 = .ok (.iastore, 1) := by decide +kernel
theorem dX0_leastPeak_12 : decode cX0_leastPeak 12 = .ok (.iload_n 1, 1) := by decide +kernel
theorem dX0_leastPeak_13 : decode cX0_leastPeak 13 = .ok (.iconst 1, 1) := by decide +kernel
theorem dX0_leastPeak_14 : decode cX0_leastPeak 14 = .ok (.isub, 1) := by decide +kernel
theorem dX0_leastPeak_15 : decode cX0_leastPeak 15 = .ok (.istore_n 2, 1) := by decide +kernel
theorem dX0_leastPeak_16 : decode cX0_leastPeak 16 = .ok (.iload_n 2, 1) := by decide +kernel
theorem dX0_leastPeak_17 : decode cX0_leastPeak 17 = .ok (.ifCond .lt 89, 3) := by decide +kernel
theorem dX0_leastPeak_20 : decode cX0_leastPeak 20 = .ok (.iload_n 2, 1) := by decide +kernel
theorem dX0_leastPeak_21 : decode cX0_leastPeak 21 = .ok (.invokestatic 52, 3) := by decide +kernel
theorem dX0_leastPeak_24 : decode cX0_leastPeak 24 = .ok (.istore_n 3, 1) := by decide +kernel
theorem dX0_leastPeak_25 : decode cX0_leastPeak 25 = .ok (.ldc 58, 2) := by decide +kernel
theorem dX0_leastPeak_27 : decode cX0_leastPeak 27 = .ok (.istore 4, 2) := by decide +kernel
theorem dX0_leastPeak_29 : decode cX0_leastPeak 29 = .ok (.iconst 0, 1) := by decide +kernel
theorem dX0_leastPeak_30 : decode cX0_leastPeak 30 = .ok (.istore 5, 2) := by decide +kernel
theorem dX0_leastPeak_32 : decode cX0_leastPeak 32 = .ok (.iload 5, 2) := by decide +kernel
theorem dX0_leastPeak_34 : decode cX0_leastPeak 34 = .ok (.aload_n 0, 1) := by decide +kernel
theorem dX0_leastPeak_35 : decode cX0_leastPeak 35 = .ok (.getfield 9, 3) := by decide +kernel
theorem dX0_leastPeak_38 : decode cX0_leastPeak 38 = .ok (.if_icmp .ge 54, 3) := by decide +kernel
theorem dX0_leastPeak_41 : decode cX0_leastPeak 41 = .ok (.iload_n 2, 1) := by decide +kernel
theorem dX0_leastPeak_42 : decode cX0_leastPeak 42 = .ok (.iload 5, 2) := by decide +kernel
theorem dX0_leastPeak_44 : decode cX0_leastPeak 44 = .ok (.invokestatic 59, 3) := by decide +kernel
theorem dX0_leastPeak_47 : decode cX0_leastPeak 47 = .ok (.ifCond .eq 39, 3) := by decide +kernel
theorem dX0_leastPeak_50 : decode cX0_leastPeak 50 = .ok (.aload_n 0, 1) := by decide +kernel
theorem dX0_leastPeak_51 : decode cX0_leastPeak 51 = .ok (.getfield 15, 3) := by decide +kernel
theorem dX0_leastPeak_54 : decode cX0_leastPeak 54 = .ok (.iload_n 3, 1) := by decide +kernel
theorem dX0_leastPeak_55 : decode cX0_leastPeak 55 = .ok (.iload 5, 2) := by decide +kernel
theorem dX0_leastPeak_57 : decode cX0_leastPeak 57 = .ok (.invokestatic 41, 3) := by decide +kernel
theorem dX0_leastPeak_60 : decode cX0_leastPeak 60 = .ok (.iaload, 1) := by decide +kernel
theorem dX0_leastPeak_61 : decode cX0_leastPeak 61 = .ok (.istore 6, 2) := by decide +kernel
theorem dX0_leastPeak_63 : decode cX0_leastPeak 63 = .ok (.iload 4, 2) := by decide +kernel
theorem dX0_leastPeak_65 : decode cX0_leastPeak 65 = .ok (.iload 6, 2) := by decide +kernel
theorem dX0_leastPeak_67 : decode cX0_leastPeak 67 = .ok (.aload_n 0, 1) := by decide +kernel
theorem dX0_leastPeak_68 : decode cX0_leastPeak 68 = .ok (.getfield 19, 3) := by decide +kernel
theorem dX0_leastPeak_71 : decode cX0_leastPeak 71 = .ok (.iload_n 2, 1) := by decide +kernel
theorem dX0_leastPeak_72 : decode cX0_leastPeak 72 = .ok (.iconst 1, 1) := by decide +kernel
theorem dX0_leastPeak_73 : decode cX0_leastPeak 73 = .ok (.iload 5, 2) := by decide +kernel
theorem dX0_leastPeak_75 : decode cX0_leastPeak 75 = .ok (.ishl, 1) := by decide +kernel
theorem dX0_leastPeak_76 : decode cX0_leastPeak 76 = .ok (.ior, 1) := by decide +kernel
theorem dX0_leastPeak_77 : decode cX0_leastPeak 77 = .ok (.iaload, 1) := by decide +kernel
theorem dX0_leastPeak_78 : decode cX0_leastPeak 78 = .ok (.invokestatic 68, 3) := by decide +kernel
theorem dX0_leastPeak_81 : decode cX0_leastPeak 81 = .ok (.invokestatic 73, 3) := by decide +kernel
theorem dX0_leastPeak_84 : decode cX0_leastPeak 84 = .ok (.istore 4, 2) := by decide +kernel
theorem dX0_leastPeak_86 : decode cX0_leastPeak 86 = .ok (.iinc 5 1, 3) := by decide +kernel
theorem dX0_leastPeak_89 : decode cX0_leastPeak 89 = .ok (.goto (-57), 3) := by decide +kernel
theorem dX0_leastPeak_92 : decode cX0_leastPeak 92 = .ok (.aload_n 0, 1) := by decide +kernel
theorem dX0_leastPeak_93 : decode cX0_leastPeak 93 = .ok (.getfield 19, 3) := by decide +kernel
theorem dX0_leastPeak_96 : decode cX0_leastPeak 96 = .ok (.iload_n 2, 1) := by decide +kernel
theorem dX0_leastPeak_97 : decode cX0_leastPeak 97 = .ok (.iload 4, 2) := by decide +kernel
theorem dX0_leastPeak_99 : decode cX0_leastPeak 99 = .ok (.iastore, 1) := by decide +kernel
theorem dX0_leastPeak_100 : decode cX0_leastPeak 100 = .ok (.iinc 2 (-1), 3) := by decide +kernel
theorem dX0_leastPeak_103 : decode cX0_leastPeak 103 = .ok (.goto (-87), 3) := by decide +kernel
theorem dX0_leastPeak_106 : decode cX0_leastPeak 106 = .ok (.aload_n 0, 1) := by decide +kernel
theorem dX0_leastPeak_107 : decode cX0_leastPeak 107 = .ok (.getfield 19, 3) := by decide +kernel
theorem dX0_leastPeak_110 : decode cX0_leastPeak 110 = .ok (.iconst 0, 1) := by decide +kernel
theorem dX0_leastPeak_111 : decode cX0_leastPeak 111 = .ok (.iaload, 1) := by decide +kernel
theorem dX0_leastPeak_112 : decode cX0_leastPeak 112 = .ok (.ireturn, 1) := by decide +kernel
theorem dX0_countFrom_0 : decode cX0_countFrom 0 = .ok (.iload_n 3, 1) := by decide +kernel
theorem dX0_countFrom_1 : decode cX0_countFrom 1 = .ok (.aload_n 0, 1) := by decide +kernel
theorem dX0_countFrom_2 : decode cX0_countFrom 2 = .ok (.getfield 19, 3) := by decide +kernel
theorem dX0_countFrom_5 : decode cX0_countFrom 5 = .ok (.iload_n 2, 1) := by decide +kernel
theorem dX0_countFrom_6 : decode cX0_countFrom 6 = .ok (.iaload, 1) := by decide +kernel
theorem dX0_countFrom_7 : decode cX0_countFrom 7 = .ok (.if_icmp .ge 5, 3) := by decide +kernel
theorem dX0_countFrom_10 : decode cX0_countFrom 10 = .ok (.iconst 0, 1) := by decide +kernel
theorem dX0_countFrom_11 : decode cX0_countFrom 11 = .ok (.ireturn, 1) := by decide +kernel
theorem dX0_countFrom_12 : decode cX0_countFrom 12 = .ok (.iload_n 1, 1) := by decide +kernel
theorem dX0_countFrom_13 : decode cX0_countFrom 13 = .ok (.aload_n 0, 1) := by decide +kernel
theorem dX0_countFrom_14 : decode cX0_countFrom 14 = .ok (.getfield 9, 3) := by decide +kernel
theorem dX0_countFrom_17 : decode cX0_countFrom 17 = .ok (.if_icmp .ge 13, 3) := by decide +kernel
theorem dX0_countFrom_20 : decode cX0_countFrom 20 = .ok (.iload_n 3, 1) := by decide +kernel
theorem dX0_countFrom_21 : decode cX0_countFrom 21 = .ok (.aload_n 0, 1) := by decide +kernel
theorem dX0_countFrom_22 : decode cX0_countFrom 22 = .ok (.getfield 25, 3) := by decide +kernel
theorem dX0_countFrom_25 : decode cX0_countFrom 25 = .ok (.iload_n 2, 1) := by decide +kernel
theorem dX0_countFrom_26 : decode cX0_countFrom 26 = .ok (.iaload, 1) := by decide +kernel
theorem dX0_countFrom_27 : decode cX0_countFrom 27 = .ok (.if_icmp .lt 13, 3) := by decide +kernel
theorem dX0_countFrom_30 : decode cX0_countFrom 30 = .ok (.aload_n 0, 1) := by decide +kernel
theorem dX0_countFrom_31 : decode cX0_countFrom 31 = .ok (.getfield 9, 3) := by decide +kernel
theorem dX0_countFrom_34 : decode cX0_countFrom 34 = .ok (.iload_n 1, 1) := by decide +kernel
theorem dX0_countFrom_35 : decode cX0_countFrom 35 = .ok (.isub, 1) := by decide +kernel
theorem dX0_countFrom_36 : decode cX0_countFrom 36 = .ok (.invokestatic 76, 3) := by decide +kernel
theorem dX0_countFrom_39 : decode cX0_countFrom 39 = .ok (.ireturn, 1) := by decide +kernel
theorem dX0_countFrom_40 : decode cX0_countFrom 40 = .ok (.iconst 0, 1) := by decide +kernel
theorem dX0_countFrom_41 : decode cX0_countFrom 41 = .ok (.istore 4, 2) := by decide +kernel
theorem dX0_countFrom_43 : decode cX0_countFrom 43 = .ok (.iconst 0, 1) := by decide +kernel
theorem dX0_countFrom_44 : decode cX0_countFrom 44 = .ok (.istore 5, 2) := by decide +kernel
theorem dX0_countFrom_46 : decode cX0_countFrom 46 = .ok (.iload 5, 2) := by decide +kernel
theorem dX0_countFrom_48 : decode cX0_countFrom 48 = .ok (.aload_n 0, 1) := by decide +kernel
theorem dX0_countFrom_49 : decode cX0_countFrom 49 = .ok (.getfield 9, 3) := by decide +kernel
theorem dX0_countFrom_52 : decode cX0_countFrom 52 = .ok (.if_icmp .ge 53, 3) := by decide +kernel
theorem dX0_countFrom_55 : decode cX0_countFrom 55 = .ok (.iload_n 2, 1) := by decide +kernel
theorem dX0_countFrom_56 : decode cX0_countFrom 56 = .ok (.iload 5, 2) := by decide +kernel
theorem dX0_countFrom_58 : decode cX0_countFrom 58 = .ok (.invokestatic 59, 3) := by decide +kernel
theorem dX0_countFrom_61 : decode cX0_countFrom 61 = .ok (.ifCond .eq 38, 3) := by decide +kernel
theorem dX0_countFrom_64 : decode cX0_countFrom 64 = .ok (.iload_n 3, 1) := by decide +kernel
theorem dX0_countFrom_65 : decode cX0_countFrom 65 = .ok (.aload_n 0, 1) := by decide +kernel
theorem dX0_countFrom_66 : decode cX0_countFrom 66 = .ok (.getfield 15, 3) := by decide +kernel
theorem dX0_countFrom_69 : decode cX0_countFrom 69 = .ok (.iload_n 1, 1) := by decide +kernel
theorem dX0_countFrom_70 : decode cX0_countFrom 70 = .ok (.iload 5, 2) := by decide +kernel
theorem dX0_countFrom_72 : decode cX0_countFrom 72 = .ok (.invokestatic 41, 3) := by decide +kernel
theorem dX0_countFrom_75 : decode cX0_countFrom 75 = .ok (.iaload, 1) := by decide +kernel
theorem dX0_countFrom_76 : decode cX0_countFrom 76 = .ok (.isub, 1) := by decide +kernel
theorem dX0_countFrom_77 : decode cX0_countFrom 77 = .ok (.istore 6, 2) := by decide +kernel
theorem dX0_countFrom_79 : decode cX0_countFrom 79 = .ok (.iload 4, 2) := by decide +kernel
theorem dX0_countFrom_81 : decode cX0_countFrom 81 = .ok (.aload_n 0, 1) := by decide +kernel
theorem dX0_countFrom_82 : decode cX0_countFrom 82 = .ok (.iload_n 1, 1) := by decide +kernel
theorem dX0_countFrom_83 : decode cX0_countFrom 83 = .ok (.iconst 1, 1) := by decide +kernel
theorem dX0_countFrom_84 : decode cX0_countFrom 84 = .ok (.iadd, 1) := by decide +kernel
theorem dX0_countFrom_85 : decode cX0_countFrom 85 = .ok (.iload_n 2, 1) := by decide +kernel
theorem dX0_countFrom_86 : decode cX0_countFrom 86 = .ok (.iconst 1, 1) := by decide +kernel
theorem dX0_countFrom_87 : decode cX0_countFrom 87 = .ok (.iload 5, 2) := by decide +kernel
theorem dX0_countFrom_89 : decode cX0_countFrom 89 = .ok (.ishl, 1) := by decide +kernel
theorem dX0_countFrom_90 : decode cX0_countFrom 90 = .ok (.ior, 1) := by decide +kernel
theorem dX0_countFrom_91 : decode cX0_countFrom 91 = .ok (.iload 6, 2) := by decide +kernel
theorem dX0_countFrom_93 : decode cX0_countFrom 93 = .ok (.invokestatic 79, 3) := by decide +kernel
theorem dX0_countFrom_96 : decode cX0_countFrom 96 = .ok (.iadd, 1) := by decide +kernel
theorem dX0_countFrom_97 : decode cX0_countFrom 97 = .ok (.istore 4, 2) := by decide +kernel
theorem dX0_countFrom_99 : decode cX0_countFrom 99 = .ok (.iinc 5 1, 3) := by decide +kernel
theorem dX0_countFrom_102 : decode cX0_countFrom 102 = .ok (.goto (-56), 3) := by decide +kernel
theorem dX0_countFrom_105 : decode cX0_countFrom 105 = .ok (.iload 4, 2) := by decide +kernel
theorem dX0_countFrom_107 : decode cX0_countFrom 107 = .ok (.ireturn, 1) := by decide +kernel
theorem dX1_init_0 : decode cX1_init 0 = .ok (.aload_n 0, 1) := by decide +kernel
theorem dX1_init_1 : decode cX1_init 1 = .ok (.invokespecial 3, 3) := by decide +kernel
theorem dX1_init_4 : decode cX1_init 4 = .ok (.aload_n 0, 1) := by decide +kernel
theorem dX1_init_5 : decode cX1_init 5 = .ok (.iconst 1, 1) := by decide +kernel
theorem dX1_init_6 : decode cX1_init 6 = .ok (.putfield 9, 3) := by decide +kernel
theorem dX1_init_9 : decode cX1_init 9 = .ok (.aload_n 0, 1) := by decide +kernel
theorem dX1_init_10 : decode cX1_init 10 = .ok (.iconst 1, 1) := by decide +kernel
theorem dX1_init_11 : decode cX1_init 11 = .ok (.putfield 15, 3) := by decide +kernel
theorem dX1_init_14 : decode cX1_init 14 = .ok (.aload_n 0, 1) := by decide +kernel
theorem dX1_init_15 : decode cX1_init 15 = .ok (.bipush 49, 2) := by decide +kernel
theorem dX1_init_17 : decode cX1_init 17 = .ok (.newarray .int, 2) := by decide +kernel
theorem dX1_init_19 : decode cX1_init 19 = .ok (.putfield 18, 3) := by decide +kernel
theorem dX1_init_22 : decode cX1_init 22 = .ok (.aload_n 0, 1) := by decide +kernel
theorem dX1_init_23 : decode cX1_init 23 = .ok (.bipush 49, 2) := by decide +kernel
theorem dX1_init_25 : decode cX1_init 25 = .ok (.newarray .boolean, 2) := by decide +kernel
theorem dX1_init_27 : decode cX1_init 27 = .ok (.putfield 22, 3) := by decide +kernel
theorem dX1_init_30 : decode cX1_init 30 = .ok (.return_, 1) := by decide +kernel
theorem dX1_clearTo_0 : decode cX1_clearTo 0 = .ok (.aload_n 0, 1) := by decide +kernel
theorem dX1_clearTo_1 : decode cX1_clearTo 1 = .ok (.iload_n 1, 1) := by decide +kernel
theorem dX1_clearTo_2 : decode cX1_clearTo 2 = .ok (.putfield 9, 3) := by decide +kernel
theorem dX1_clearTo_5 : decode cX1_clearTo 5 = .ok (.aload_n 0, 1) := by decide +kernel
theorem dX1_clearTo_6 : decode cX1_clearTo 6 = .ok (.iload_n 2, 1) := by decide +kernel
theorem dX1_clearTo_7 : decode cX1_clearTo 7 = .ok (.putfield 15, 3) := by decide +kernel
theorem dX1_clearTo_10 : decode cX1_clearTo 10 = .ok (.iconst 0, 1) := by decide +kernel
theorem dX1_clearTo_11 : decode cX1_clearTo 11 = .ok (.istore_n 3, 1) := by decide +kernel
theorem dX1_clearTo_12 : decode cX1_clearTo 12 = .ok (.iload_n 3, 1) := by decide +kernel
theorem dX1_clearTo_13 : decode cX1_clearTo 13 = .ok (.bipush 49, 2) := by decide +kernel
theorem dX1_clearTo_15 : decode cX1_clearTo 15 = .ok (.if_icmp .ge 23, 3) := by decide +kernel
theorem dX1_clearTo_18 : decode cX1_clearTo 18 = .ok (.aload_n 0, 1) := by decide +kernel
theorem dX1_clearTo_19 : decode cX1_clearTo 19 = .ok (.getfield 18, 3) := by decide +kernel
theorem dX1_clearTo_22 : decode cX1_clearTo 22 = .ok (.iload_n 3, 1) := by decide +kernel
theorem dX1_clearTo_23 : decode cX1_clearTo 23 = .ok (.iconst 0, 1) := by decide +kernel
theorem dX1_clearTo_24 : decode cX1_clearTo 24 = .ok (.iastore, 1) := by decide +kernel
theorem dX1_clearTo_25 : decode cX1_clearTo 25 = .ok (.aload_n 0, 1) := by decide +kernel
theorem dX1_clearTo_26 : decode cX1_clearTo 26 = .ok (.getfield 22, 3) := by decide +kernel
theorem dX1_clearTo_29 : decode cX1_clearTo 29 = .ok (.iload_n 3, 1) := by decide +kernel
theorem dX1_clearTo_30 : decode cX1_clearTo 30 = .ok (.iconst 0, 1) := by decide +kernel
theorem dX1_clearTo_31 : decode cX1_clearTo 31 = .ok (.bastore, 1) := by decide +kernel
theorem dX1_clearTo_32 : decode cX1_clearTo 32 = .ok (.iinc 3 1, 3) := by decide +kernel
theorem dX1_clearTo_35 : decode cX1_clearTo 35 = .ok (.goto (-23), 3) := by decide +kernel
theorem dX1_clearTo_38 : decode cX1_clearTo 38 = .ok (.return_, 1) := by decide +kernel
theorem dX1_copyFrom_0 : decode cX1_copyFrom 0 = .ok (.aload_n 0, 1) := by decide +kernel
theorem dX1_copyFrom_1 : decode cX1_copyFrom 1 = .ok (.aload_n 1, 1) := by decide +kernel
theorem dX1_copyFrom_2 : decode cX1_copyFrom 2 = .ok (.getfield 9, 3) := by decide +kernel
theorem dX1_copyFrom_5 : decode cX1_copyFrom 5 = .ok (.putfield 9, 3) := by decide +kernel
theorem dX1_copyFrom_8 : decode cX1_copyFrom 8 = .ok (.aload_n 0, 1) := by decide +kernel
theorem dX1_copyFrom_9 : decode cX1_copyFrom 9 = .ok (.aload_n 1, 1) := by decide +kernel
theorem dX1_copyFrom_10 : decode cX1_copyFrom 10 = .ok (.getfield 15, 3) := by decide +kernel
theorem dX1_copyFrom_13 : decode cX1_copyFrom 13 = .ok (.putfield 15, 3) := by decide +kernel
theorem dX1_copyFrom_16 : decode cX1_copyFrom 16 = .ok (.iconst 0, 1) := by decide +kernel
theorem dX1_copyFrom_17 : decode cX1_copyFrom 17 = .ok (.istore_n 2, 1) := by decide +kernel
theorem dX1_copyFrom_18 : decode cX1_copyFrom 18 = .ok (.iload_n 2, 1) := by decide +kernel
theorem dX1_copyFrom_19 : decode cX1_copyFrom 19 = .ok (.bipush 49, 2) := by decide +kernel
theorem dX1_copyFrom_21 : decode cX1_copyFrom 21 = .ok (.if_icmp .ge 33, 3) := by decide +kernel
theorem dX1_copyFrom_24 : decode cX1_copyFrom 24 = .ok (.aload_n 0, 1) := by decide +kernel
theorem dX1_copyFrom_25 : decode cX1_copyFrom 25 = .ok (.getfield 18, 3) := by decide +kernel
theorem dX1_copyFrom_28 : decode cX1_copyFrom 28 = .ok (.iload_n 2, 1) := by decide +kernel
theorem dX1_copyFrom_29 : decode cX1_copyFrom 29 = .ok (.aload_n 1, 1) := by decide +kernel
theorem dX1_copyFrom_30 : decode cX1_copyFrom 30 = .ok (.getfield 18, 3) := by decide +kernel
theorem dX1_copyFrom_33 : decode cX1_copyFrom 33 = .ok (.iload_n 2, 1) := by decide +kernel
theorem dX1_copyFrom_34 : decode cX1_copyFrom 34 = .ok (.iaload, 1) := by decide +kernel
theorem dX1_copyFrom_35 : decode cX1_copyFrom 35 = .ok (.iastore, 1) := by decide +kernel
theorem dX1_copyFrom_36 : decode cX1_copyFrom 36 = .ok (.aload_n 0, 1) := by decide +kernel
theorem dX1_copyFrom_37 : decode cX1_copyFrom 37 = .ok (.getfield 22, 3) := by decide +kernel
theorem dX1_copyFrom_40 : decode cX1_copyFrom 40 = .ok (.iload_n 2, 1) := by decide +kernel
theorem dX1_copyFrom_41 : decode cX1_copyFrom 41 = .ok (.aload_n 1, 1) := by decide +kernel
theorem dX1_copyFrom_42 : decode cX1_copyFrom 42 = .ok (.getfield 22, 3) := by decide +kernel
theorem dX1_copyFrom_45 : decode cX1_copyFrom 45 = .ok (.iload_n 2, 1) := by decide +kernel
theorem dX1_copyFrom_46 : decode cX1_copyFrom 46 = .ok (.baload, 1) := by decide +kernel
theorem dX1_copyFrom_47 : decode cX1_copyFrom 47 = .ok (.bastore, 1) := by decide +kernel
theorem dX1_copyFrom_48 : decode cX1_copyFrom 48 = .ok (.iinc 2 1, 3) := by decide +kernel
theorem dX1_copyFrom_51 : decode cX1_copyFrom 51 = .ok (.goto (-33), 3) := by decide +kernel
theorem dX1_copyFrom_54 : decode cX1_copyFrom 54 = .ok (.return_, 1) := by decide +kernel
theorem dX1_numberAt_0 : decode cX1_numberAt 0 = .ok (.aload_n 0, 1) := by decide +kernel
theorem dX1_numberAt_1 : decode cX1_numberAt 1 = .ok (.getfield 18, 3) := by decide +kernel
theorem dX1_numberAt_4 : decode cX1_numberAt 4 = .ok (.iload_n 1, 1) := by decide +kernel
theorem dX1_numberAt_5 : decode cX1_numberAt 5 = .ok (.iload_n 2, 1) := by decide +kernel
theorem dX1_numberAt_6 : decode cX1_numberAt 6 = .ok (.invokestatic 26, 3) := by decide +kernel
theorem dX1_numberAt_9 : decode cX1_numberAt 9 = .ok (.iaload, 1) := by decide +kernel
theorem dX1_numberAt_10 : decode cX1_numberAt 10 = .ok (.ireturn, 1) := by decide +kernel
theorem dX1_putNumber_0 : decode cX1_putNumber 0 = .ok (.aload_n 0, 1) := by decide +kernel
theorem dX1_putNumber_1 : decode cX1_putNumber 1 = .ok (.getfield 18, 3) := by decide +kernel
theorem dX1_putNumber_4 : decode cX1_putNumber 4 = .ok (.iload_n 1, 1) := by decide +kernel
theorem dX1_putNumber_5 : decode cX1_putNumber 5 = .ok (.iload_n 2, 1) := by decide +kernel
theorem dX1_putNumber_6 : decode cX1_putNumber 6 = .ok (.invokestatic 26, 3) := by decide +kernel
theorem dX1_putNumber_9 : decode cX1_putNumber 9 = .ok (.iload_n 3, 1) := by decide +kernel
theorem dX1_putNumber_10 : decode cX1_putNumber 10 = .ok (.iastore, 1) := by decide +kernel
theorem dX1_putNumber_11 : decode cX1_putNumber 11 = .ok (.return_, 1) := by decide +kernel
theorem dX1_isForbidden_0 : decode cX1_isForbidden 0 = .ok (.aload_n 0, 1) := by decide +kernel
theorem dX1_isForbidden_1 : decode cX1_isForbidden 1 = .ok (.getfield 22, 3) := by decide +kernel
theorem dX1_isForbidden_4 : decode cX1_isForbidden 4 = .ok (.iload_n 1, 1) := by decide +kernel
theorem dX1_isForbidden_5 : decode cX1_isForbidden 5 = .ok (.iload_n 2, 1) := by decide +kernel
theorem dX1_isForbidden_6 : decode cX1_isForbidden 6 = .ok (.invokestatic 26, 3) := by decide +kernel
theorem dX1_isForbidden_9 : decode cX1_isForbidden 9 = .ok (.baload, 1) := by decide +kernel
theorem dX1_isForbidden_10 : decode cX1_isForbidden 10 = .ok (.ireturn, 1) := by decide +kernel
theorem dX1_putForbidden_0 : decode cX1_putForbidden 0 = .ok (.aload_n 0, 1) := by decide +kernel
theorem dX1_putForbidden_1 : decode cX1_putForbidden 1 = .ok (.getfield 22, 3) := by decide +kernel
theorem dX1_putForbidden_4 : decode cX1_putForbidden 4 = .ok (.iload_n 1, 1) := by decide +kernel
theorem dX1_putForbidden_5 : decode cX1_putForbidden 5 = .ok (.iload_n 2, 1) := by decide +kernel
theorem dX1_putForbidden_6 : decode cX1_putForbidden 6 = .ok (.invokestatic 26, 3) := by decide +kernel
theorem dX1_putForbidden_9 : decode cX1_putForbidden 9 = .ok (.iload_n 3, 1) := by decide +kernel
theorem dX1_putForbidden_10 : decode cX1_putForbidden 10 = .ok (.bastore, 1) := by decide +kernel
theorem dX1_putForbidden_11 : decode cX1_putForbidden 11 = .ok (.return_, 1) := by decide +kernel
theorem dX1_costOf_0 : decode cX1_costOf 0 = .ok (.iload_n 2, 1) := by decide +kernel
theorem dX1_costOf_1 : decode cX1_costOf 1 = .ok (.aload_n 0, 1) := by decide +kernel
theorem dX1_costOf_2 : decode cX1_costOf 2 = .ok (.getfield 15, 3) := by decide +kernel
theorem dX1_costOf_5 : decode cX1_costOf 5 = .ok (.if_icmp .lt 5, 3) := by decide +kernel
theorem dX1_costOf_8 : decode cX1_costOf 8 = .ok (.iconst 0, 1) := by decide +kernel
theorem dX1_costOf_9 : decode cX1_costOf 9 = .ok (.ireturn, 1) := by decide +kernel
theorem dX1_costOf_10 : decode cX1_costOf 10 = .ok (.aload_n 0, 1) := by decide +kernel
theorem dX1_costOf_11 : decode cX1_costOf 11 = .ok (.iload_n 1, 1) := by decide +kernel
theorem dX1_costOf_12 : decode cX1_costOf 12 = .ok (.iload_n 2, 1) := by decide +kernel
theorem dX1_costOf_13 : decode cX1_costOf 13 = .ok (.invokevirtual 30, 3) := by decide +kernel
theorem dX1_costOf_16 : decode cX1_costOf 16 = .ok (.ifCond .eq 9, 3) := by decide +kernel
theorem dX1_costOf_19 : decode cX1_costOf 19 = .ok (.sipush 1000, 3) := by decide +kernel
theorem dX1_costOf_22 : decode cX1_costOf 22 = .ok (.goto 9, 3) := by decide +kernel
theorem dX1_costOf_25 : decode cX1_costOf 25 = .ok (.aload_n 0, 1) := by decide +kernel
theorem dX1_costOf_26 : decode cX1_costOf 26 = .ok (.iload_n 1, 1) := by decide +kernel
theorem dX1_costOf_27 : decode cX1_costOf 27 = .ok (.iload_n 2, 1) := by decide +kernel
theorem dX1_costOf_28 : decode cX1_costOf 28 = .ok (.invokevirtual 34, 3) := by decide +kernel
theorem dX1_costOf_31 : decode cX1_costOf 31 = .ok (.ireturn, 1) := by decide +kernel
theorem dX1_sumOfRow_0 : decode cX1_sumOfRow 0 = .ok (.iconst 0, 1) := by decide +kernel
theorem dX1_sumOfRow_1 : decode cX1_sumOfRow 1 = .ok (.istore_n 2, 1) := by decide +kernel
theorem dX1_sumOfRow_2 : decode cX1_sumOfRow 2 = .ok (.iconst 0, 1) := by decide +kernel
theorem dX1_sumOfRow_3 : decode cX1_sumOfRow 3 = .ok (.istore_n 3, 1) := by decide +kernel
theorem dX1_sumOfRow_4 : decode cX1_sumOfRow 4 = .ok (.iload_n 3, 1) := by decide +kernel
theorem dX1_sumOfRow_5 : decode cX1_sumOfRow 5 = .ok (.aload_n 0, 1) := by decide +kernel
theorem dX1_sumOfRow_6 : decode cX1_sumOfRow 6 = .ok (.getfield 15, 3) := by decide +kernel
theorem dX1_sumOfRow_9 : decode cX1_sumOfRow 9 = .ok (.if_icmp .ge 18, 3) := by decide +kernel
theorem dX1_sumOfRow_12 : decode cX1_sumOfRow 12 = .ok (.iload_n 2, 1) := by decide +kernel
theorem dX1_sumOfRow_13 : decode cX1_sumOfRow 13 = .ok (.aload_n 0, 1) := by decide +kernel
theorem dX1_sumOfRow_14 : decode cX1_sumOfRow 14 = .ok (.iload_n 1, 1) := by decide +kernel
theorem dX1_sumOfRow_15 : decode cX1_sumOfRow 15 = .ok (.iload_n 3, 1) := by decide +kernel
theorem dX1_sumOfRow_16 : decode cX1_sumOfRow 16 = .ok (.invokevirtual 37, 3) := by decide +kernel
theorem dX1_sumOfRow_19 : decode cX1_sumOfRow 19 = .ok (.iadd, 1) := by decide +kernel
theorem dX1_sumOfRow_20 : decode cX1_sumOfRow 20 = .ok (.istore_n 2, 1) := by decide +kernel
theorem dX1_sumOfRow_21 : decode cX1_sumOfRow 21 = .ok (.iinc 3 1, 3) := by decide +kernel
theorem dX1_sumOfRow_24 : decode cX1_sumOfRow 24 = .ok (.goto (-20), 3) := by decide +kernel
theorem dX1_sumOfRow_27 : decode cX1_sumOfRow 27 = .ok (.iload_n 2, 1) := by decide +kernel
theorem dX1_sumOfRow_28 : decode cX1_sumOfRow 28 = .ok (.ireturn, 1) := by decide +kernel
theorem dX1_sumOfColumn_0 : decode cX1_sumOfColumn 0 = .ok (.iconst 0, 1) := by decide +kernel
theorem dX1_sumOfColumn_1 : decode cX1_sumOfColumn 1 = .ok (.istore_n 2, 1) := by decide +kernel
theorem dX1_sumOfColumn_2 : decode cX1_sumOfColumn 2 = .ok (.iconst 0, 1) := by decide +kernel
theorem dX1_sumOfColumn_3 : decode cX1_sumOfColumn 3 = .ok (.istore_n 3, 1) := by decide +kernel
theorem dX1_sumOfColumn_4 : decode cX1_sumOfColumn 4 = .ok (.iload_n 3, 1) := by decide +kernel
theorem dX1_sumOfColumn_5 : decode cX1_sumOfColumn 5 = .ok (.aload_n 0, 1) := by decide +kernel
theorem dX1_sumOfColumn_6 : decode cX1_sumOfColumn 6 = .ok (.getfield 9, 3) := by decide +kernel
theorem dX1_sumOfColumn_9 : decode cX1_sumOfColumn 9 = .ok (.if_icmp .ge 18, 3) := by decide +kernel
theorem dX1_sumOfColumn_12 : decode cX1_sumOfColumn 12 = .ok (.iload_n 2, 1) := by decide +kernel
theorem dX1_sumOfColumn_13 : decode cX1_sumOfColumn 13 = .ok (.aload_n 0, 1) := by decide +kernel
theorem dX1_sumOfColumn_14 : decode cX1_sumOfColumn 14 = .ok (.iload_n 3, 1) := by decide +kernel
theorem dX1_sumOfColumn_15 : decode cX1_sumOfColumn 15 = .ok (.iload_n 1, 1) := by decide +kernel
theorem dX1_sumOfColumn_16 : decode cX1_sumOfColumn 16 = .ok (.invokevirtual 37, 3) := by decide +kernel
theorem dX1_sumOfColumn_19 : decode cX1_sumOfColumn 19 = .ok (.iadd, 1) := by decide +kernel
theorem dX1_sumOfColumn_20 : decode cX1_sumOfColumn 20 = .ok (.istore_n 2, 1) := by decide +kernel
theorem dX1_sumOfColumn_21 : decode cX1_sumOfColumn 21 = .ok (.iinc 3 1, 3) := by decide +kernel
theorem dX1_sumOfColumn_24 : decode cX1_sumOfColumn 24 = .ok (.goto (-20), 3) := by decide +kernel
theorem dX1_sumOfColumn_27 : decode cX1_sumOfColumn 27 = .ok (.iload_n 2, 1) := by decide +kernel
theorem dX1_sumOfColumn_28 : decode cX1_sumOfColumn 28 = .ok (.ireturn, 1) := by decide +kernel
theorem dX1_swapCells_0 : decode cX1_swapCells 0 = .ok (.aload_n 0, 1) := by decide +kernel
theorem dX1_swapCells_1 : decode cX1_swapCells 1 = .ok (.iload_n 1, 1) := by decide +kernel
theorem dX1_swapCells_2 : decode cX1_swapCells 2 = .ok (.iload_n 2, 1) := by decide +kernel
theorem dX1_swapCells_3 : decode cX1_swapCells 3 = .ok (.invokevirtual 34, 3) := by decide +kernel
theorem dX1_swapCells_6 : decode cX1_swapCells 6 = .ok (.istore 5, 2) := by decide +kernel
theorem dX1_swapCells_8 : decode cX1_swapCells 8 = .ok (.aload_n 0, 1) := by decide +kernel
theorem dX1_swapCells_9 : decode cX1_swapCells 9 = .ok (.iload_n 1, 1) := by decide +kernel
theorem dX1_swapCells_10 : decode cX1_swapCells 10 = .ok (.iload_n 2, 1) := by decide +kernel
theorem dX1_swapCells_11 : decode cX1_swapCells 11 = .ok (.invokevirtual 30, 3) := by decide +kernel
theorem dX1_swapCells_14 : decode cX1_swapCells 14 = .ok (.istore 6, 2) := by decide +kernel
theorem dX1_swapCells_16 : decode cX1_swapCells 16 = .ok (.aload_n 0, 1) := by decide +kernel
theorem dX1_swapCells_17 : decode cX1_swapCells 17 = .ok (.iload_n 1, 1) := by decide +kernel
theorem dX1_swapCells_18 : decode cX1_swapCells 18 = .ok (.iload_n 2, 1) := by decide +kernel
theorem dX1_swapCells_19 : decode cX1_swapCells 19 = .ok (.aload_n 0, 1) := by decide +kernel
theorem dX1_swapCells_20 : decode cX1_swapCells 20 = .ok (.iload_n 3, 1) := by decide +kernel
theorem dX1_swapCells_21 : decode cX1_swapCells 21 = .ok (.iload 4, 2) := by decide +kernel
theorem dX1_swapCells_23 : decode cX1_swapCells 23 = .ok (.invokevirtual 34, 3) := by decide +kernel
theorem dX1_swapCells_26 : decode cX1_swapCells 26 = .ok (.invokevirtual 40, 3) := by decide +kernel
theorem dX1_swapCells_29 : decode cX1_swapCells 29 = .ok (.aload_n 0, 1) := by decide +kernel
theorem dX1_swapCells_30 : decode cX1_swapCells 30 = .ok (.iload_n 1, 1) := by decide +kernel
theorem dX1_swapCells_31 : decode cX1_swapCells 31 = .ok (.iload_n 2, 1) := by decide +kernel
theorem dX1_swapCells_32 : decode cX1_swapCells 32 = .ok (.aload_n 0, 1) := by decide +kernel
theorem dX1_swapCells_33 : decode cX1_swapCells 33 = .ok (.iload_n 3, 1) := by decide +kernel
theorem dX1_swapCells_34 : decode cX1_swapCells 34 = .ok (.iload 4, 2) := by decide +kernel
theorem dX1_swapCells_36 : decode cX1_swapCells 36 = .ok (.invokevirtual 30, 3) := by decide +kernel
theorem dX1_swapCells_39 : decode cX1_swapCells 39 = .ok (.invokevirtual 44, 3) := by decide +kernel
theorem dX1_swapCells_42 : decode cX1_swapCells 42 = .ok (.aload_n 0, 1) := by decide +kernel
theorem dX1_swapCells_43 : decode cX1_swapCells 43 = .ok (.iload_n 3, 1) := by decide +kernel
theorem dX1_swapCells_44 : decode cX1_swapCells 44 = .ok (.iload 4, 2) := by decide +kernel
theorem dX1_swapCells_46 : decode cX1_swapCells 46 = .ok (.iload 5, 2) := by decide +kernel
theorem dX1_swapCells_48 : decode cX1_swapCells 48 = .ok (.invokevirtual 40, 3) := by decide +kernel
theorem dX1_swapCells_51 : decode cX1_swapCells 51 = .ok (.aload_n 0, 1) := by decide +kernel
theorem dX1_swapCells_52 : decode cX1_swapCells 52 = .ok (.iload_n 3, 1) := by decide +kernel
theorem dX1_swapCells_53 : decode cX1_swapCells 53 = .ok (.iload 4, 2) := by decide +kernel
theorem dX1_swapCells_55 : decode cX1_swapCells 55 = .ok (.iload 6, 2) := by decide +kernel
theorem dX1_swapCells_57 : decode cX1_swapCells 57 = .ok (.invokevirtual 44, 3) := by decide +kernel
theorem dX1_swapCells_60 : decode cX1_swapCells 60 = .ok (.return_, 1) := by decide +kernel
theorem dX2_init_0 : decode cX2_init 0 = .ok (.aload_n 0, 1) := by decide +kernel
theorem dX2_init_1 : decode cX2_init 1 = .ok (.invokespecial 3, 3) := by decide +kernel
theorem dX2_init_4 : decode cX2_init 4 = .ok (.aload_n 0, 1) := by decide +kernel
theorem dX2_init_5 : decode cX2_init 5 = .ok (.iconst 0, 1) := by decide +kernel
theorem dX2_init_6 : decode cX2_init 6 = .ok (.putfield 9, 3) := by decide +kernel
theorem dX2_init_9 : decode cX2_init 9 = .ok (.aload_n 0, 1) := by decide +kernel
theorem dX2_init_10 : decode cX2_init 10 = .ok (.iconst 0, 1) := by decide +kernel
theorem dX2_init_11 : decode cX2_init 11 = .ok (.putfield 13, 3) := by decide +kernel
theorem dX2_init_14 : decode cX2_init 14 = .ok (.aload_n 0, 1) := by decide +kernel
theorem dX2_init_15 : decode cX2_init 15 = .ok (.iconst (-1), 1) := by decide +kernel
theorem dX2_init_16 : decode cX2_init 16 = .ok (.putfield 17, 3) := by decide +kernel
theorem dX2_init_19 : decode cX2_init 19 = .ok (.aload_n 0, 1) := by decide +kernel
theorem dX2_init_20 : decode cX2_init 20 = .ok (.iconst 0, 1) := by decide +kernel
theorem dX2_init_21 : decode cX2_init 21 = .ok (.putfield 20, 3) := by decide +kernel
theorem dX2_init_24 : decode cX2_init 24 = .ok (.aload_n 0, 1) := by decide +kernel
theorem dX2_init_25 : decode cX2_init 25 = .ok (.sipush 720, 3) := by decide +kernel
theorem dX2_init_28 : decode cX2_init 28 = .ok (.newarray .int, 2) := by decide +kernel
theorem dX2_init_30 : decode cX2_init 30 = .ok (.putfield 23, 3) := by decide +kernel
theorem dX2_init_33 : decode cX2_init 33 = .ok (.return_, 1) := by decide +kernel
theorem dX2_cancel_0 : decode cX2_cancel 0 = .ok (.aload_n 0, 1) := by decide +kernel
theorem dX2_cancel_1 : decode cX2_cancel 1 = .ok (.iconst 0, 1) := by decide +kernel
theorem dX2_cancel_2 : decode cX2_cancel 2 = .ok (.putfield 9, 3) := by decide +kernel
theorem dX2_cancel_5 : decode cX2_cancel 5 = .ok (.return_, 1) := by decide +kernel
theorem dX2_begin_0 : decode cX2_begin 0 = .ok (.aload_n 0, 1) := by decide +kernel
theorem dX2_begin_1 : decode cX2_begin 1 = .ok (.iconst 1, 1) := by decide +kernel
theorem dX2_begin_2 : decode cX2_begin 2 = .ok (.putfield 9, 3) := by decide +kernel
theorem dX2_begin_5 : decode cX2_begin 5 = .ok (.aload_n 0, 1) := by decide +kernel
theorem dX2_begin_6 : decode cX2_begin 6 = .ok (.iconst 0, 1) := by decide +kernel
theorem dX2_begin_7 : decode cX2_begin 7 = .ok (.putfield 13, 3) := by decide +kernel
theorem dX2_begin_10 : decode cX2_begin 10 = .ok (.aload_n 0, 1) := by decide +kernel
theorem dX2_begin_11 : decode cX2_begin 11 = .ok (.iconst (-1), 1) := by decide +kernel
theorem dX2_begin_12 : decode cX2_begin 12 = .ok (.putfield 17, 3) := by decide +kernel
theorem dX2_begin_15 : decode cX2_begin 15 = .ok (.aload_n 0, 1) := by decide +kernel
theorem dX2_begin_16 : decode cX2_begin 16 = .ok (.iconst 0, 1) := by decide +kernel
theorem dX2_begin_17 : decode cX2_begin 17 = .ok (.putfield 20, 3) := by decide +kernel
theorem dX2_begin_20 : decode cX2_begin 20 = .ok (.aload_n 0, 1) := by decide +kernel
theorem dX2_begin_21 : decode cX2_begin 21 = .ok (.aload_n 1, 1) := by decide +kernel
theorem dX2_begin_22 : decode cX2_begin 22 = .ok (.iconst 0, 1) := by decide +kernel
theorem dX2_begin_23 : decode cX2_begin 23 = .ok (.iconst 0, 1) := by decide +kernel
theorem dX2_begin_24 : decode cX2_begin 24 = .ok (.iconst 0, 1) := by decide +kernel
theorem dX2_begin_25 : decode cX2_begin 25 = .ok (.invokestatic 27, 3) := by decide +kernel
theorem dX2_begin_28 : decode cX2_begin 28 = .ok (.return_, 1) := by decide +kernel
theorem dX2_addKeys_0 : decode cX2_addKeys 0 = .ok (.iload_n 2, 1) := by decide +kernel
theorem dX2_addKeys_1 : decode cX2_addKeys 1 = .ok (.aload_n 1, 1) := by decide +kernel
theorem dX2_addKeys_2 : decode cX2_addKeys 2 = .ok (.getfield 31, 3) := by decide +kernel
theorem dX2_addKeys_5 : decode cX2_addKeys 5 = .ok (.if_icmp .lt 35, 3) := by decide +kernel
theorem dX2_addKeys_8 : decode cX2_addKeys 8 = .ok (.aload_n 0, 1) := by decide +kernel
theorem dX2_addKeys_9 : decode cX2_addKeys 9 = .ok (.getfield 20, 3) := by decide +kernel
theorem dX2_addKeys_12 : decode cX2_addKeys 12 = .ok (.sipush 720, 3) := by decide +kernel
theorem dX2_addKeys_15 : decode cX2_addKeys 15 = .ok (.if_icmp .ge 24, 3) := by decide +kernel
theorem dX2_addKeys_18 : decode cX2_addKeys 18 = .ok (.aload_n 0, 1) := by decide +kernel
theorem dX2_addKeys_19 : decode cX2_addKeys 19 = .ok (.getfield 23, 3) := by decide +kernel
theorem dX2_addKeys_22 : decode cX2_addKeys 22 = .ok (.aload_n 0, 1) := by decide +kernel
theorem dX2_addKeys_23 : decode cX2_addKeys 23 = .ok (.getfield 20, 3) := by decide +kernel
theorem dX2_addKeys_26 : decode cX2_addKeys 26 = .ok (.iload 4, 2) := by decide +kernel
theorem dX2_addKeys_28 : decode cX2_addKeys 28 = .ok (.iastore, 1) := by decide +kernel
theorem dX2_addKeys_29 : decode cX2_addKeys 29 = .ok (.aload_n 0, 1) := by decide +kernel
theorem dX2_addKeys_30 : decode cX2_addKeys 30 = .ok (.dup, 1) := by decide +kernel
theorem dX2_addKeys_31 : decode cX2_addKeys 31 = .ok (.getfield 20, 3) := by decide +kernel
theorem dX2_addKeys_34 : decode cX2_addKeys 34 = .ok (.iconst 1, 1) := by decide +kernel
theorem dX2_addKeys_35 : decode cX2_addKeys 35 = .ok (.iadd, 1) := by decide +kernel
theorem dX2_addKeys_36 : decode cX2_addKeys 36 = .ok (.putfield 20, 3) := by decide +kernel
theorem dX2_addKeys_39 : decode cX2_addKeys 39 = .ok (.return_, 1) := by decide +kernel
theorem dX2_addKeys_40 : decode cX2_addKeys 40 = .ok (.iconst 0, 1) := by decide +kernel
theorem dX2_addKeys_41 : decode cX2_addKeys 41 = .ok (.istore 5, 2) := by decide +kernel
theorem dX2_addKeys_43 : decode cX2_addKeys 43 = .ok (.iload 5, 2) := by decide +kernel
theorem dX2_addKeys_45 : decode cX2_addKeys 45 = .ok (.aload_n 1, 1) := by decide +kernel
theorem dX2_addKeys_46 : decode cX2_addKeys 46 = .ok (.getfield 31, 3) := by decide +kernel
theorem dX2_addKeys_49 : decode cX2_addKeys 49 = .ok (.if_icmp .ge 57, 3) := by decide +kernel
theorem dX2_addKeys_52 : decode cX2_addKeys 52 = .ok (.iload_n 3, 1) := by decide +kernel
theorem dX2_addKeys_53 : decode cX2_addKeys 53 = .ok (.iload 5, 2) := by decide +kernel
theorem dX2_addKeys_55 : decode cX2_addKeys 55 = .ok (.ishr, 1) := by decide +kernel
theorem dX2_addKeys_56 : decode cX2_addKeys 56 = .ok (.iconst 1, 1) := by decide +kernel
theorem dX2_addKeys_57 : decode cX2_addKeys 57 = .ok (.iand, 1) := by decide +kernel
theorem dX2_addKeys_58 : decode cX2_addKeys 58 = .ok (.ifCond .ne 42, 3) := by decide +kernel
theorem dX2_addKeys_61 : decode cX2_addKeys 61 = .ok (.aload_n 1, 1) := by decide +kernel
theorem dX2_addKeys_62 : decode cX2_addKeys 62 = .ok (.iload_n 2, 1) := by decide +kernel
theorem dX2_addKeys_63 : decode cX2_addKeys 63 = .ok (.iload 5, 2) := by decide +kernel
theorem dX2_addKeys_65 : decode cX2_addKeys 65 = .ok (.invokevirtual 36, 3) := by decide +kernel
theorem dX2_addKeys_68 : decode cX2_addKeys 68 = .ok (.bipush 18, 2) := by decide +kernel
theorem dX2_addKeys_70 : decode cX2_addKeys 70 = .ok (.ishl, 1) := by decide +kernel
theorem dX2_addKeys_71 : decode cX2_addKeys 71 = .ok (.iload 5, 2) := by decide +kernel
theorem dX2_addKeys_73 : decode cX2_addKeys 73 = .ok (.iload_n 2, 1) := by decide +kernel
theorem dX2_addKeys_74 : decode cX2_addKeys 74 = .ok (.invokestatic 40, 3) := by decide +kernel
theorem dX2_addKeys_77 : decode cX2_addKeys 77 = .ok (.ishl, 1) := by decide +kernel
theorem dX2_addKeys_78 : decode cX2_addKeys 78 = .ok (.iadd, 1) := by decide +kernel
theorem dX2_addKeys_79 : decode cX2_addKeys 79 = .ok (.istore 6, 2) := by decide +kernel
theorem dX2_addKeys_81 : decode cX2_addKeys 81 = .ok (.aload_n 0, 1) := by decide +kernel
theorem dX2_addKeys_82 : decode cX2_addKeys 82 = .ok (.aload_n 1, 1) := by decide +kernel
theorem dX2_addKeys_83 : decode cX2_addKeys 83 = .ok (.iload_n 2, 1) := by decide +kernel
theorem dX2_addKeys_84 : decode cX2_addKeys 84 = .ok (.iconst 1, 1) := by decide +kernel
theorem dX2_addKeys_85 : decode cX2_addKeys 85 = .ok (.iadd, 1) := by decide +kernel
theorem dX2_addKeys_86 : decode cX2_addKeys 86 = .ok (.iload_n 3, 1) := by decide +kernel
theorem dX2_addKeys_87 : decode cX2_addKeys 87 = .ok (.iconst 1, 1) := by decide +kernel
theorem dX2_addKeys_88 : decode cX2_addKeys 88 = .ok (.iload 5, 2) := by decide +kernel
theorem dX2_addKeys_90 : decode cX2_addKeys 90 = .ok (.ishl, 1) := by decide +kernel
theorem dX2_addKeys_91 : decode cX2_addKeys 91 = .ok (.ior, 1) := by decide +kernel
theorem dX2_addKeys_92 : decode cX2_addKeys 92 = .ok (.iload 4, 2) := by decide +kernel
theorem dX2_addKeys_94 : decode cX2_addKeys 94 = .ok (.iload 6, 2) := by decide +kernel
theorem dX2_addKeys_96 : decode cX2_addKeys 96 = .ok (.iadd, 1) := by decide +kernel
theorem dX2_addKeys_97 : decode cX2_addKeys 97 = .ok (.invokestatic 27, 3) := by decide +kernel
theorem dX2_addKeys_100 : decode cX2_addKeys 100 = .ok (.iinc 5 1, 3) := by decide +kernel
theorem dX2_addKeys_103 : decode cX2_addKeys 103 = .ok (.goto (-60), 3) := by decide +kernel
theorem dX2_addKeys_106 : decode cX2_addKeys 106 = .ok (.return_, 1) := by decide +kernel
theorem dX2_shiftOf_0 : decode cX2_shiftOf 0 = .ok (.iconst 3, 1) := by decide +kernel
theorem dX2_shiftOf_1 : decode cX2_shiftOf 1 = .ok (.iconst 5, 1) := by decide +kernel
theorem dX2_shiftOf_2 : decode cX2_shiftOf 2 = .ok (.iload_n 0, 1) := by decide +kernel
theorem dX2_shiftOf_3 : decode cX2_shiftOf 3 = .ok (.isub, 1) := by decide +kernel
theorem dX2_shiftOf_4 : decode cX2_shiftOf 4 = .ok (.imul, 1) := by decide +kernel
theorem dX2_shiftOf_5 : decode cX2_shiftOf 5 = .ok (.ireturn, 1) := by decide +kernel
theorem dX2_advance_0 : decode cX2_advance 0 = .ok (.ldc 46, 2) := by decide +kernel
theorem dX2_advance_2 : decode cX2_advance 2 = .ok (.istore_n 1, 1) := by decide +kernel
theorem dX2_advance_3 : decode cX2_advance 3 = .ok (.iconst 0, 1) := by decide +kernel
theorem dX2_advance_4 : decode cX2_advance 4 = .ok (.istore_n 2, 1) := by decide +kernel
theorem dX2_advance_5 : decode cX2_advance 5 = .ok (.iload_n 2, 1) := by decide +kernel
theorem dX2_advance_6 : decode cX2_advance 6 = .ok (.aload_n 0, 1) := by decide +kernel
theorem dX2_advance_7 : decode cX2_advance 7 = .ok (.getfield 20, 3) := by decide +kernel
theorem dX2_advance_10 : decode cX2_advance 10 = .ok (.if_icmp .ge 31, 3) := by decide +kernel
theorem dX2_advance_13 : decode cX2_advance 13 = .ok (.aload_n 0, 1) := by decide +kernel
theorem dX2_advance_14 : decode cX2_advance 14 = .ok (.getfield 23, 3) := by decide +kernel
theorem dX2_advance_17 : decode cX2_advance 17 = .ok (.iload_n 2, 1) := by decide +kernel
theorem dX2_advance_18 : decode cX2_advance 18 = .ok (.iaload, 1) := by decide +kernel
theorem dX2_advance_19 : decode cX2_advance 19 = .ok (.istore_n 3, 1) := by decide +kernel
theorem dX2_advance_20 : decode cX2_advance 20 = .ok (.iload_n 3, 1) := by decide +kernel
theorem dX2_advance_21 : decode cX2_advance 21 = .ok (.aload_n 0, 1) := by decide +kernel
theorem dX2_advance_22 : decode cX2_advance 22 = .ok (.getfield 17, 3) := by decide +kernel
theorem dX2_advance_25 : decode cX2_advance 25 = .ok (.if_icmp .le 10, 3) := by decide +kernel
theorem dX2_advance_28 : decode cX2_advance 28 = .ok (.iload_n 3, 1) := by decide +kernel
theorem dX2_advance_29 : decode cX2_advance 29 = .ok (.iload_n 1, 1) := by decide +kernel
theorem dX2_advance_30 : decode cX2_advance 30 = .ok (.if_icmp .ge 5, 3) := by decide +kernel
theorem dX2_advance_33 : decode cX2_advance 33 = .ok (.iload_n 3, 1) := by decide +kernel
theorem dX2_advance_34 : decode cX2_advance 34 = .ok (.istore_n 1, 1) := by decide +kernel
theorem dX2_advance_35 : decode cX2_advance 35 = .ok (.iinc 2 1, 3) := by decide +kernel
theorem dX2_advance_38 : decode cX2_advance 38 = .ok (.goto (-33), 3) := by decide +kernel
theorem dX2_advance_41 : decode cX2_advance 41 = .ok (.aload_n 0, 1) := by decide +kernel
theorem dX2_advance_42 : decode cX2_advance 42 = .ok (.iload_n 1, 1) := by decide +kernel
theorem dX2_advance_43 : decode cX2_advance 43 = .ok (.putfield 17, 3) := by decide +kernel
theorem dX2_advance_46 : decode cX2_advance 46 = .ok (.aload_n 0, 1) := by decide +kernel
theorem dX2_advance_47 : decode cX2_advance 47 = .ok (.dup, 1) := by decide +kernel
theorem dX2_advance_48 : decode cX2_advance 48 = .ok (.getfield 13, 3) := by decide +kernel
theorem dX2_advance_51 : decode cX2_advance 51 = .ok (.iconst 1, 1) := by decide +kernel
theorem dX2_advance_52 : decode cX2_advance 52 = .ok (.iadd, 1) := by decide +kernel
theorem dX2_advance_53 : decode cX2_advance 53 = .ok (.putfield 13, 3) := by decide +kernel
theorem dX2_advance_56 : decode cX2_advance 56 = .ok (.return_, 1) := by decide +kernel
theorem dX2_visitedSum_0 : decode cX2_visitedSum 0 = .ok (.aload_n 0, 1) := by decide +kernel
theorem dX2_visitedSum_1 : decode cX2_visitedSum 1 = .ok (.getfield 17, 3) := by decide +kernel
theorem dX2_visitedSum_4 : decode cX2_visitedSum 4 = .ok (.bipush 18, 2) := by decide +kernel
theorem dX2_visitedSum_6 : decode cX2_visitedSum 6 = .ok (.ishr, 1) := by decide +kernel
theorem dX2_visitedSum_7 : decode cX2_visitedSum 7 = .ok (.ireturn, 1) := by decide +kernel
theorem dX2_visitedColumn_0 : decode cX2_visitedColumn 0 = .ok (.aload_n 0, 1) := by decide +kernel
theorem dX2_visitedColumn_1 : decode cX2_visitedColumn 1 = .ok (.getfield 17, 3) := by decide +kernel
theorem dX2_visitedColumn_4 : decode cX2_visitedColumn 4 = .ok (.iload_n 1, 1) := by decide +kernel
theorem dX2_visitedColumn_5 : decode cX2_visitedColumn 5 = .ok (.invokestatic 40, 3) := by decide +kernel
theorem dX2_visitedColumn_8 : decode cX2_visitedColumn 8 = .ok (.ishr, 1) := by decide +kernel
theorem dX2_visitedColumn_9 : decode cX2_visitedColumn 9 = .ok (.bipush 7, 2) := by decide +kernel
theorem dX2_visitedColumn_11 : decode cX2_visitedColumn 11 = .ok (.iand, 1) := by decide +kernel
theorem dX2_visitedColumn_12 : decode cX2_visitedColumn 12 = .ok (.ireturn, 1) := by decide +kernel
theorem dX3_init_0 : decode cX3_init 0 = .ok (.aload_n 0, 1) := by decide +kernel
theorem dX3_init_1 : decode cX3_init 1 = .ok (.invokespecial 3, 3) := by decide +kernel
theorem dX3_init_4 : decode cX3_init 4 = .ok (.aload_n 0, 1) := by decide +kernel
theorem dX3_init_5 : decode cX3_init 5 = .ok (.new 9, 3) := by decide +kernel
theorem dX3_init_8 : decode cX3_init 8 = .ok (.dup, 1) := by decide +kernel
theorem dX3_init_9 : decode cX3_init 9 = .ok (.invokespecial 11, 3) := by decide +kernel
theorem dX3_init_12 : decode cX3_init 12 = .ok (.putfield 12, 3) := by decide +kernel
theorem dX3_init_15 : decode cX3_init 15 = .ok (.aload_n 0, 1) := by decide +kernel
theorem dX3_init_16 : decode cX3_init 16 = .ok (.new 9, 3) := by decide +kernel
theorem dX3_init_19 : decode cX3_init 19 = .ok (.dup, 1) := by decide +kernel
theorem dX3_init_20 : decode cX3_init 20 = .ok (.invokespecial 11, 3) := by decide +kernel
theorem dX3_init_23 : decode cX3_init 23 = .ok (.putfield 16, 3) := by decide +kernel
theorem dX3_init_26 : decode cX3_init 26 = .ok (.aload_n 0, 1) := by decide +kernel
theorem dX3_init_27 : decode cX3_init 27 = .ok (.new 19, 3) := by decide +kernel
theorem dX3_init_30 : decode cX3_init 30 = .ok (.dup, 1) := by decide +kernel
theorem dX3_init_31 : decode cX3_init 31 = .ok (.invokespecial 21, 3) := by decide +kernel
theorem dX3_init_34 : decode cX3_init 34 = .ok (.putfield 22, 3) := by decide +kernel
theorem dX3_init_37 : decode cX3_init 37 = .ok (.aload_n 0, 1) := by decide +kernel
theorem dX3_init_38 : decode cX3_init 38 = .ok (.bipush 7, 2) := by decide +kernel
theorem dX3_init_40 : decode cX3_init 40 = .ok (.newarray .int, 2) := by decide +kernel
theorem dX3_init_42 : decode cX3_init 42 = .ok (.putfield 26, 3) := by decide +kernel
theorem dX3_init_45 : decode cX3_init 45 = .ok (.aload_n 0, 1) := by decide +kernel
theorem dX3_init_46 : decode cX3_init 46 = .ok (.bipush 7, 2) := by decide +kernel
theorem dX3_init_48 : decode cX3_init 48 = .ok (.newarray .int, 2) := by decide +kernel
theorem dX3_init_50 : decode cX3_init 50 = .ok (.putfield 30, 3) := by decide +kernel
theorem dX3_init_53 : decode cX3_init 53 = .ok (.aload_n 0, 1) := by decide +kernel
theorem dX3_init_54 : decode cX3_init 54 = .ok (.bipush 7, 2) := by decide +kernel
theorem dX3_init_56 : decode cX3_init 56 = .ok (.newarray .int, 2) := by decide +kernel
theorem dX3_init_58 : decode cX3_init 58 = .ok (.putfield 33, 3) := by decide +kernel
theorem dX3_init_61 : decode cX3_init 61 = .ok (.aload_n 0, 1) := by decide +kernel
theorem dX3_init_62 : decode cX3_init 62 = .ok (.new 36, 3) := by decide +kernel
theorem dX3_init_65 : decode cX3_init 65 = .ok (.dup, 1) := by decide +kernel
theorem dX3_init_66 : decode cX3_init 66 = .ok (.invokespecial 38, 3) := by decide +kernel
theorem dX3_init_69 : decode cX3_init 69 = .ok (.putfield 39, 3) := by decide +kernel
theorem dX3_init_72 : decode cX3_init 72 = .ok (.return_, 1) := by decide +kernel
theorem dX3_resize_0 : decode cX3_resize 0 = .ok (.iload_n 1, 1) := by decide +kernel
theorem dX3_resize_1 : decode cX3_resize 1 = .ok (.iconst 1, 1) := by decide +kernel
theorem dX3_resize_2 : decode cX3_resize 2 = .ok (.if_icmp .lt 19, 3) := by decide +kernel
theorem dX3_resize_5 : decode cX3_resize 5 = .ok (.iload_n 1, 1) := by decide +kernel
theorem dX3_resize_6 : decode cX3_resize 6 = .ok (.bipush 7, 2) := by decide +kernel
theorem dX3_resize_8 : decode cX3_resize 8 = .ok (.if_icmp .gt 13, 3) := by decide +kernel
theorem dX3_resize_11 : decode cX3_resize 11 = .ok (.iload_n 2, 1) := by decide +kernel
theorem dX3_resize_12 : decode cX3_resize 12 = .ok (.iconst 1, 1) := by decide +kernel
theorem dX3_resize_13 : decode cX3_resize 13 = .ok (.if_icmp .lt 8, 3) := by decide +kernel
theorem dX3_resize_16 : decode cX3_resize 16 = .ok (.iload_n 2, 1) := by decide +kernel
theorem dX3_resize_17 : decode cX3_resize 17 = .ok (.iload_n 1, 1) := by decide +kernel
theorem dX3_resize_18 : decode cX3_resize 18 = .ok (.if_icmp .le 11, 3) := by decide +kernel
theorem dX3_resize_21 : decode cX3_resize 21 = .ok (.new 43, 3) := by decide +kernel
theorem dX3_resize_24 : decode cX3_resize 24 = .ok (.dup, 1) := by decide +kernel
theorem dX3_resize_25 : decode cX3_resize 25 = .ok (.invokespecial 45, 3) := by decide +kernel
theorem dX3_resize_28 : decode cX3_resize 28 = .ok (.athrow, 1) := by decide +kernel
theorem dX3_resize_29 : decode cX3_resize 29 = .ok (.aload_n 0, 1) := by decide +kernel
theorem dX3_resize_30 : decode cX3_resize 30 = .ok (.getfield 12, 3) := by decide +kernel
theorem dX3_resize_33 : decode cX3_resize 33 = .ok (.iload_n 1, 1) := by decide +kernel
theorem dX3_resize_34 : decode cX3_resize 34 = .ok (.iload_n 2, 1) := by decide +kernel
theorem dX3_resize_35 : decode cX3_resize 35 = .ok (.invokevirtual 46, 3) := by decide +kernel
theorem dX3_resize_38 : decode cX3_resize 38 = .ok (.aload_n 0, 1) := by decide +kernel
theorem dX3_resize_39 : decode cX3_resize 39 = .ok (.getfield 39, 3) := by decide +kernel
theorem dX3_resize_42 : decode cX3_resize 42 = .ok (.invokevirtual 50, 3) := by decide +kernel
theorem dX3_resize_45 : decode cX3_resize 45 = .ok (.iload_n 1, 1) := by decide +kernel
theorem dX3_resize_46 : decode cX3_resize 46 = .ok (.iload_n 2, 1) := by decide +kernel
theorem dX3_resize_47 : decode cX3_resize 47 = .ok (.imul, 1) := by decide +kernel
theorem dX3_resize_48 : decode cX3_resize 48 = .ok (.ireturn, 1) := by decide +kernel
theorem dX3_setCost_0 : decode cX3_setCost 0 = .ok (.aload_n 0, 1) := by decide +kernel
theorem dX3_setCost_1 : decode cX3_setCost 1 = .ok (.iload_n 1, 1) := by decide +kernel
theorem dX3_setCost_2 : decode cX3_setCost 2 = .ok (.iload_n 2, 1) := by decide +kernel
theorem dX3_setCost_3 : decode cX3_setCost 3 = .ok (.invokevirtual 53, 3) := by decide +kernel
theorem dX3_setCost_6 : decode cX3_setCost 6 = .ok (.iload_n 3, 1) := by decide +kernel
theorem dX3_setCost_7 : decode cX3_setCost 7 = .ok (.ifCond .lt 9, 3) := by decide +kernel
theorem dX3_setCost_10 : decode cX3_setCost 10 = .ok (.iload_n 3, 1) := by decide +kernel
theorem dX3_setCost_11 : decode cX3_setCost 11 = .ok (.bipush 99, 2) := by decide +kernel
theorem dX3_setCost_13 : decode cX3_setCost 13 = .ok (.if_icmp .le 11, 3) := by decide +kernel
theorem dX3_setCost_16 : decode cX3_setCost 16 = .ok (.new 43, 3) := by decide +kernel
theorem dX3_setCost_19 : decode cX3_setCost 19 = .ok (.dup, 1) := by decide +kernel
theorem dX3_setCost_20 : decode cX3_setCost 20 = .ok (.invokespecial 45, 3) := by decide +kernel
theorem dX3_setCost_23 : decode cX3_setCost 23 = .ok (.athrow, 1) := by decide +kernel
theorem dX3_setCost_24 : decode cX3_setCost 24 = .ok (.aload_n 0, 1) := by decide +kernel
theorem dX3_setCost_25 : decode cX3_setCost 25 = .ok (.getfield 12, 3) := by decide +kernel
theorem dX3_setCost_28 : decode cX3_setCost 28 = .ok (.iload_n 1, 1) := by decide +kernel
theorem dX3_setCost_29 : decode cX3_setCost 29 = .ok (.iload_n 2, 1) := by decide +kernel
theorem dX3_setCost_30 : decode cX3_setCost 30 = .ok (.invokevirtual 56, 3) := by decide +kernel
theorem dX3_setCost_33 : decode cX3_setCost 33 = .ok (.istore 4, 2) := by decide +kernel
theorem dX3_setCost_35 : decode cX3_setCost 35 = .ok (.aload_n 0, 1) := by decide +kernel
theorem dX3_setCost_36 : decode cX3_setCost 36 = .ok (.getfield 12, 3) := by decide +kernel
theorem dX3_setCost_39 : decode cX3_setCost 39 = .ok (.iload_n 1, 1) := by decide +kernel
theorem dX3_setCost_40 : decode cX3_setCost 40 = .ok (.iload_n 2, 1) := by decide +kernel
theorem dX3_setCost_41 : decode cX3_setCost 41 = .ok (.iload_n 3, 1) := by decide +kernel
theorem dX3_setCost_42 : decode cX3_setCost 42 = .ok (.invokevirtual 60, 3) := by decide +kernel
theorem dX3_setCost_45 : decode cX3_setCost 45 = .ok (.aload_n 0, 1) := by decide +kernel
theorem dX3_setCost_46 : decode cX3_setCost 46 = .ok (.getfield 39, 3) := by decide +kernel
theorem dX3_setCost_49 : decode cX3_setCost 49 = .ok (.invokevirtual 50, 3) := by decide +kernel
theorem dX3_setCost_52 : decode cX3_setCost 52 = .ok (.iload 4, 2) := by decide +kernel
theorem dX3_setCost_54 : decode cX3_setCost 54 = .ok (.ireturn, 1) := by decide +kernel
theorem dX3_setRow_0 : decode cX3_setRow 0 = .ok (.aload_n 0, 1) := by decide +kernel
theorem dX3_setRow_1 : decode cX3_setRow 1 = .ok (.iload_n 1, 1) := by decide +kernel
theorem dX3_setRow_2 : decode cX3_setRow 2 = .ok (.invokevirtual 64, 3) := by decide +kernel
theorem dX3_setRow_5 : decode cX3_setRow 5 = .ok (.lload_n 2, 1) := by decide +kernel
theorem dX3_setRow_6 : decode cX3_setRow 6 = .ok (.lconst 0, 1) := by decide +kernel
theorem dX3_setRow_7 : decode cX3_setRow 7 = .ok (.lcmp, 1) := by decide +kernel
theorem dX3_setRow_8 : decode cX3_setRow 8 = .ok (.ifCond .lt 12, 3) := by decide +kernel
theorem dX3_setRow_11 : decode cX3_setRow 11 = .ok (.lload_n 2, 1) := by decide +kernel
theorem dX3_setRow_12 : decode cX3_setRow 12 = .ok (.aload_n 0, 1) := by decide +kernel
theorem dX3_setRow_13 : decode cX3_setRow 13 = .ok (.invokevirtual 68, 3) := by decide +kernel
theorem dX3_setRow_16 : decode cX3_setRow 16 = .ok (.lcmp, 1) := by decide +kernel
theorem dX3_setRow_17 : decode cX3_setRow 17 = .ok (.ifCond .lt 11, 3) := by decide +kernel
theorem dX3_setRow_20 : decode cX3_setRow 20 = .ok (.new 43, 3) := by decide +kernel
theorem dX3_setRow_23 : decode cX3_setRow 23 = .ok (.dup, 1) := by decide +kernel
theorem dX3_setRow_24 : decode cX3_setRow 24 = .ok (.invokespecial 45, 3) := by decide +kernel
theorem dX3_setRow_27 : decode cX3_setRow 27 = .ok (.athrow, 1) := by decide +kernel
theorem dX3_setRow_28 : decode cX3_setRow 28 = .ok (.lload_n 2, 1) := by decide +kernel
theorem dX3_setRow_29 : decode cX3_setRow 29 = .ok (.lstore 4, 2) := by decide +kernel
theorem dX3_setRow_31 : decode cX3_setRow 31 = .ok (.bipush 99, 2) := by decide +kernel
theorem dX3_setRow_33 : decode cX3_setRow 33 = .ok (.istore 6, 2) := by decide +kernel
theorem dX3_setRow_35 : decode cX3_setRow 35 = .ok (.aload_n 0, 1) := by decide +kernel
theorem dX3_setRow_36 : decode cX3_setRow 36 = .ok (.getfield 12, 3) := by decide +kernel
theorem dX3_setRow_39 : decode cX3_setRow 39 = .ok (.getfield 72, 3) := by decide +kernel
theorem dX3_setRow_42 : decode cX3_setRow 42 = .ok (.iconst 1, 1) := by decide +kernel
theorem dX3_setRow_43 : decode cX3_setRow 43 = .ok (.isub, 1) := by decide +kernel
theorem dX3_setRow_44 : decode cX3_setRow 44 = .ok (.istore 7, 2) := by decide +kernel
theorem dX3_setRow_46 : decode cX3_setRow 46 = .ok (.iload 7, 2) := by decide +kernel
theorem dX3_setRow_48 : decode cX3_setRow 48 = .ok (.ifCond .lt 47, 3) := by decide +kernel
theorem dX3_setRow_51 : decode cX3_setRow 51 = .ok (.lload 4, 2) := by decide +kernel
theorem dX3_setRow_53 : decode cX3_setRow 53 = .ok (.ldc2_w 76, 3) := by decide +kernel
theorem dX3_setRow_56 : decode cX3_setRow 56 = .ok (.lrem, 1) := by decide +kernel
theorem dX3_setRow_57 : decode cX3_setRow 57 = .ok (.l2i, 1) := by decide +kernel
theorem dX3_setRow_58 : decode cX3_setRow 58 = .ok (.istore 8, 2) := by decide +kernel
theorem dX3_setRow_60 : decode cX3_setRow 60 = .ok (.lload 4, 2) := by decide +kernel
theorem dX3_setRow_62 : decode cX3_setRow 62 = .ok (.ldc2_w 76, 3) := by decide +kernel
theorem dX3_setRow_65 : decode cX3_setRow 65 = .ok (.ldiv, 1) := by decide +kernel
theorem dX3_setRow_66 : decode cX3_setRow 66 = .ok (.lstore 4, 2) := by decide +kernel
theorem dX3_setRow_68 : decode cX3_setRow 68 = .ok (.aload_n 0, 1) := by decide +kernel
theorem dX3_setRow_69 : decode cX3_setRow 69 = .ok (.getfield 12, 3) := by decide +kernel
theorem dX3_setRow_72 : decode cX3_setRow 72 = .ok (.iload_n 1, 1) := by decide +kernel
theorem dX3_setRow_73 : decode cX3_setRow 73 = .ok (.iload 7, 2) := by decide +kernel
theorem dX3_setRow_75 : decode cX3_setRow 75 = .ok (.iload 8, 2) := by decide +kernel
theorem dX3_setRow_77 : decode cX3_setRow 77 = .ok (.invokevirtual 60, 3) := by decide +kernel
theorem dX3_setRow_80 : decode cX3_setRow 80 = .ok (.iload 6, 2) := by decide +kernel
theorem dX3_setRow_82 : decode cX3_setRow 82 = .ok (.iload 8, 2) := by decide +kernel
theorem dX3_setRow_84 : decode cX3_setRow 84 = .ok (.invokestatic 78, 3) := by decide +kernel
theorem dX3_setRow_87 : decode cX3_setRow 87 = .ok (.istore 6, 2) := by decide +kernel
theorem dX3_setRow_89 : decode cX3_setRow 89 = .ok (.iinc 7 (-1), 3) := by decide +kernel
theorem dX3_setRow_92 : decode cX3_setRow 92 = .ok (.goto (-46), 3) := by decide +kernel
theorem dX3_setRow_95 : decode cX3_setRow 95 = .ok (.aload_n 0, 1) := by decide +kernel
theorem dX3_setRow_96 : decode cX3_setRow 96 = .ok (.getfield 39, 3) := by decide +kernel
theorem dX3_setRow_99 : decode cX3_setRow 99 = .ok (.invokevirtual 50, 3) := by decide +kernel
theorem dX3_setRow_102 : decode cX3_setRow 102 = .ok (.iload 6, 2) := by decide +kernel
theorem dX3_setRow_104 : decode cX3_setRow 104 = .ok (.ireturn, 1) := by decide +kernel
theorem dX3_fill_0 : decode cX3_fill 0 = .ok (.iload_n 1, 1) := by decide +kernel
theorem dX3_fill_1 : decode cX3_fill 1 = .ok (.ifCond .lt 20, 3) := by decide +kernel
theorem dX3_fill_4 : decode cX3_fill 4 = .ok (.iload_n 1, 1) := by decide +kernel
theorem dX3_fill_5 : decode cX3_fill 5 = .ok (.sipush 9999, 3) := by decide +kernel
theorem dX3_fill_8 : decode cX3_fill 8 = .ok (.if_icmp .gt 13, 3) := by decide +kernel
theorem dX3_fill_11 : decode cX3_fill 11 = .ok (.iload_n 2, 1) := by decide +kernel
theorem dX3_fill_12 : decode cX3_fill 12 = .ok (.ifCond .lt 9, 3) := by decide +kernel
theorem dX3_fill_15 : decode cX3_fill 15 = .ok (.iload_n 2, 1) := by decide +kernel
theorem dX3_fill_16 : decode cX3_fill 16 = .ok (.bipush 99, 2) := by decide +kernel
theorem dX3_fill_18 : decode cX3_fill 18 = .ok (.if_icmp .le 11, 3) := by decide +kernel
theorem dX3_fill_21 : decode cX3_fill 21 = .ok (.new 43, 3) := by decide +kernel
theorem dX3_fill_24 : decode cX3_fill 24 = .ok (.dup, 1) := by decide +kernel
theorem dX3_fill_25 : decode cX3_fill 25 = .ok (.invokespecial 45, 3) := by decide +kernel
theorem dX3_fill_28 : decode cX3_fill 28 = .ok (.athrow, 1) := by decide +kernel
theorem dX3_fill_29 : decode cX3_fill 29 = .ok (.iload_n 1, 1) := by decide +kernel
theorem dX3_fill_30 : decode cX3_fill 30 = .ok (.istore_n 3, 1) := by decide +kernel
theorem dX3_fill_31 : decode cX3_fill 31 = .ok (.iconst 0, 1) := by decide +kernel
theorem dX3_fill_32 : decode cX3_fill 32 = .ok (.istore 4, 2) := by decide +kernel
theorem dX3_fill_34 : decode cX3_fill 34 = .ok (.iconst 0, 1) := by decide +kernel
theorem dX3_fill_35 : decode cX3_fill 35 = .ok (.istore 5, 2) := by decide +kernel
theorem dX3_fill_37 : decode cX3_fill 37 = .ok (.iload 5, 2) := by decide +kernel
theorem dX3_fill_39 : decode cX3_fill 39 = .ok (.aload_n 0, 1) := by decide +kernel
theorem dX3_fill_40 : decode cX3_fill 40 = .ok (.getfield 12, 3) := by decide +kernel
theorem dX3_fill_43 : decode cX3_fill 43 = .ok (.getfield 83, 3) := by decide +kernel
theorem dX3_fill_46 : decode cX3_fill 46 = .ok (.if_icmp .ge 81, 3) := by decide +kernel
theorem dX3_fill_49 : decode cX3_fill 49 = .ok (.iconst 0, 1) := by decide +kernel
theorem dX3_fill_50 : decode cX3_fill 50 = .ok (.istore 6, 2) := by decide +kernel
theorem dX3_fill_52 : decode cX3_fill 52 = .ok (.iload 6, 2) := by decide +kernel
theorem dX3_fill_54 : decode cX3_fill 54 = .ok (.aload_n 0, 1) := by decide +kernel
theorem dX3_fill_55 : decode cX3_fill 55 = .ok (.getfield 12, 3) := by decide +kernel
theorem dX3_fill_58 : decode cX3_fill 58 = .ok (.getfield 72, 3) := by decide +kernel
theorem dX3_fill_61 : decode cX3_fill 61 = .ok (.if_icmp .ge 60, 3) := by decide +kernel
theorem dX3_fill_64 : decode cX3_fill 64 = .ok (.bipush 37, 2) := by decide +kernel
theorem dX3_fill_66 : decode cX3_fill 66 = .ok (.iload_n 3, 1) := by decide +kernel
theorem dX3_fill_67 : decode cX3_fill 67 = .ok (.imul, 1) := by decide +kernel
theorem dX3_fill_68 : decode cX3_fill 68 = .ok (.bipush 11, 2) := by decide +kernel
theorem dX3_fill_70 : decode cX3_fill 70 = .ok (.iadd, 1) := by decide +kernel
theorem dX3_fill_71 : decode cX3_fill 71 = .ok (.sipush 10007, 3) := by decide +kernel
theorem dX3_fill_74 : decode cX3_fill 74 = .ok (.irem, 1) := by decide +kernel
theorem dX3_fill_75 : decode cX3_fill 75 = .ok (.istore_n 3, 1) := by decide +kernel
theorem dX3_fill_76 : decode cX3_fill 76 = .ok (.iload_n 3, 1) := by decide +kernel
theorem dX3_fill_77 : decode cX3_fill 77 = .ok (.iload_n 2, 1) := by decide +kernel
theorem dX3_fill_78 : decode cX3_fill 78 = .ok (.iconst 1, 1) := by decide +kernel
theorem dX3_fill_79 : decode cX3_fill 79 = .ok (.iadd, 1) := by decide +kernel
theorem dX3_fill_80 : decode cX3_fill 80 = .ok (.irem, 1) := by decide +kernel
theorem dX3_fill_81 : decode cX3_fill 81 = .ok (.istore 7, 2) := by decide +kernel
theorem dX3_fill_83 : decode cX3_fill 83 = .ok (.aload_n 0, 1) := by decide +kernel
theorem dX3_fill_84 : decode cX3_fill 84 = .ok (.getfield 12, 3) := by decide +kernel
theorem dX3_fill_87 : decode cX3_fill 87 = .ok (.iload 5, 2) := by decide +kernel
theorem dX3_fill_89 : decode cX3_fill 89 = .ok (.iload 6, 2) := by decide +kernel
theorem dX3_fill_91 : decode cX3_fill 91 = .ok (.iload 7, 2) := by decide +kernel
theorem dX3_fill_93 : decode cX3_fill 93 = .ok (.invokevirtual 60, 3) := by decide +kernel
theorem dX3_fill_96 : decode cX3_fill 96 = .ok (.aload_n 0, 1) := by decide +kernel
theorem dX3_fill_97 : decode cX3_fill 97 = .ok (.getfield 12, 3) := by decide +kernel
theorem dX3_fill_100 : decode cX3_fill 100 = .ok (.iload 5, 2) := by decide +kernel
theorem dX3_fill_102 : decode cX3_fill 102 = .ok (.iload 6, 2) := by decide +kernel
theorem dX3_fill_104 : decode cX3_fill 104 = .ok (.iconst 0, 1) := by decide +kernel
theorem dX3_fill_105 : decode cX3_fill 105 = .ok (.invokevirtual 86, 3) := by decide +kernel
theorem dX3_fill_108 : decode cX3_fill 108 = .ok (.iload 4, 2) := by decide +kernel
theorem dX3_fill_110 : decode cX3_fill 110 = .ok (.iload 7, 2) := by decide +kernel
theorem dX3_fill_112 : decode cX3_fill 112 = .ok (.iadd, 1) := by decide +kernel
theorem dX3_fill_113 : decode cX3_fill 113 = .ok (.istore 4, 2) := by decide +kernel
theorem dX3_fill_115 : decode cX3_fill 115 = .ok (.iinc 6 1, 3) := by decide +kernel
theorem dX3_fill_118 : decode cX3_fill 118 = .ok (.goto (-66), 3) := by decide +kernel
theorem dX3_fill_121 : decode cX3_fill 121 = .ok (.iinc 5 1, 3) := by decide +kernel
theorem dX3_fill_124 : decode cX3_fill 124 = .ok (.goto (-87), 3) := by decide +kernel
theorem dX3_fill_127 : decode cX3_fill 127 = .ok (.aload_n 0, 1) := by decide +kernel
theorem dX3_fill_128 : decode cX3_fill 128 = .ok (.getfield 39, 3) := by decide +kernel
theorem dX3_fill_131 : decode cX3_fill 131 = .ok (.invokevirtual 50, 3) := by decide +kernel
theorem dX3_fill_134 : decode cX3_fill 134 = .ok (.iload 4, 2) := by decide +kernel
theorem dX3_fill_136 : decode cX3_fill 136 = .ok (.ireturn, 1) := by decide +kernel
theorem dX3_setForbidden_0 : decode cX3_setForbidden 0 = .ok (.aload_n 0, 1) := by decide +kernel
theorem dX3_setForbidden_1 : decode cX3_setForbidden 1 = .ok (.iload_n 1, 1) := by decide +kernel
theorem dX3_setForbidden_2 : decode cX3_setForbidden 2 = .ok (.iload_n 2, 1) := by decide +kernel
theorem dX3_setForbidden_3 : decode cX3_setForbidden 3 = .ok (.invokevirtual 53, 3) := by decide +kernel
theorem dX3_setForbidden_6 : decode cX3_setForbidden 6 = .ok (.aload_n 0, 1) := by decide +kernel
theorem dX3_setForbidden_7 : decode cX3_setForbidden 7 = .ok (.getfield 12, 3) := by decide +kernel
theorem dX3_setForbidden_10 : decode cX3_setForbidden 10 = .ok (.iload_n 1, 1) := by decide +kernel
theorem dX3_setForbidden_11 : decode cX3_setForbidden 11 = .ok (.iload_n 2, 1) := by decide +kernel
theorem dX3_setForbidden_12 : decode cX3_setForbidden 12 = .ok (.iload_n 3, 1) := by decide +kernel
theorem dX3_setForbidden_13 : decode cX3_setForbidden 13 = .ok (.invokevirtual 86, 3) := by decide +kernel
theorem dX3_setForbidden_16 : decode cX3_setForbidden 16 = .ok (.aload_n 0, 1) := by decide +kernel
theorem dX3_setForbidden_17 : decode cX3_setForbidden 17 = .ok (.getfield 39, 3) := by decide +kernel
theorem dX3_setForbidden_20 : decode cX3_setForbidden 20 = .ok (.invokevirtual 50, 3) := by decide +kernel
theorem dX3_setForbidden_23 : decode cX3_setForbidden 23 = .ok (.aload_n 0, 1) := by decide +kernel
theorem dX3_setForbidden_24 : decode cX3_setForbidden 24 = .ok (.invokevirtual 90, 3) := by decide +kernel
theorem dX3_setForbidden_27 : decode cX3_setForbidden 27 = .ok (.ireturn, 1) := by decide +kernel
theorem dX3_costAt_0 : decode cX3_costAt 0 = .ok (.aload_n 0, 1) := by decide +kernel
theorem dX3_costAt_1 : decode cX3_costAt 1 = .ok (.iload_n 1, 1) := by decide +kernel
theorem dX3_costAt_2 : decode cX3_costAt 2 = .ok (.iload_n 2, 1) := by decide +kernel
theorem dX3_costAt_3 : decode cX3_costAt 3 = .ok (.invokevirtual 94, 3) := by decide +kernel
theorem dX3_costAt_6 : decode cX3_costAt 6 = .ok (.aload_n 0, 1) := by decide +kernel
theorem dX3_costAt_7 : decode cX3_costAt 7 = .ok (.getfield 12, 3) := by decide +kernel
theorem dX3_costAt_10 : decode cX3_costAt 10 = .ok (.iload_n 1, 1) := by decide +kernel
theorem dX3_costAt_11 : decode cX3_costAt 11 = .ok (.iload_n 2, 1) := by decide +kernel
theorem dX3_costAt_12 : decode cX3_costAt 12 = .ok (.invokevirtual 97, 3) := by decide +kernel
theorem dX3_costAt_15 : decode cX3_costAt 15 = .ok (.ireturn, 1) := by decide +kernel
theorem dX3_addToRow_0 : decode cX3_addToRow 0 = .ok (.aload_n 0, 1) := by decide +kernel
theorem dX3_addToRow_1 : decode cX3_addToRow 1 = .ok (.iload_n 1, 1) := by decide +kernel
theorem dX3_addToRow_2 : decode cX3_addToRow 2 = .ok (.invokevirtual 64, 3) := by decide +kernel
theorem dX3_addToRow_5 : decode cX3_addToRow 5 = .ok (.aload_n 0, 1) := by decide +kernel
theorem dX3_addToRow_6 : decode cX3_addToRow 6 = .ok (.iload_n 2, 1) := by decide +kernel
theorem dX3_addToRow_7 : decode cX3_addToRow 7 = .ok (.invokevirtual 100, 3) := by decide +kernel
theorem dX3_addToRow_10 : decode cX3_addToRow 10 = .ok (.aload_n 0, 1) := by decide +kernel
theorem dX3_addToRow_11 : decode cX3_addToRow 11 = .ok (.invokevirtual 103, 3) := by decide +kernel
theorem dX3_addToRow_14 : decode cX3_addToRow 14 = .ok (.iconst 0, 1) := by decide +kernel
theorem dX3_addToRow_15 : decode cX3_addToRow 15 = .ok (.istore_n 3, 1) := by decide +kernel
theorem dX3_addToRow_16 : decode cX3_addToRow 16 = .ok (.iload_n 3, 1) := by decide +kernel
theorem dX3_addToRow_17 : decode cX3_addToRow 17 = .ok (.aload_n 0, 1) := by decide +kernel
theorem dX3_addToRow_18 : decode cX3_addToRow 18 = .ok (.getfield 12, 3) := by decide +kernel
theorem dX3_addToRow_21 : decode cX3_addToRow 21 = .ok (.getfield 72, 3) := by decide +kernel
theorem dX3_addToRow_24 : decode cX3_addToRow 24 = .ok (.if_icmp .ge 16, 3) := by decide +kernel
theorem dX3_addToRow_27 : decode cX3_addToRow 27 = .ok (.aload_n 0, 1) := by decide +kernel
theorem dX3_addToRow_28 : decode cX3_addToRow 28 = .ok (.iload_n 1, 1) := by decide +kernel
theorem dX3_addToRow_29 : decode cX3_addToRow 29 = .ok (.iload_n 3, 1) := by decide +kernel
theorem dX3_addToRow_30 : decode cX3_addToRow 30 = .ok (.iload_n 2, 1) := by decide +kernel
theorem dX3_addToRow_31 : decode cX3_addToRow 31 = .ok (.invokevirtual 106, 3) := by decide +kernel
theorem dX3_addToRow_34 : decode cX3_addToRow 34 = .ok (.iinc 3 1, 3) := by decide +kernel
theorem dX3_addToRow_37 : decode cX3_addToRow 37 = .ok (.goto (-21), 3) := by decide +kernel
theorem dX3_addToRow_40 : decode cX3_addToRow 40 = .ok (.iconst 0, 1) := by decide +kernel
theorem dX3_addToRow_41 : decode cX3_addToRow 41 = .ok (.istore_n 3, 1) := by decide +kernel
theorem dX3_addToRow_42 : decode cX3_addToRow 42 = .ok (.iload_n 3, 1) := by decide +kernel
theorem dX3_addToRow_43 : decode cX3_addToRow 43 = .ok (.aload_n 0, 1) := by decide +kernel
theorem dX3_addToRow_44 : decode cX3_addToRow 44 = .ok (.getfield 12, 3) := by decide +kernel
theorem dX3_addToRow_47 : decode cX3_addToRow 47 = .ok (.getfield 72, 3) := by decide +kernel
theorem dX3_addToRow_50 : decode cX3_addToRow 50 = .ok (.if_icmp .ge 29, 3) := by decide +kernel
theorem dX3_addToRow_53 : decode cX3_addToRow 53 = .ok (.aload_n 0, 1) := by decide +kernel
theorem dX3_addToRow_54 : decode cX3_addToRow 54 = .ok (.getfield 12, 3) := by decide +kernel
theorem dX3_addToRow_57 : decode cX3_addToRow 57 = .ok (.iload_n 1, 1) := by decide +kernel
theorem dX3_addToRow_58 : decode cX3_addToRow 58 = .ok (.iload_n 3, 1) := by decide +kernel
theorem dX3_addToRow_59 : decode cX3_addToRow 59 = .ok (.aload_n 0, 1) := by decide +kernel
theorem dX3_addToRow_60 : decode cX3_addToRow 60 = .ok (.getfield 12, 3) := by decide +kernel
theorem dX3_addToRow_63 : decode cX3_addToRow 63 = .ok (.iload_n 1, 1) := by decide +kernel
theorem dX3_addToRow_64 : decode cX3_addToRow 64 = .ok (.iload_n 3, 1) := by decide +kernel
theorem dX3_addToRow_65 : decode cX3_addToRow 65 = .ok (.invokevirtual 56, 3) := by decide +kernel
theorem dX3_addToRow_68 : decode cX3_addToRow 68 = .ok (.iload_n 2, 1) := by decide +kernel
theorem dX3_addToRow_69 : decode cX3_addToRow 69 = .ok (.iadd, 1) := by decide +kernel
theorem dX3_addToRow_70 : decode cX3_addToRow 70 = .ok (.invokevirtual 60, 3) := by decide +kernel
theorem dX3_addToRow_73 : decode cX3_addToRow 73 = .ok (.iinc 3 1, 3) := by decide +kernel
theorem dX3_addToRow_76 : decode cX3_addToRow 76 = .ok (.goto (-34), 3) := by decide +kernel
theorem dX3_addToRow_79 : decode cX3_addToRow 79 = .ok (.aload_n 0, 1) := by decide +kernel
theorem dX3_addToRow_80 : decode cX3_addToRow 80 = .ok (.getfield 39, 3) := by decide +kernel
theorem dX3_addToRow_83 : decode cX3_addToRow 83 = .ok (.invokevirtual 50, 3) := by decide +kernel
theorem dX3_addToRow_86 : decode cX3_addToRow 86 = .ok (.aload_n 0, 1) := by decide +kernel
theorem dX3_addToRow_87 : decode cX3_addToRow 87 = .ok (.getfield 12, 3) := by decide +kernel
theorem dX3_addToRow_90 : decode cX3_addToRow 90 = .ok (.iload_n 1, 1) := by decide +kernel
theorem dX3_addToRow_91 : decode cX3_addToRow 91 = .ok (.invokevirtual 109, 3) := by decide +kernel
theorem dX3_addToRow_94 : decode cX3_addToRow 94 = .ok (.ireturn, 1) := by decide +kernel
theorem dX3_addToColumn_0 : decode cX3_addToColumn 0 = .ok (.aload_n 0, 1) := by decide +kernel
theorem dX3_addToColumn_1 : decode cX3_addToColumn 1 = .ok (.iload_n 1, 1) := by decide +kernel
theorem dX3_addToColumn_2 : decode cX3_addToColumn 2 = .ok (.invokevirtual 113, 3) := by decide +kernel
theorem dX3_addToColumn_5 : decode cX3_addToColumn 5 = .ok (.aload_n 0, 1) := by decide +kernel
theorem dX3_addToColumn_6 : decode cX3_addToColumn 6 = .ok (.iload_n 2, 1) := by decide +kernel
theorem dX3_addToColumn_7 : decode cX3_addToColumn 7 = .ok (.invokevirtual 100, 3) := by decide +kernel
theorem dX3_addToColumn_10 : decode cX3_addToColumn 10 = .ok (.iconst 0, 1) := by decide +kernel
theorem dX3_addToColumn_11 : decode cX3_addToColumn 11 = .ok (.istore_n 3, 1) := by decide +kernel
theorem dX3_addToColumn_12 : decode cX3_addToColumn 12 = .ok (.iload_n 3, 1) := by decide +kernel
theorem dX3_addToColumn_13 : decode cX3_addToColumn 13 = .ok (.aload_n 0, 1) := by decide +kernel
theorem dX3_addToColumn_14 : decode cX3_addToColumn 14 = .ok (.getfield 12, 3) := by decide +kernel
theorem dX3_addToColumn_17 : decode cX3_addToColumn 17 = .ok (.getfield 83, 3) := by decide +kernel
theorem dX3_addToColumn_20 : decode cX3_addToColumn 20 = .ok (.if_icmp .ge 16, 3) := by decide +kernel
theorem dX3_addToColumn_23 : decode cX3_addToColumn 23 = .ok (.aload_n 0, 1) := by decide +kernel
theorem dX3_addToColumn_24 : decode cX3_addToColumn 24 = .ok (.iload_n 3, 1) := by decide +kernel
theorem dX3_addToColumn_25 : decode cX3_addToColumn 25 = .ok (.iload_n 1, 1) := by decide +kernel
theorem dX3_addToColumn_26 : decode cX3_addToColumn 26 = .ok (.iload_n 2, 1) := by decide +kernel
theorem dX3_addToColumn_27 : decode cX3_addToColumn 27 = .ok (.invokevirtual 106, 3) := by decide +kernel
theorem dX3_addToColumn_30 : decode cX3_addToColumn 30 = .ok (.iinc 3 1, 3) := by decide +kernel
theorem dX3_addToColumn_33 : decode cX3_addToColumn 33 = .ok (.goto (-21), 3) := by decide +kernel
theorem dX3_addToColumn_36 : decode cX3_addToColumn 36 = .ok (.iconst 0, 1) := by decide +kernel
theorem dX3_addToColumn_37 : decode cX3_addToColumn 37 = .ok (.istore_n 3, 1) := by decide +kernel
theorem dX3_addToColumn_38 : decode cX3_addToColumn 38 = .ok (.iload_n 3, 1) := by decide +kernel
theorem dX3_addToColumn_39 : decode cX3_addToColumn 39 = .ok (.aload_n 0, 1) := by decide +kernel
theorem dX3_addToColumn_40 : decode cX3_addToColumn 40 = .ok (.getfield 12, 3) := by decide +kernel
theorem dX3_addToColumn_43 : decode cX3_addToColumn 43 = .ok (.getfield 83, 3) := by decide +kernel
theorem dX3_addToColumn_46 : decode cX3_addToColumn 46 = .ok (.if_icmp .ge 29, 3) := by decide +kernel
theorem dX3_addToColumn_49 : decode cX3_addToColumn 49 = .ok (.aload_n 0, 1) := by decide +kernel
theorem dX3_addToColumn_50 : decode cX3_addToColumn 50 = .ok (.getfield 12, 3) := by decide +kernel
theorem dX3_addToColumn_53 : decode cX3_addToColumn 53 = .ok (.iload_n 3, 1) := by decide +kernel
theorem dX3_addToColumn_54 : decode cX3_addToColumn 54 = .ok (.iload_n 1, 1) := by decide +kernel
theorem dX3_addToColumn_55 : decode cX3_addToColumn 55 = .ok (.aload_n 0, 1) := by decide +kernel
theorem dX3_addToColumn_56 : decode cX3_addToColumn 56 = .ok (.getfield 12, 3) := by decide +kernel
theorem dX3_addToColumn_59 : decode cX3_addToColumn 59 = .ok (.iload_n 3, 1) := by decide +kernel
theorem dX3_addToColumn_60 : decode cX3_addToColumn 60 = .ok (.iload_n 1, 1) := by decide +kernel
theorem dX3_addToColumn_61 : decode cX3_addToColumn 61 = .ok (.invokevirtual 56, 3) := by decide +kernel
theorem dX3_addToColumn_64 : decode cX3_addToColumn 64 = .ok (.iload_n 2, 1) := by decide +kernel
theorem dX3_addToColumn_65 : decode cX3_addToColumn 65 = .ok (.iadd, 1) := by decide +kernel
theorem dX3_addToColumn_66 : decode cX3_addToColumn 66 = .ok (.invokevirtual 60, 3) := by decide +kernel
theorem dX3_addToColumn_69 : decode cX3_addToColumn 69 = .ok (.iinc 3 1, 3) := by decide +kernel
theorem dX3_addToColumn_72 : decode cX3_addToColumn 72 = .ok (.goto (-34), 3) := by decide +kernel
theorem dX3_addToColumn_75 : decode cX3_addToColumn 75 = .ok (.aload_n 0, 1) := by decide +kernel
theorem dX3_addToColumn_76 : decode cX3_addToColumn 76 = .ok (.getfield 39, 3) := by decide +kernel
theorem dX3_addToColumn_79 : decode cX3_addToColumn 79 = .ok (.invokevirtual 50, 3) := by decide +kernel
theorem dX3_addToColumn_82 : decode cX3_addToColumn 82 = .ok (.aload_n 0, 1) := by decide +kernel
theorem dX3_addToColumn_83 : decode cX3_addToColumn 83 = .ok (.getfield 12, 3) := by decide +kernel
theorem dX3_addToColumn_86 : decode cX3_addToColumn 86 = .ok (.iload_n 1, 1) := by decide +kernel
theorem dX3_addToColumn_87 : decode cX3_addToColumn 87 = .ok (.invokevirtual 116, 3) := by decide +kernel
theorem dX3_addToColumn_90 : decode cX3_addToColumn 90 = .ok (.ireturn, 1) := by decide +kernel
theorem dX3_swapRows_0 : decode cX3_swapRows 0 = .ok (.aload_n 0, 1) := by decide +kernel
theorem dX3_swapRows_1 : decode cX3_swapRows 1 = .ok (.iload_n 1, 1) := by decide +kernel
theorem dX3_swapRows_2 : decode cX3_swapRows 2 = .ok (.invokevirtual 64, 3) := by decide +kernel
theorem dX3_swapRows_5 : decode cX3_swapRows 5 = .ok (.aload_n 0, 1) := by decide +kernel
theorem dX3_swapRows_6 : decode cX3_swapRows 6 = .ok (.iload_n 2, 1) := by decide +kernel
theorem dX3_swapRows_7 : decode cX3_swapRows 7 = .ok (.invokevirtual 64, 3) := by decide +kernel
theorem dX3_swapRows_10 : decode cX3_swapRows 10 = .ok (.iconst 0, 1) := by decide +kernel
theorem dX3_swapRows_11 : decode cX3_swapRows 11 = .ok (.istore_n 3, 1) := by decide +kernel
theorem dX3_swapRows_12 : decode cX3_swapRows 12 = .ok (.iload_n 3, 1) := by decide +kernel
theorem dX3_swapRows_13 : decode cX3_swapRows 13 = .ok (.aload_n 0, 1) := by decide +kernel
theorem dX3_swapRows_14 : decode cX3_swapRows 14 = .ok (.getfield 12, 3) := by decide +kernel
theorem dX3_swapRows_17 : decode cX3_swapRows 17 = .ok (.getfield 72, 3) := by decide +kernel
theorem dX3_swapRows_20 : decode cX3_swapRows 20 = .ok (.if_icmp .ge 20, 3) := by decide +kernel
theorem dX3_swapRows_23 : decode cX3_swapRows 23 = .ok (.aload_n 0, 1) := by decide +kernel
theorem dX3_swapRows_24 : decode cX3_swapRows 24 = .ok (.getfield 12, 3) := by decide +kernel
theorem dX3_swapRows_27 : decode cX3_swapRows 27 = .ok (.iload_n 1, 1) := by decide +kernel
theorem dX3_swapRows_28 : decode cX3_swapRows 28 = .ok (.iload_n 3, 1) := by decide +kernel
theorem dX3_swapRows_29 : decode cX3_swapRows 29 = .ok (.iload_n 2, 1) := by decide +kernel
theorem dX3_swapRows_30 : decode cX3_swapRows 30 = .ok (.iload_n 3, 1) := by decide +kernel
theorem dX3_swapRows_31 : decode cX3_swapRows 31 = .ok (.invokevirtual 119, 3) := by decide +kernel
theorem dX3_swapRows_34 : decode cX3_swapRows 34 = .ok (.iinc 3 1, 3) := by decide +kernel
theorem dX3_swapRows_37 : decode cX3_swapRows 37 = .ok (.goto (-25), 3) := by decide +kernel
theorem dX3_swapRows_40 : decode cX3_swapRows 40 = .ok (.aload_n 0, 1) := by decide +kernel
theorem dX3_swapRows_41 : decode cX3_swapRows 41 = .ok (.getfield 39, 3) := by decide +kernel
theorem dX3_swapRows_44 : decode cX3_swapRows 44 = .ok (.invokevirtual 50, 3) := by decide +kernel
theorem dX3_swapRows_47 : decode cX3_swapRows 47 = .ok (.aload_n 0, 1) := by decide +kernel
theorem dX3_swapRows_48 : decode cX3_swapRows 48 = .ok (.getfield 12, 3) := by decide +kernel
theorem dX3_swapRows_51 : decode cX3_swapRows 51 = .ok (.iload_n 1, 1) := by decide +kernel
theorem dX3_swapRows_52 : decode cX3_swapRows 52 = .ok (.invokevirtual 109, 3) := by decide +kernel
theorem dX3_swapRows_55 : decode cX3_swapRows 55 = .ok (.ireturn, 1) := by decide +kernel
theorem dX3_swapColumns_0 : decode cX3_swapColumns 0 = .ok (.aload_n 0, 1) := by decide +kernel
theorem dX3_swapColumns_1 : decode cX3_swapColumns 1 = .ok (.iload_n 1, 1) := by decide +kernel
theorem dX3_swapColumns_2 : decode cX3_swapColumns 2 = .ok (.invokevirtual 113, 3) := by decide +kernel
theorem dX3_swapColumns_5 : decode cX3_swapColumns 5 = .ok (.aload_n 0, 1) := by decide +kernel
theorem dX3_swapColumns_6 : decode cX3_swapColumns 6 = .ok (.iload_n 2, 1) := by decide +kernel
theorem dX3_swapColumns_7 : decode cX3_swapColumns 7 = .ok (.invokevirtual 113, 3) := by decide +kernel
theorem dX3_swapColumns_10 : decode cX3_swapColumns 10 = .ok (.iconst 0, 1) := by decide +kernel
theorem dX3_swapColumns_11 : decode cX3_swapColumns 11 = .ok (.istore_n 3, 1) := by decide +kernel
theorem dX3_swapColumns_12 : decode cX3_swapColumns 12 = .ok (.iload_n 3, 1) := by decide +kernel
theorem dX3_swapColumns_13 : decode cX3_swapColumns 13 = .ok (.aload_n 0, 1) := by decide +kernel
theorem dX3_swapColumns_14 : decode cX3_swapColumns 14 = .ok (.getfield 12, 3) := by decide +kernel
theorem dX3_swapColumns_17 : decode cX3_swapColumns 17 = .ok (.getfield 83, 3) := by decide +kernel
theorem dX3_swapColumns_20 : decode cX3_swapColumns 20 = .ok (.if_icmp .ge 20, 3) := by decide +kernel
theorem dX3_swapColumns_23 : decode cX3_swapColumns 23 = .ok (.aload_n 0, 1) := by decide +kernel
theorem dX3_swapColumns_24 : decode cX3_swapColumns 24 = .ok (.getfield 12, 3) := by decide +kernel
theorem dX3_swapColumns_27 : decode cX3_swapColumns 27 = .ok (.iload_n 3, 1) := by decide +kernel
theorem dX3_swapColumns_28 : decode cX3_swapColumns 28 = .ok (.iload_n 1, 1) := by decide +kernel
theorem dX3_swapColumns_29 : decode cX3_swapColumns 29 = .ok (.iload_n 3, 1) := by decide +kernel
theorem dX3_swapColumns_30 : decode cX3_swapColumns 30 = .ok (.iload_n 2, 1) := by decide +kernel
theorem dX3_swapColumns_31 : decode cX3_swapColumns 31 = .ok (.invokevirtual 119, 3) := by decide +kernel
theorem dX3_swapColumns_34 : decode cX3_swapColumns 34 = .ok (.iinc 3 1, 3) := by decide +kernel
theorem dX3_swapColumns_37 : decode cX3_swapColumns 37 = .ok (.goto (-25), 3) := by decide +kernel
theorem dX3_swapColumns_40 : decode cX3_swapColumns 40 = .ok (.aload_n 0, 1) := by decide +kernel
theorem dX3_swapColumns_41 : decode cX3_swapColumns 41 = .ok (.getfield 39, 3) := by decide +kernel
theorem dX3_swapColumns_44 : decode cX3_swapColumns 44 = .ok (.invokevirtual 50, 3) := by decide +kernel
theorem dX3_swapColumns_47 : decode cX3_swapColumns 47 = .ok (.aload_n 0, 1) := by decide +kernel
theorem dX3_swapColumns_48 : decode cX3_swapColumns 48 = .ok (.getfield 12, 3) := by decide +kernel
theorem dX3_swapColumns_51 : decode cX3_swapColumns 51 = .ok (.iload_n 1, 1) := by decide +kernel
theorem dX3_swapColumns_52 : decode cX3_swapColumns 52 = .ok (.invokevirtual 116, 3) := by decide +kernel
theorem dX3_swapColumns_55 : decode cX3_swapColumns 55 = .ok (.ireturn, 1) := by decide +kernel
theorem dX3_transpose_0 : decode cX3_transpose 0 = .ok (.aload_n 0, 1) := by decide +kernel
theorem dX3_transpose_1 : decode cX3_transpose 1 = .ok (.invokevirtual 103, 3) := by decide +kernel
theorem dX3_transpose_4 : decode cX3_transpose 4 = .ok (.iconst 0, 1) := by decide +kernel
theorem dX3_transpose_5 : decode cX3_transpose 5 = .ok (.istore_n 1, 1) := by decide +kernel
theorem dX3_transpose_6 : decode cX3_transpose 6 = .ok (.iload_n 1, 1) := by decide +kernel
theorem dX3_transpose_7 : decode cX3_transpose 7 = .ok (.aload_n 0, 1) := by decide +kernel
theorem dX3_transpose_8 : decode cX3_transpose 8 = .ok (.getfield 12, 3) := by decide +kernel
theorem dX3_transpose_11 : decode cX3_transpose 11 = .ok (.getfield 83, 3) := by decide +kernel
theorem dX3_transpose_14 : decode cX3_transpose 14 = .ok (.if_icmp .ge 33, 3) := by decide +kernel
theorem dX3_transpose_17 : decode cX3_transpose 17 = .ok (.iconst 0, 1) := by decide +kernel
theorem dX3_transpose_18 : decode cX3_transpose 18 = .ok (.istore_n 2, 1) := by decide +kernel
theorem dX3_transpose_19 : decode cX3_transpose 19 = .ok (.iload_n 2, 1) := by decide +kernel
theorem dX3_transpose_20 : decode cX3_transpose 20 = .ok (.iload_n 1, 1) := by decide +kernel
theorem dX3_transpose_21 : decode cX3_transpose 21 = .ok (.if_icmp .ge 20, 3) := by decide +kernel
theorem dX3_transpose_24 : decode cX3_transpose 24 = .ok (.aload_n 0, 1) := by decide +kernel
theorem dX3_transpose_25 : decode cX3_transpose 25 = .ok (.getfield 12, 3) := by decide +kernel
theorem dX3_transpose_28 : decode cX3_transpose 28 = .ok (.iload_n 1, 1) := by decide +kernel
theorem dX3_transpose_29 : decode cX3_transpose 29 = .ok (.iload_n 2, 1) := by decide +kernel
theorem dX3_transpose_30 : decode cX3_transpose 30 = .ok (.iload_n 2, 1) := by decide +kernel
theorem dX3_transpose_31 : decode cX3_transpose 31 = .ok (.iload_n 1, 1) := by decide +kernel
theorem dX3_transpose_32 : decode cX3_transpose 32 = .ok (.invokevirtual 119, 3) := by decide +kernel
theorem dX3_transpose_35 : decode cX3_transpose 35 = .ok (.iinc 2 1, 3) := by decide +kernel
theorem dX3_transpose_38 : decode cX3_transpose 38 = .ok (.goto (-19), 3) := by decide +kernel
theorem dX3_transpose_41 : decode cX3_transpose 41 = .ok (.iinc 1 1, 3) := by decide +kernel
theorem dX3_transpose_44 : decode cX3_transpose 44 = .ok (.goto (-38), 3) := by decide +kernel
theorem dX3_transpose_47 : decode cX3_transpose 47 = .ok (.aload_n 0, 1) := by decide +kernel
theorem dX3_transpose_48 : decode cX3_transpose 48 = .ok (.getfield 39, 3) := by decide +kernel
theorem dX3_transpose_51 : decode cX3_transpose 51 = .ok (.invokevirtual 50, 3) := by decide +kernel
theorem dX3_transpose_54 : decode cX3_transpose 54 = .ok (.aload_n 0, 1) := by decide +kernel
theorem dX3_transpose_55 : decode cX3_transpose 55 = .ok (.getfield 12, 3) := by decide +kernel
theorem dX3_transpose_58 : decode cX3_transpose 58 = .ok (.getfield 83, 3) := by decide +kernel
theorem dX3_transpose_61 : decode cX3_transpose 61 = .ok (.ireturn, 1) := by decide +kernel
theorem dX3_save_0 : decode cX3_save 0 = .ok (.aload_n 0, 1) := by decide +kernel
theorem dX3_save_1 : decode cX3_save 1 = .ok (.getfield 16, 3) := by decide +kernel
theorem dX3_save_4 : decode cX3_save 4 = .ok (.aload_n 0, 1) := by decide +kernel
theorem dX3_save_5 : decode cX3_save 5 = .ok (.getfield 12, 3) := by decide +kernel
theorem dX3_save_8 : decode cX3_save 8 = .ok (.invokevirtual 123, 3) := by decide +kernel
theorem dX3_save_11 : decode cX3_save 11 = .ok (.aload_n 0, 1) := by decide +kernel
theorem dX3_save_12 : decode cX3_save 12 = .ok (.invokevirtual 127, 3) := by decide +kernel
theorem dX3_save_15 : decode cX3_save 15 = .ok (.ireturn, 1) := by decide +kernel
theorem dX3_restore_0 : decode cX3_restore 0 = .ok (.aload_n 0, 1) := by decide +kernel
theorem dX3_restore_1 : decode cX3_restore 1 = .ok (.getfield 12, 3) := by decide +kernel
theorem dX3_restore_4 : decode cX3_restore 4 = .ok (.aload_n 0, 1) := by decide +kernel
theorem dX3_restore_5 : decode cX3_restore 5 = .ok (.getfield 16, 3) := by decide +kernel
theorem dX3_restore_8 : decode cX3_restore 8 = .ok (.invokevirtual 123, 3) := by decide +kernel
theorem dX3_restore_11 : decode cX3_restore 11 = .ok (.aload_n 0, 1) := by decide +kernel
theorem dX3_restore_12 : decode cX3_restore 12 = .ok (.getfield 39, 3) := by decide +kernel
theorem dX3_restore_15 : decode cX3_restore 15 = .ok (.invokevirtual 50, 3) := by decide +kernel
theorem dX3_restore_18 : decode cX3_restore 18 = .ok (.aload_n 0, 1) := by decide +kernel
theorem dX3_restore_19 : decode cX3_restore 19 = .ok (.getfield 12, 3) := by decide +kernel
theorem dX3_restore_22 : decode cX3_restore 22 = .ok (.getfield 83, 3) := by decide +kernel
theorem dX3_restore_25 : decode cX3_restore 25 = .ok (.ireturn, 1) := by decide +kernel
theorem dX3_distance_0 : decode cX3_distance 0 = .ok (.aload_n 0, 1) := by decide +kernel
theorem dX3_distance_1 : decode cX3_distance 1 = .ok (.getfield 12, 3) := by decide +kernel
theorem dX3_distance_4 : decode cX3_distance 4 = .ok (.getfield 83, 3) := by decide +kernel
theorem dX3_distance_7 : decode cX3_distance 7 = .ok (.aload_n 0, 1) := by decide +kernel
theorem dX3_distance_8 : decode cX3_distance 8 = .ok (.getfield 16, 3) := by decide +kernel
theorem dX3_distance_11 : decode cX3_distance 11 = .ok (.getfield 83, 3) := by decide +kernel
theorem dX3_distance_14 : decode cX3_distance 14 = .ok (.if_icmp .ne 20, 3) := by decide +kernel
theorem dX3_distance_17 : decode cX3_distance 17 = .ok (.aload_n 0, 1) := by decide +kernel
theorem dX3_distance_18 : decode cX3_distance 18 = .ok (.getfield 12, 3) := by decide +kernel
theorem dX3_distance_21 : decode cX3_distance 21 = .ok (.getfield 72, 3) := by decide +kernel
theorem dX3_distance_24 : decode cX3_distance 24 = .ok (.aload_n 0, 1) := by decide +kernel
theorem dX3_distance_25 : decode cX3_distance 25 = .ok (.getfield 16, 3) := by decide +kernel
theorem dX3_distance_28 : decode cX3_distance 28 = .ok (.getfield 72, 3) := by decide +kernel
theorem dX3_distance_31 : decode cX3_distance 31 = .ok (.if_icmp .eq 5, 3) := by decide +kernel
theorem dX3_distance_34 : decode cX3_distance 34 = .ok (.iconst (-1), 1) := by decide +kernel
theorem dX3_distance_35 : decode cX3_distance 35 = .ok (.ireturn, 1) := by decide +kernel
theorem dX3_distance_36 : decode cX3_distance 36 = .ok (.iconst 0, 1) := by decide +kernel
theorem dX3_distance_37 : decode cX3_distance 37 = .ok (.istore_n 1, 1) := by decide +kernel
theorem dX3_distance_38 : decode cX3_distance 38 = .ok (.iconst 0, 1) := by decide +kernel
theorem dX3_distance_39 : decode cX3_distance 39 = .ok (.istore_n 2, 1) := by decide +kernel
theorem dX3_distance_40 : decode cX3_distance 40 = .ok (.iload_n 2, 1) := by decide +kernel
theorem dX3_distance_41 : decode cX3_distance 41 = .ok (.aload_n 0, 1) := by decide +kernel
theorem dX3_distance_42 : decode cX3_distance 42 = .ok (.getfield 12, 3) := by decide +kernel
theorem dX3_distance_45 : decode cX3_distance 45 = .ok (.getfield 83, 3) := by decide +kernel
theorem dX3_distance_48 : decode cX3_distance 48 = .ok (.if_icmp .ge 53, 3) := by decide +kernel
theorem dX3_distance_51 : decode cX3_distance 51 = .ok (.iconst 0, 1) := by decide +kernel
theorem dX3_distance_52 : decode cX3_distance 52 = .ok (.istore_n 3, 1) := by decide +kernel
theorem dX3_distance_53 : decode cX3_distance 53 = .ok (.iload_n 3, 1) := by decide +kernel
theorem dX3_distance_54 : decode cX3_distance 54 = .ok (.aload_n 0, 1) := by decide +kernel
theorem dX3_distance_55 : decode cX3_distance 55 = .ok (.getfield 12, 3) := by decide +kernel
theorem dX3_distance_58 : decode cX3_distance 58 = .ok (.getfield 83, 3) := by decide +kernel
theorem dX3_distance_61 : decode cX3_distance 61 = .ok (.if_icmp .ge 34, 3) := by decide +kernel
theorem dX3_distance_64 : decode cX3_distance 64 = .ok (.iload_n 1, 1) := by decide +kernel
theorem dX3_distance_65 : decode cX3_distance 65 = .ok (.aload_n 0, 1) := by decide +kernel
theorem dX3_distance_66 : decode cX3_distance 66 = .ok (.getfield 12, 3) := by decide +kernel
theorem dX3_distance_69 : decode cX3_distance 69 = .ok (.iload_n 2, 1) := by decide +kernel
theorem dX3_distance_70 : decode cX3_distance 70 = .ok (.iload_n 3, 1) := by decide +kernel
theorem dX3_distance_71 : decode cX3_distance 71 = .ok (.invokevirtual 97, 3) := by decide +kernel
theorem dX3_distance_74 : decode cX3_distance 74 = .ok (.aload_n 0, 1) := by decide +kernel
theorem dX3_distance_75 : decode cX3_distance 75 = .ok (.getfield 16, 3) := by decide +kernel
theorem dX3_distance_78 : decode cX3_distance 78 = .ok (.iload_n 2, 1) := by decide +kernel
theorem dX3_distance_79 : decode cX3_distance 79 = .ok (.iload_n 3, 1) := by decide +kernel
theorem dX3_distance_80 : decode cX3_distance 80 = .ok (.invokevirtual 97, 3) := by decide +kernel
theorem dX3_distance_83 : decode cX3_distance 83 = .ok (.isub, 1) := by decide +kernel
theorem dX3_distance_84 : decode cX3_distance 84 = .ok (.invokestatic 130, 3) := by decide +kernel
theorem dX3_distance_87 : decode cX3_distance 87 = .ok (.iadd, 1) := by decide +kernel
theorem dX3_distance_88 : decode cX3_distance 88 = .ok (.istore_n 1, 1) := by decide +kernel
theorem dX3_distance_89 : decode cX3_distance 89 = .ok (.iinc 3 1, 3) := by decide +kernel
theorem dX3_distance_92 : decode cX3_distance 92 = .ok (.goto (-39), 3) := by decide +kernel
theorem dX3_distance_95 : decode cX3_distance 95 = .ok (.iinc 2 1, 3) := by decide +kernel
theorem dX3_distance_98 : decode cX3_distance 98 = .ok (.goto (-58), 3) := by decide +kernel
theorem dX3_distance_101 : decode cX3_distance 101 = .ok (.iload_n 1, 1) := by decide +kernel
theorem dX3_distance_102 : decode cX3_distance 102 = .ok (.ireturn, 1) := by decide +kernel
theorem dX3_rows_0 : decode cX3_rows 0 = .ok (.aload_n 0, 1) := by decide +kernel
theorem dX3_rows_1 : decode cX3_rows 1 = .ok (.getfield 12, 3) := by decide +kernel
theorem dX3_rows_4 : decode cX3_rows 4 = .ok (.getfield 83, 3) := by decide +kernel
theorem dX3_rows_7 : decode cX3_rows 7 = .ok (.ireturn, 1) := by decide +kernel
theorem dX3_columns_0 : decode cX3_columns 0 = .ok (.aload_n 0, 1) := by decide +kernel
theorem dX3_columns_1 : decode cX3_columns 1 = .ok (.getfield 12, 3) := by decide +kernel
theorem dX3_columns_4 : decode cX3_columns 4 = .ok (.getfield 72, 3) := by decide +kernel
theorem dX3_columns_7 : decode cX3_columns 7 = .ok (.ireturn, 1) := by decide +kernel
theorem dX3_forbiddenCount_0 : decode cX3_forbiddenCount 0 = .ok (.iconst 0, 1) := by decide +kernel
theorem dX3_forbiddenCount_1 : decode cX3_forbiddenCount 1 = .ok (.istore_n 1, 1) := by decide +kernel
theorem dX3_forbiddenCount_2 : decode cX3_forbiddenCount 2 = .ok (.iconst 0, 1) := by decide +kernel
theorem dX3_forbiddenCount_3 : decode cX3_forbiddenCount 3 = .ok (.istore_n 2, 1) := by decide +kernel
theorem dX3_forbiddenCount_4 : decode cX3_forbiddenCount 4 = .ok (.iload_n 2, 1) := by decide +kernel
theorem dX3_forbiddenCount_5 : decode cX3_forbiddenCount 5 = .ok (.aload_n 0, 1) := by decide +kernel
theorem dX3_forbiddenCount_6 : decode cX3_forbiddenCount 6 = .ok (.getfield 12, 3) := by decide +kernel
theorem dX3_forbiddenCount_9 : decode cX3_forbiddenCount 9 = .ok (.getfield 83, 3) := by decide +kernel
theorem dX3_forbiddenCount_12 : decode cX3_forbiddenCount 12 = .ok (.if_icmp .ge 43, 3) := by decide +kernel
theorem dX3_forbiddenCount_15 : decode cX3_forbiddenCount 15 = .ok (.iconst 0, 1) := by decide +kernel
theorem dX3_forbiddenCount_16 : decode cX3_forbiddenCount 16 = .ok (.istore_n 3, 1) := by decide +kernel
theorem dX3_forbiddenCount_17 : decode cX3_forbiddenCount 17 = .ok (.iload_n 3, 1) := by decide +kernel
theorem dX3_forbiddenCount_18 : decode cX3_forbiddenCount 18 = .ok (.aload_n 0, 1) := by decide +kernel
theorem dX3_forbiddenCount_19 : decode cX3_forbiddenCount 19 = .ok (.getfield 12, 3) := by decide +kernel
theorem dX3_forbiddenCount_22 : decode cX3_forbiddenCount 22 = .ok (.getfield 72, 3) := by decide +kernel
theorem dX3_forbiddenCount_25 : decode cX3_forbiddenCount 25 = .ok (.if_icmp .ge 24, 3) := by decide +kernel
theorem dX3_forbiddenCount_28 : decode cX3_forbiddenCount 28 = .ok (.aload_n 0, 1) := by decide +kernel
theorem dX3_forbiddenCount_29 : decode cX3_forbiddenCount 29 = .ok (.getfield 12, 3) := by decide +kernel
theorem dX3_forbiddenCount_32 : decode cX3_forbiddenCount 32 = .ok (.iload_n 2, 1) := by decide +kernel
theorem dX3_forbiddenCount_33 : decode cX3_forbiddenCount 33 = .ok (.iload_n 3, 1) := by decide +kernel
theorem dX3_forbiddenCount_34 : decode cX3_forbiddenCount 34 = .ok (.invokevirtual 133, 3) := by decide +kernel
theorem dX3_forbiddenCount_37 : decode cX3_forbiddenCount 37 = .ok (.ifCond .eq 6, 3) := by decide +kernel
theorem dX3_forbiddenCount_40 : decode cX3_forbiddenCount 40 = .ok (.iinc 1 1, 3) := by decide +kernel
theorem dX3_forbiddenCount_43 : decode cX3_forbiddenCount 43 = .ok (.iinc 3 1, 3) := by decide +kernel
theorem dX3_forbiddenCount_46 : decode cX3_forbiddenCount 46 = .ok (.goto (-29), 3) := by decide +kernel
theorem dX3_forbiddenCount_49 : decode cX3_forbiddenCount 49 = .ok (.iinc 2 1, 3) := by decide +kernel
theorem dX3_forbiddenCount_52 : decode cX3_forbiddenCount 52 = .ok (.goto (-48), 3) := by decide +kernel
theorem dX3_forbiddenCount_55 : decode cX3_forbiddenCount 55 = .ok (.iload_n 1, 1) := by decide +kernel
theorem dX3_forbiddenCount_56 : decode cX3_forbiddenCount 56 = .ok (.ireturn, 1) := by decide +kernel
theorem dX3_totalCost_0 : decode cX3_totalCost 0 = .ok (.iconst 0, 1) := by decide +kernel
theorem dX3_totalCost_1 : decode cX3_totalCost 1 = .ok (.istore_n 1, 1) := by decide +kernel
theorem dX3_totalCost_2 : decode cX3_totalCost 2 = .ok (.iconst 0, 1) := by decide +kernel
theorem dX3_totalCost_3 : decode cX3_totalCost 3 = .ok (.istore_n 2, 1) := by decide +kernel
theorem dX3_totalCost_4 : decode cX3_totalCost 4 = .ok (.iload_n 2, 1) := by decide +kernel
theorem dX3_totalCost_5 : decode cX3_totalCost 5 = .ok (.aload_n 0, 1) := by decide +kernel
theorem dX3_totalCost_6 : decode cX3_totalCost 6 = .ok (.getfield 12, 3) := by decide +kernel
theorem dX3_totalCost_9 : decode cX3_totalCost 9 = .ok (.getfield 83, 3) := by decide +kernel
theorem dX3_totalCost_12 : decode cX3_totalCost 12 = .ok (.if_icmp .ge 20, 3) := by decide +kernel
theorem dX3_totalCost_15 : decode cX3_totalCost 15 = .ok (.iload_n 1, 1) := by decide +kernel
theorem dX3_totalCost_16 : decode cX3_totalCost 16 = .ok (.aload_n 0, 1) := by decide +kernel
theorem dX3_totalCost_17 : decode cX3_totalCost 17 = .ok (.getfield 12, 3) := by decide +kernel
theorem dX3_totalCost_20 : decode cX3_totalCost 20 = .ok (.iload_n 2, 1) := by decide +kernel
theorem dX3_totalCost_21 : decode cX3_totalCost 21 = .ok (.invokevirtual 109, 3) := by decide +kernel
theorem dX3_totalCost_24 : decode cX3_totalCost 24 = .ok (.iadd, 1) := by decide +kernel
theorem dX3_totalCost_25 : decode cX3_totalCost 25 = .ok (.istore_n 1, 1) := by decide +kernel
theorem dX3_totalCost_26 : decode cX3_totalCost 26 = .ok (.iinc 2 1, 3) := by decide +kernel
theorem dX3_totalCost_29 : decode cX3_totalCost 29 = .ok (.goto (-25), 3) := by decide +kernel
theorem dX3_totalCost_32 : decode cX3_totalCost 32 = .ok (.iload_n 1, 1) := by decide +kernel
theorem dX3_totalCost_33 : decode cX3_totalCost 33 = .ok (.ireturn, 1) := by decide +kernel
theorem dX3_minimum_0 : decode cX3_minimum 0 = .ok (.aload_n 0, 1) := by decide +kernel
theorem dX3_minimum_1 : decode cX3_minimum 1 = .ok (.getfield 22, 3) := by decide +kernel
theorem dX3_minimum_4 : decode cX3_minimum 4 = .ok (.aload_n 0, 1) := by decide +kernel
theorem dX3_minimum_5 : decode cX3_minimum 5 = .ok (.getfield 12, 3) := by decide +kernel
theorem dX3_minimum_8 : decode cX3_minimum 8 = .ok (.invokevirtual 137, 3) := by decide +kernel
theorem dX3_minimum_11 : decode cX3_minimum 11 = .ok (.aload_n 0, 1) := by decide +kernel
theorem dX3_minimum_12 : decode cX3_minimum 12 = .ok (.getfield 22, 3) := by decide +kernel
theorem dX3_minimum_15 : decode cX3_minimum 15 = .ok (.invokevirtual 140, 3) := by decide +kernel
theorem dX3_minimum_18 : decode cX3_minimum 18 = .ok (.ireturn, 1) := by decide +kernel
theorem dX3_savedMinimum_0 : decode cX3_savedMinimum 0 = .ok (.aload_n 0, 1) := by decide +kernel
theorem dX3_savedMinimum_1 : decode cX3_savedMinimum 1 = .ok (.getfield 22, 3) := by decide +kernel
theorem dX3_savedMinimum_4 : decode cX3_savedMinimum 4 = .ok (.aload_n 0, 1) := by decide +kernel
theorem dX3_savedMinimum_5 : decode cX3_savedMinimum 5 = .ok (.getfield 16, 3) := by decide +kernel
theorem dX3_savedMinimum_8 : decode cX3_savedMinimum 8 = .ok (.invokevirtual 137, 3) := by decide +kernel
theorem dX3_savedMinimum_11 : decode cX3_savedMinimum 11 = .ok (.aload_n 0, 1) := by decide +kernel
theorem dX3_savedMinimum_12 : decode cX3_savedMinimum 12 = .ok (.getfield 22, 3) := by decide +kernel
theorem dX3_savedMinimum_15 : decode cX3_savedMinimum 15 = .ok (.invokevirtual 140, 3) := by decide +kernel
theorem dX3_savedMinimum_18 : decode cX3_savedMinimum 18 = .ok (.ireturn, 1) := by decide +kernel
theorem dX3_assigned_0 : decode cX3_assigned 0 = .ok (.aload_n 0, 1) := by decide +kernel
theorem dX3_assigned_1 : decode cX3_assigned 1 = .ok (.iload_n 1, 1) := by decide +kernel
theorem dX3_assigned_2 : decode cX3_assigned 2 = .ok (.invokevirtual 64, 3) := by decide +kernel
theorem dX3_assigned_5 : decode cX3_assigned 5 = .ok (.aload_n 0, 1) := by decide +kernel
theorem dX3_assigned_6 : decode cX3_assigned 6 = .ok (.invokevirtual 143, 3) := by decide +kernel
theorem dX3_assigned_9 : decode cX3_assigned 9 = .ok (.aload_n 0, 1) := by decide +kernel
theorem dX3_assigned_10 : decode cX3_assigned 10 = .ok (.getfield 33, 3) := by decide +kernel
theorem dX3_assigned_13 : decode cX3_assigned 13 = .ok (.iload_n 1, 1) := by decide +kernel
theorem dX3_assigned_14 : decode cX3_assigned 14 = .ok (.iaload, 1) := by decide +kernel
theorem dX3_assigned_15 : decode cX3_assigned 15 = .ok (.ireturn, 1) := by decide +kernel
theorem dX3_optimalCount_0 : decode cX3_optimalCount 0 = .ok (.aload_n 0, 1) := by decide +kernel
theorem dX3_optimalCount_1 : decode cX3_optimalCount 1 = .ok (.getfield 22, 3) := by decide +kernel
theorem dX3_optimalCount_4 : decode cX3_optimalCount 4 = .ok (.aload_n 0, 1) := by decide +kernel
theorem dX3_optimalCount_5 : decode cX3_optimalCount 5 = .ok (.getfield 12, 3) := by decide +kernel
theorem dX3_optimalCount_8 : decode cX3_optimalCount 8 = .ok (.invokevirtual 137, 3) := by decide +kernel
theorem dX3_optimalCount_11 : decode cX3_optimalCount 11 = .ok (.aload_n 0, 1) := by decide +kernel
theorem dX3_optimalCount_12 : decode cX3_optimalCount 12 = .ok (.getfield 22, 3) := by decide +kernel
theorem dX3_optimalCount_15 : decode cX3_optimalCount 15 = .ok (.invokevirtual 140, 3) := by decide +kernel
theorem dX3_optimalCount_18 : decode cX3_optimalCount 18 = .ok (.pop, 1) := by decide +kernel
theorem dX3_optimalCount_19 : decode cX3_optimalCount 19 = .ok (.aload_n 0, 1) := by decide +kernel
theorem dX3_optimalCount_20 : decode cX3_optimalCount 20 = .ok (.getfield 22, 3) := by decide +kernel
theorem dX3_optimalCount_23 : decode cX3_optimalCount 23 = .ok (.invokevirtual 146, 3) := by decide +kernel
theorem dX3_optimalCount_26 : decode cX3_optimalCount 26 = .ok (.ireturn, 1) := by decide +kernel
theorem dX3_rowPotential_0 : decode cX3_rowPotential 0 = .ok (.aload_n 0, 1) := by decide +kernel
theorem dX3_rowPotential_1 : decode cX3_rowPotential 1 = .ok (.iload_n 1, 1) := by decide +kernel
theorem dX3_rowPotential_2 : decode cX3_rowPotential 2 = .ok (.invokevirtual 64, 3) := by decide +kernel
theorem dX3_rowPotential_5 : decode cX3_rowPotential 5 = .ok (.aload_n 0, 1) := by decide +kernel
theorem dX3_rowPotential_6 : decode cX3_rowPotential 6 = .ok (.invokevirtual 149, 3) := by decide +kernel
theorem dX3_rowPotential_9 : decode cX3_rowPotential 9 = .ok (.aload_n 0, 1) := by decide +kernel
theorem dX3_rowPotential_10 : decode cX3_rowPotential 10 = .ok (.getfield 26, 3) := by decide +kernel
theorem dX3_rowPotential_13 : decode cX3_rowPotential 13 = .ok (.iload_n 1, 1) := by decide +kernel
theorem dX3_rowPotential_14 : decode cX3_rowPotential 14 = .ok (.iaload, 1) := by decide +kernel
theorem dX3_rowPotential_15 : decode cX3_rowPotential 15 = .ok (.ireturn, 1) := by decide +kernel
theorem dX3_columnPotential_0 : decode cX3_columnPotential 0 = .ok (.aload_n 0, 1) := by decide +kernel
theorem dX3_columnPotential_1 : decode cX3_columnPotential 1 = .ok (.iload_n 1, 1) := by decide +kernel
theorem dX3_columnPotential_2 : decode cX3_columnPotential 2 = .ok (.invokevirtual 152, 3) := by decide +kernel
theorem dX3_columnPotential_5 : decode cX3_columnPotential 5 = .ok (.aload_n 0, 1) := by decide +kernel
theorem dX3_columnPotential_6 : decode cX3_columnPotential 6 = .ok (.invokevirtual 149, 3) := by decide +kernel
theorem dX3_columnPotential_9 : decode cX3_columnPotential 9 = .ok (.aload_n 0, 1) := by decide +kernel
theorem dX3_columnPotential_10 : decode cX3_columnPotential 10 = .ok (.getfield 30, 3) := by decide +kernel
theorem dX3_columnPotential_13 : decode cX3_columnPotential 13 = .ok (.iload_n 1, 1) := by decide +kernel
theorem dX3_columnPotential_14 : decode cX3_columnPotential 14 = .ok (.iaload, 1) := by decide +kernel
theorem dX3_columnPotential_15 : decode cX3_columnPotential 15 = .ok (.ireturn, 1) := by decide +kernel
theorem dX3_reducedCost_0 : decode cX3_reducedCost 0 = .ok (.aload_n 0, 1) := by decide +kernel
theorem dX3_reducedCost_1 : decode cX3_reducedCost 1 = .ok (.iload_n 1, 1) := by decide +kernel
theorem dX3_reducedCost_2 : decode cX3_reducedCost 2 = .ok (.iload_n 2, 1) := by decide +kernel
theorem dX3_reducedCost_3 : decode cX3_reducedCost 3 = .ok (.invokevirtual 94, 3) := by decide +kernel
theorem dX3_reducedCost_6 : decode cX3_reducedCost 6 = .ok (.aload_n 0, 1) := by decide +kernel
theorem dX3_reducedCost_7 : decode cX3_reducedCost 7 = .ok (.invokevirtual 149, 3) := by decide +kernel
theorem dX3_reducedCost_10 : decode cX3_reducedCost 10 = .ok (.aload_n 0, 1) := by decide +kernel
theorem dX3_reducedCost_11 : decode cX3_reducedCost 11 = .ok (.iload_n 1, 1) := by decide +kernel
theorem dX3_reducedCost_12 : decode cX3_reducedCost 12 = .ok (.iload_n 2, 1) := by decide +kernel
theorem dX3_reducedCost_13 : decode cX3_reducedCost 13 = .ok (.invokevirtual 155, 3) := by decide +kernel
theorem dX3_reducedCost_16 : decode cX3_reducedCost 16 = .ok (.ireturn, 1) := by decide +kernel
theorem dX3_minimumWith_0 : decode cX3_minimumWith 0 = .ok (.aload_n 0, 1) := by decide +kernel
theorem dX3_minimumWith_1 : decode cX3_minimumWith 1 = .ok (.iload_n 1, 1) := by decide +kernel
theorem dX3_minimumWith_2 : decode cX3_minimumWith 2 = .ok (.iload_n 2, 1) := by decide +kernel
theorem dX3_minimumWith_3 : decode cX3_minimumWith 3 = .ok (.invokevirtual 94, 3) := by decide +kernel
theorem dX3_minimumWith_6 : decode cX3_minimumWith 6 = .ok (.aload_n 0, 1) := by decide +kernel
theorem dX3_minimumWith_7 : decode cX3_minimumWith 7 = .ok (.getfield 22, 3) := by decide +kernel
theorem dX3_minimumWith_10 : decode cX3_minimumWith 10 = .ok (.aload_n 0, 1) := by decide +kernel
theorem dX3_minimumWith_11 : decode cX3_minimumWith 11 = .ok (.getfield 12, 3) := by decide +kernel
theorem dX3_minimumWith_14 : decode cX3_minimumWith 14 = .ok (.invokevirtual 137, 3) := by decide +kernel
theorem dX3_minimumWith_17 : decode cX3_minimumWith 17 = .ok (.iconst 0, 1) := by decide +kernel
theorem dX3_minimumWith_18 : decode cX3_minimumWith 18 = .ok (.istore_n 3, 1) := by decide +kernel
theorem dX3_minimumWith_19 : decode cX3_minimumWith 19 = .ok (.iload_n 3, 1) := by decide +kernel
theorem dX3_minimumWith_20 : decode cX3_minimumWith 20 = .ok (.aload_n 0, 1) := by decide +kernel
theorem dX3_minimumWith_21 : decode cX3_minimumWith 21 = .ok (.getfield 12, 3) := by decide +kernel
theorem dX3_minimumWith_24 : decode cX3_minimumWith 24 = .ok (.getfield 83, 3) := by decide +kernel
theorem dX3_minimumWith_27 : decode cX3_minimumWith 27 = .ok (.if_icmp .ge 25, 3) := by decide +kernel
theorem dX3_minimumWith_30 : decode cX3_minimumWith 30 = .ok (.iload_n 3, 1) := by decide +kernel
theorem dX3_minimumWith_31 : decode cX3_minimumWith 31 = .ok (.iload_n 2, 1) := by decide +kernel
theorem dX3_minimumWith_32 : decode cX3_minimumWith 32 = .ok (.if_icmp .eq 14, 3) := by decide +kernel
theorem dX3_minimumWith_35 : decode cX3_minimumWith 35 = .ok (.aload_n 0, 1) := by decide +kernel
theorem dX3_minimumWith_36 : decode cX3_minimumWith 36 = .ok (.getfield 22, 3) := by decide +kernel
theorem dX3_minimumWith_39 : decode cX3_minimumWith 39 = .ok (.iload_n 1, 1) := by decide +kernel
theorem dX3_minimumWith_40 : decode cX3_minimumWith 40 = .ok (.iload_n 3, 1) := by decide +kernel
theorem dX3_minimumWith_41 : decode cX3_minimumWith 41 = .ok (.ldc 158, 2) := by decide +kernel
theorem dX3_minimumWith_43 : decode cX3_minimumWith 43 = .ok (.invokevirtual 159, 3) := by decide +kernel
theorem dX3_minimumWith_46 : decode cX3_minimumWith 46 = .ok (.iinc 3 1, 3) := by decide +kernel
theorem dX3_minimumWith_49 : decode cX3_minimumWith 49 = .ok (.goto (-30), 3) := by decide +kernel
theorem dX3_minimumWith_52 : decode cX3_minimumWith 52 = .ok (.aload_n 0, 1) := by decide +kernel
theorem dX3_minimumWith_53 : decode cX3_minimumWith 53 = .ok (.getfield 22, 3) := by decide +kernel
theorem dX3_minimumWith_56 : decode cX3_minimumWith 56 = .ok (.invokevirtual 140, 3) := by decide +kernel
theorem dX3_minimumWith_59 : decode cX3_minimumWith 59 = .ok (.ireturn, 1) := by decide +kernel
theorem dX3_minimumWithout_0 : decode cX3_minimumWithout 0 = .ok (.aload_n 0, 1) := by decide +kernel
theorem dX3_minimumWithout_1 : decode cX3_minimumWithout 1 = .ok (.iload_n 1, 1) := by decide +kernel
theorem dX3_minimumWithout_2 : decode cX3_minimumWithout 2 = .ok (.iload_n 2, 1) := by decide +kernel
theorem dX3_minimumWithout_3 : decode cX3_minimumWithout 3 = .ok (.invokevirtual 94, 3) := by decide +kernel
theorem dX3_minimumWithout_6 : decode cX3_minimumWithout 6 = .ok (.aload_n 0, 1) := by decide +kernel
theorem dX3_minimumWithout_7 : decode cX3_minimumWithout 7 = .ok (.getfield 12, 3) := by decide +kernel
theorem dX3_minimumWithout_10 : decode cX3_minimumWithout 10 = .ok (.getfield 83, 3) := by decide +kernel
theorem dX3_minimumWithout_13 : decode cX3_minimumWithout 13 = .ok (.iconst 1, 1) := by decide +kernel
theorem dX3_minimumWithout_14 : decode cX3_minimumWithout 14 = .ok (.if_icmp .ne 7, 3) := by decide +kernel
theorem dX3_minimumWithout_17 : decode cX3_minimumWithout 17 = .ok (.iconst (-1), 1) := by decide +kernel
theorem dX3_minimumWithout_18 : decode cX3_minimumWithout 18 = .ok (.goto 11, 3) := by decide +kernel
theorem dX3_minimumWithout_21 : decode cX3_minimumWithout 21 = .ok (.aload_n 0, 1) := by decide +kernel
theorem dX3_minimumWithout_22 : decode cX3_minimumWithout 22 = .ok (.iload_n 1, 1) := by decide +kernel
theorem dX3_minimumWithout_23 : decode cX3_minimumWithout 23 = .ok (.iload_n 2, 1) := by decide +kernel
theorem dX3_minimumWithout_24 : decode cX3_minimumWithout 24 = .ok (.ldc 158, 2) := by decide +kernel
theorem dX3_minimumWithout_26 : decode cX3_minimumWithout 26 = .ok (.invokevirtual 162, 3) := by decide +kernel
theorem dX3_minimumWithout_29 : decode cX3_minimumWithout 29 = .ok (.ireturn, 1) := by decide +kernel
theorem dX3_minimumIfCost_0 : decode cX3_minimumIfCost 0 = .ok (.aload_n 0, 1) := by decide +kernel
theorem dX3_minimumIfCost_1 : decode cX3_minimumIfCost 1 = .ok (.iload_n 1, 1) := by decide +kernel
theorem dX3_minimumIfCost_2 : decode cX3_minimumIfCost 2 = .ok (.iload_n 2, 1) := by decide +kernel
theorem dX3_minimumIfCost_3 : decode cX3_minimumIfCost 3 = .ok (.invokevirtual 53, 3) := by decide +kernel
theorem dX3_minimumIfCost_6 : decode cX3_minimumIfCost 6 = .ok (.iload_n 3, 1) := by decide +kernel
theorem dX3_minimumIfCost_7 : decode cX3_minimumIfCost 7 = .ok (.ifCond .lt 9, 3) := by decide +kernel
theorem dX3_minimumIfCost_10 : decode cX3_minimumIfCost 10 = .ok (.iload_n 3, 1) := by decide +kernel
theorem dX3_minimumIfCost_11 : decode cX3_minimumIfCost 11 = .ok (.bipush 99, 2) := by decide +kernel
theorem dX3_minimumIfCost_13 : decode cX3_minimumIfCost 13 = .ok (.if_icmp .le 18, 3) := by decide +kernel
theorem dX3_minimumIfCost_16 : decode cX3_minimumIfCost 16 = .ok (.iload_n 3, 1) := by decide +kernel
theorem dX3_minimumIfCost_17 : decode cX3_minimumIfCost 17 = .ok (.sipush 1000, 3) := by decide +kernel
theorem dX3_minimumIfCost_20 : decode cX3_minimumIfCost 20 = .ok (.if_icmp .eq 11, 3) := by decide +kernel
theorem dX3_minimumIfCost_23 : decode cX3_minimumIfCost 23 = .ok (.new 43, 3) := by decide +kernel
theorem dX3_minimumIfCost_26 : decode cX3_minimumIfCost 26 = .ok (.dup, 1) := by decide +kernel
theorem dX3_minimumIfCost_27 : decode cX3_minimumIfCost 27 = .ok (.invokespecial 45, 3) := by decide +kernel
theorem dX3_minimumIfCost_30 : decode cX3_minimumIfCost 30 = .ok (.athrow, 1) := by decide +kernel
theorem dX3_minimumIfCost_31 : decode cX3_minimumIfCost 31 = .ok (.aload_n 0, 1) := by decide +kernel
theorem dX3_minimumIfCost_32 : decode cX3_minimumIfCost 32 = .ok (.iload_n 1, 1) := by decide +kernel
theorem dX3_minimumIfCost_33 : decode cX3_minimumIfCost 33 = .ok (.iload_n 2, 1) := by decide +kernel
theorem dX3_minimumIfCost_34 : decode cX3_minimumIfCost 34 = .ok (.iload_n 3, 1) := by decide +kernel
theorem dX3_minimumIfCost_35 : decode cX3_minimumIfCost 35 = .ok (.invokevirtual 162, 3) := by decide +kernel
theorem dX3_minimumIfCost_38 : decode cX3_minimumIfCost 38 = .ok (.ireturn, 1) := by decide +kernel
theorem dX3_secondBest_0 : decode cX3_secondBest 0 = .ok (.aload_n 0, 1) := by decide +kernel
theorem dX3_secondBest_1 : decode cX3_secondBest 1 = .ok (.getfield 12, 3) := by decide +kernel
theorem dX3_secondBest_4 : decode cX3_secondBest 4 = .ok (.getfield 83, 3) := by decide +kernel
theorem dX3_secondBest_7 : decode cX3_secondBest 7 = .ok (.iconst 1, 1) := by decide +kernel
theorem dX3_secondBest_8 : decode cX3_secondBest 8 = .ok (.if_icmp .ne 5, 3) := by decide +kernel
theorem dX3_secondBest_11 : decode cX3_secondBest 11 = .ok (.iconst (-1), 1) := by decide +kernel
theorem dX3_secondBest_12 : decode cX3_secondBest 12 = .ok (.ireturn, 1) := by decide +kernel
theorem dX3_secondBest_13 : decode cX3_secondBest 13 = .ok (.aload_n 0, 1) := by decide +kernel
theorem dX3_secondBest_14 : decode cX3_secondBest 14 = .ok (.invokevirtual 143, 3) := by decide +kernel
theorem dX3_secondBest_17 : decode cX3_secondBest 17 = .ok (.ldc 158, 2) := by decide +kernel
theorem dX3_secondBest_19 : decode cX3_secondBest 19 = .ok (.istore_n 1, 1) := by decide +kernel
theorem dX3_secondBest_20 : decode cX3_secondBest 20 = .ok (.iconst 0, 1) := by decide +kernel
theorem dX3_secondBest_21 : decode cX3_secondBest 21 = .ok (.istore_n 2, 1) := by decide +kernel
theorem dX3_secondBest_22 : decode cX3_secondBest 22 = .ok (.iload_n 2, 1) := by decide +kernel
theorem dX3_secondBest_23 : decode cX3_secondBest 23 = .ok (.aload_n 0, 1) := by decide +kernel
theorem dX3_secondBest_24 : decode cX3_secondBest 24 = .ok (.getfield 12, 3) := by decide +kernel
theorem dX3_secondBest_27 : decode cX3_secondBest 27 = .ok (.getfield 83, 3) := by decide +kernel
theorem dX3_secondBest_30 : decode cX3_secondBest 30 = .ok (.if_icmp .ge 27, 3) := by decide +kernel
theorem dX3_secondBest_33 : decode cX3_secondBest 33 = .ok (.iload_n 1, 1) := by decide +kernel
theorem dX3_secondBest_34 : decode cX3_secondBest 34 = .ok (.aload_n 0, 1) := by decide +kernel
theorem dX3_secondBest_35 : decode cX3_secondBest 35 = .ok (.iload_n 2, 1) := by decide +kernel
theorem dX3_secondBest_36 : decode cX3_secondBest 36 = .ok (.aload_n 0, 1) := by decide +kernel
theorem dX3_secondBest_37 : decode cX3_secondBest 37 = .ok (.getfield 33, 3) := by decide +kernel
theorem dX3_secondBest_40 : decode cX3_secondBest 40 = .ok (.iload_n 2, 1) := by decide +kernel
theorem dX3_secondBest_41 : decode cX3_secondBest 41 = .ok (.iaload, 1) := by decide +kernel
theorem dX3_secondBest_42 : decode cX3_secondBest 42 = .ok (.ldc 158, 2) := by decide +kernel
theorem dX3_secondBest_44 : decode cX3_secondBest 44 = .ok (.invokevirtual 162, 3) := by decide +kernel
theorem dX3_secondBest_47 : decode cX3_secondBest 47 = .ok (.invokestatic 78, 3) := by decide +kernel
theorem dX3_secondBest_50 : decode cX3_secondBest 50 = .ok (.istore_n 1, 1) := by decide +kernel
theorem dX3_secondBest_51 : decode cX3_secondBest 51 = .ok (.iinc 2 1, 3) := by decide +kernel
theorem dX3_secondBest_54 : decode cX3_secondBest 54 = .ok (.goto (-32), 3) := by decide +kernel
theorem dX3_secondBest_57 : decode cX3_secondBest 57 = .ok (.iload_n 1, 1) := by decide +kernel
theorem dX3_secondBest_58 : decode cX3_secondBest 58 = .ok (.ireturn, 1) := by decide +kernel
theorem dX3_maximum_0 : decode cX3_maximum 0 = .ok (.aload_n 0, 1) := by decide +kernel
theorem dX3_maximum_1 : decode cX3_maximum 1 = .ok (.getfield 22, 3) := by decide +kernel
theorem dX3_maximum_4 : decode cX3_maximum 4 = .ok (.aload_n 0, 1) := by decide +kernel
theorem dX3_maximum_5 : decode cX3_maximum 5 = .ok (.getfield 12, 3) := by decide +kernel
theorem dX3_maximum_8 : decode cX3_maximum 8 = .ok (.invokevirtual 137, 3) := by decide +kernel
theorem dX3_maximum_11 : decode cX3_maximum 11 = .ok (.iconst 0, 1) := by decide +kernel
theorem dX3_maximum_12 : decode cX3_maximum 12 = .ok (.istore_n 1, 1) := by decide +kernel
theorem dX3_maximum_13 : decode cX3_maximum 13 = .ok (.iload_n 1, 1) := by decide +kernel
theorem dX3_maximum_14 : decode cX3_maximum 14 = .ok (.aload_n 0, 1) := by decide +kernel
theorem dX3_maximum_15 : decode cX3_maximum 15 = .ok (.getfield 12, 3) := by decide +kernel
theorem dX3_maximum_18 : decode cX3_maximum 18 = .ok (.getfield 83, 3) := by decide +kernel
theorem dX3_maximum_21 : decode cX3_maximum 21 = .ok (.if_icmp .ge 51, 3) := by decide +kernel
theorem dX3_maximum_24 : decode cX3_maximum 24 = .ok (.iconst 0, 1) := by decide +kernel
theorem dX3_maximum_25 : decode cX3_maximum 25 = .ok (.istore_n 2, 1) := by decide +kernel
theorem dX3_maximum_26 : decode cX3_maximum 26 = .ok (.iload_n 2, 1) := by decide +kernel
theorem dX3_maximum_27 : decode cX3_maximum 27 = .ok (.aload_n 0, 1) := by decide +kernel
theorem dX3_maximum_28 : decode cX3_maximum 28 = .ok (.getfield 12, 3) := by decide +kernel
theorem dX3_maximum_31 : decode cX3_maximum 31 = .ok (.getfield 72, 3) := by decide +kernel
theorem dX3_maximum_34 : decode cX3_maximum 34 = .ok (.if_icmp .ge 32, 3) := by decide +kernel
theorem dX3_maximum_37 : decode cX3_maximum 37 = .ok (.aload_n 0, 1) := by decide +kernel
theorem dX3_maximum_38 : decode cX3_maximum 38 = .ok (.getfield 12, 3) := by decide +kernel
theorem dX3_maximum_41 : decode cX3_maximum 41 = .ok (.iload_n 1, 1) := by decide +kernel
theorem dX3_maximum_42 : decode cX3_maximum 42 = .ok (.iload_n 2, 1) := by decide +kernel
theorem dX3_maximum_43 : decode cX3_maximum 43 = .ok (.invokevirtual 133, 3) := by decide +kernel
theorem dX3_maximum_46 : decode cX3_maximum 46 = .ok (.ifCond .eq 14, 3) := by decide +kernel
theorem dX3_maximum_49 : decode cX3_maximum 49 = .ok (.aload_n 0, 1) := by decide +kernel
theorem dX3_maximum_50 : decode cX3_maximum 50 = .ok (.getfield 22, 3) := by decide +kernel
theorem dX3_maximum_53 : decode cX3_maximum 53 = .ok (.iload_n 1, 1) := by decide +kernel
theorem dX3_maximum_54 : decode cX3_maximum 54 = .ok (.iload_n 2, 1) := by decide +kernel
theorem dX3_maximum_55 : decode cX3_maximum 55 = .ok (.ldc 166, 2) := by decide +kernel
theorem dX3_maximum_57 : decode cX3_maximum 57 = .ok (.invokevirtual 159, 3) := by decide +kernel
theorem dX3_maximum_60 : decode cX3_maximum 60 = .ok (.iinc 2 1, 3) := by decide +kernel
theorem dX3_maximum_63 : decode cX3_maximum 63 = .ok (.goto (-37), 3) := by decide +kernel
theorem dX3_maximum_66 : decode cX3_maximum 66 = .ok (.iinc 1 1, 3) := by decide +kernel
theorem dX3_maximum_69 : decode cX3_maximum 69 = .ok (.goto (-56), 3) := by decide +kernel
theorem dX3_maximum_72 : decode cX3_maximum 72 = .ok (.aload_n 0, 1) := by decide +kernel
theorem dX3_maximum_73 : decode cX3_maximum 73 = .ok (.getfield 22, 3) := by decide +kernel
theorem dX3_maximum_76 : decode cX3_maximum 76 = .ok (.invokevirtual 167, 3) := by decide +kernel
theorem dX3_maximum_79 : decode cX3_maximum 79 = .ok (.istore_n 1, 1) := by decide +kernel
theorem dX3_maximum_80 : decode cX3_maximum 80 = .ok (.iload_n 1, 1) := by decide +kernel
theorem dX3_maximum_81 : decode cX3_maximum 81 = .ok (.ifCond .ge 7, 3) := by decide +kernel
theorem dX3_maximum_84 : decode cX3_maximum 84 = .ok (.iconst (-1), 1) := by decide +kernel
theorem dX3_maximum_85 : decode cX3_maximum 85 = .ok (.goto 4, 3) := by decide +kernel
theorem dX3_maximum_88 : decode cX3_maximum 88 = .ok (.iload_n 1, 1) := by decide +kernel
theorem dX3_maximum_89 : decode cX3_maximum 89 = .ok (.ireturn, 1) := by decide +kernel
theorem dX3_bottleneck_0 : decode cX3_bottleneck 0 = .ok (.aload_n 0, 1) := by decide +kernel
theorem dX3_bottleneck_1 : decode cX3_bottleneck 1 = .ok (.getfield 22, 3) := by decide +kernel
theorem dX3_bottleneck_4 : decode cX3_bottleneck 4 = .ok (.aload_n 0, 1) := by decide +kernel
theorem dX3_bottleneck_5 : decode cX3_bottleneck 5 = .ok (.getfield 12, 3) := by decide +kernel
theorem dX3_bottleneck_8 : decode cX3_bottleneck 8 = .ok (.invokevirtual 137, 3) := by decide +kernel
theorem dX3_bottleneck_11 : decode cX3_bottleneck 11 = .ok (.aload_n 0, 1) := by decide +kernel
theorem dX3_bottleneck_12 : decode cX3_bottleneck 12 = .ok (.getfield 22, 3) := by decide +kernel
theorem dX3_bottleneck_15 : decode cX3_bottleneck 15 = .ok (.invokevirtual 170, 3) := by decide +kernel
theorem dX3_bottleneck_18 : decode cX3_bottleneck 18 = .ok (.ireturn, 1) := by decide +kernel
theorem dX3_fits_0 : decode cX3_fits 0 = .ok (.iload_n 1, 1) := by decide +kernel
theorem dX3_fits_1 : decode cX3_fits 1 = .ok (.ifCond .lt 10, 3) := by decide +kernel
theorem dX3_fits_4 : decode cX3_fits 4 = .ok (.iload_n 1, 1) := by decide +kernel
theorem dX3_fits_5 : decode cX3_fits 5 = .ok (.sipush 1000, 3) := by decide +kernel
theorem dX3_fits_8 : decode cX3_fits 8 = .ok (.if_icmp .le 11, 3) := by decide +kernel
theorem dX3_fits_11 : decode cX3_fits 11 = .ok (.new 43, 3) := by decide +kernel
theorem dX3_fits_14 : decode cX3_fits 14 = .ok (.dup, 1) := by decide +kernel
theorem dX3_fits_15 : decode cX3_fits 15 = .ok (.invokespecial 45, 3) := by decide +kernel
theorem dX3_fits_18 : decode cX3_fits 18 = .ok (.athrow, 1) := by decide +kernel
theorem dX3_fits_19 : decode cX3_fits 19 = .ok (.aload_n 0, 1) := by decide +kernel
theorem dX3_fits_20 : decode cX3_fits 20 = .ok (.getfield 22, 3) := by decide +kernel
theorem dX3_fits_23 : decode cX3_fits 23 = .ok (.aload_n 0, 1) := by decide +kernel
theorem dX3_fits_24 : decode cX3_fits 24 = .ok (.getfield 12, 3) := by decide +kernel
theorem dX3_fits_27 : decode cX3_fits 27 = .ok (.invokevirtual 137, 3) := by decide +kernel
theorem dX3_fits_30 : decode cX3_fits 30 = .ok (.iconst 0, 1) := by decide +kernel
theorem dX3_fits_31 : decode cX3_fits 31 = .ok (.istore_n 2, 1) := by decide +kernel
theorem dX3_fits_32 : decode cX3_fits 32 = .ok (.iload_n 2, 1) := by decide +kernel
theorem dX3_fits_33 : decode cX3_fits 33 = .ok (.aload_n 0, 1) := by decide +kernel
theorem dX3_fits_34 : decode cX3_fits 34 = .ok (.getfield 12, 3) := by decide +kernel
theorem dX3_fits_37 : decode cX3_fits 37 = .ok (.getfield 83, 3) := by decide +kernel
theorem dX3_fits_40 : decode cX3_fits 40 = .ok (.if_icmp .ge 55, 3) := by decide +kernel
theorem dX3_fits_43 : decode cX3_fits 43 = .ok (.iconst 0, 1) := by decide +kernel
theorem dX3_fits_44 : decode cX3_fits 44 = .ok (.istore_n 3, 1) := by decide +kernel
theorem dX3_fits_45 : decode cX3_fits 45 = .ok (.iload_n 3, 1) := by decide +kernel
theorem dX3_fits_46 : decode cX3_fits 46 = .ok (.aload_n 0, 1) := by decide +kernel
theorem dX3_fits_47 : decode cX3_fits 47 = .ok (.getfield 12, 3) := by decide +kernel
theorem dX3_fits_50 : decode cX3_fits 50 = .ok (.getfield 83, 3) := by decide +kernel
theorem dX3_fits_53 : decode cX3_fits 53 = .ok (.if_icmp .ge 36, 3) := by decide +kernel
theorem dX3_fits_56 : decode cX3_fits 56 = .ok (.aload_n 0, 1) := by decide +kernel
theorem dX3_fits_57 : decode cX3_fits 57 = .ok (.getfield 22, 3) := by decide +kernel
theorem dX3_fits_60 : decode cX3_fits 60 = .ok (.iload_n 2, 1) := by decide +kernel
theorem dX3_fits_61 : decode cX3_fits 61 = .ok (.iload_n 3, 1) := by decide +kernel
theorem dX3_fits_62 : decode cX3_fits 62 = .ok (.aload_n 0, 1) := by decide +kernel
theorem dX3_fits_63 : decode cX3_fits 63 = .ok (.getfield 12, 3) := by decide +kernel
theorem dX3_fits_66 : decode cX3_fits 66 = .ok (.iload_n 2, 1) := by decide +kernel
theorem dX3_fits_67 : decode cX3_fits 67 = .ok (.iload_n 3, 1) := by decide +kernel
theorem dX3_fits_68 : decode cX3_fits 68 = .ok (.invokevirtual 97, 3) := by decide +kernel
theorem dX3_fits_71 : decode cX3_fits 71 = .ok (.iload_n 1, 1) := by decide +kernel
theorem dX3_fits_72 : decode cX3_fits 72 = .ok (.if_icmp .le 7, 3) := by decide +kernel
theorem dX3_fits_75 : decode cX3_fits 75 = .ok (.iconst 1, 1) := by decide +kernel
theorem dX3_fits_76 : decode cX3_fits 76 = .ok (.goto 4, 3) := by decide +kernel
theorem dX3_fits_79 : decode cX3_fits 79 = .ok (.iconst 0, 1) := by decide +kernel
theorem dX3_fits_80 : decode cX3_fits 80 = .ok (.invokevirtual 159, 3) := by decide +kernel
theorem dX3_fits_83 : decode cX3_fits 83 = .ok (.iinc 3 1, 3) := by decide +kernel
theorem dX3_fits_86 : decode cX3_fits 86 = .ok (.goto (-41), 3) := by decide +kernel
theorem dX3_fits_89 : decode cX3_fits 89 = .ok (.iinc 2 1, 3) := by decide +kernel
theorem dX3_fits_92 : decode cX3_fits 92 = .ok (.goto (-60), 3) := by decide +kernel
theorem dX3_fits_95 : decode cX3_fits 95 = .ok (.aload_n 0, 1) := by decide +kernel
theorem dX3_fits_96 : decode cX3_fits 96 = .ok (.getfield 22, 3) := by decide +kernel
theorem dX3_fits_99 : decode cX3_fits 99 = .ok (.invokevirtual 140, 3) := by decide +kernel
theorem dX3_fits_102 : decode cX3_fits 102 = .ok (.ifCond .ne 7, 3) := by decide +kernel
theorem dX3_fits_105 : decode cX3_fits 105 = .ok (.iconst 1, 1) := by decide +kernel
theorem dX3_fits_106 : decode cX3_fits 106 = .ok (.goto 4, 3) := by decide +kernel
theorem dX3_fits_109 : decode cX3_fits 109 = .ok (.iconst 0, 1) := by decide +kernel
theorem dX3_fits_110 : decode cX3_fits 110 = .ok (.ireturn, 1) := by decide +kernel
theorem dX3_countWithin_0 : decode cX3_countWithin 0 = .ok (.iload_n 1, 1) := by decide +kernel
theorem dX3_countWithin_1 : decode cX3_countWithin 1 = .ok (.ifCond .lt 10, 3) := by decide +kernel
theorem dX3_countWithin_4 : decode cX3_countWithin 4 = .ok (.iload_n 1, 1) := by decide +kernel
theorem dX3_countWithin_5 : decode cX3_countWithin 5 = .ok (.sipush 7000, 3) := by decide +kernel
theorem dX3_countWithin_8 : decode cX3_countWithin 8 = .ok (.if_icmp .le 11, 3) := by decide +kernel
theorem dX3_countWithin_11 : decode cX3_countWithin 11 = .ok (.new 43, 3) := by decide +kernel
theorem dX3_countWithin_14 : decode cX3_countWithin 14 = .ok (.dup, 1) := by decide +kernel
theorem dX3_countWithin_15 : decode cX3_countWithin 15 = .ok (.invokespecial 45, 3) := by decide +kernel
theorem dX3_countWithin_18 : decode cX3_countWithin 18 = .ok (.athrow, 1) := by decide +kernel
theorem dX3_countWithin_19 : decode cX3_countWithin 19 = .ok (.aload_n 0, 1) := by decide +kernel
theorem dX3_countWithin_20 : decode cX3_countWithin 20 = .ok (.getfield 22, 3) := by decide +kernel
theorem dX3_countWithin_23 : decode cX3_countWithin 23 = .ok (.aload_n 0, 1) := by decide +kernel
theorem dX3_countWithin_24 : decode cX3_countWithin 24 = .ok (.getfield 12, 3) := by decide +kernel
theorem dX3_countWithin_27 : decode cX3_countWithin 27 = .ok (.invokevirtual 137, 3) := by decide +kernel
theorem dX3_countWithin_30 : decode cX3_countWithin 30 = .ok (.aload_n 0, 1) := by decide +kernel
theorem dX3_countWithin_31 : decode cX3_countWithin 31 = .ok (.getfield 22, 3) := by decide +kernel
theorem dX3_countWithin_34 : decode cX3_countWithin 34 = .ok (.invokevirtual 140, 3) := by decide +kernel
theorem dX3_countWithin_37 : decode cX3_countWithin 37 = .ok (.pop, 1) := by decide +kernel
theorem dX3_countWithin_38 : decode cX3_countWithin 38 = .ok (.aload_n 0, 1) := by decide +kernel
theorem dX3_countWithin_39 : decode cX3_countWithin 39 = .ok (.getfield 22, 3) := by decide +kernel
theorem dX3_countWithin_42 : decode cX3_countWithin 42 = .ok (.invokevirtual 167, 3) := by decide +kernel
theorem dX3_countWithin_45 : decode cX3_countWithin 45 = .ok (.pop, 1) := by decide +kernel
theorem dX3_countWithin_46 : decode cX3_countWithin 46 = .ok (.aload_n 0, 1) := by decide +kernel
theorem dX3_countWithin_47 : decode cX3_countWithin 47 = .ok (.getfield 22, 3) := by decide +kernel
theorem dX3_countWithin_50 : decode cX3_countWithin 50 = .ok (.iconst 0, 1) := by decide +kernel
theorem dX3_countWithin_51 : decode cX3_countWithin 51 = .ok (.iconst 0, 1) := by decide +kernel
theorem dX3_countWithin_52 : decode cX3_countWithin 52 = .ok (.iload_n 1, 1) := by decide +kernel
theorem dX3_countWithin_53 : decode cX3_countWithin 53 = .ok (.invokestatic 173, 3) := by decide +kernel
theorem dX3_countWithin_56 : decode cX3_countWithin 56 = .ok (.ireturn, 1) := by decide +kernel
theorem dX3_sumOf_0 : decode cX3_sumOf 0 = .ok (.iload_n 1, 1) := by decide +kernel
theorem dX3_sumOf_1 : decode cX3_sumOf 1 = .ok (.istore_n 2, 1) := by decide +kernel
theorem dX3_sumOf_2 : decode cX3_sumOf 2 = .ok (.iconst 0, 1) := by decide +kernel
theorem dX3_sumOf_3 : decode cX3_sumOf 3 = .ok (.istore_n 3, 1) := by decide +kernel
theorem dX3_sumOf_4 : decode cX3_sumOf 4 = .ok (.iconst 0, 1) := by decide +kernel
theorem dX3_sumOf_5 : decode cX3_sumOf 5 = .ok (.istore 4, 2) := by decide +kernel
theorem dX3_sumOf_7 : decode cX3_sumOf 7 = .ok (.aload_n 0, 1) := by decide +kernel
theorem dX3_sumOf_8 : decode cX3_sumOf 8 = .ok (.getfield 12, 3) := by decide +kernel
theorem dX3_sumOf_11 : decode cX3_sumOf 11 = .ok (.getfield 83, 3) := by decide +kernel
theorem dX3_sumOf_14 : decode cX3_sumOf 14 = .ok (.iconst 1, 1) := by decide +kernel
theorem dX3_sumOf_15 : decode cX3_sumOf 15 = .ok (.isub, 1) := by decide +kernel
theorem dX3_sumOf_16 : decode cX3_sumOf 16 = .ok (.istore 5, 2) := by decide +kernel
theorem dX3_sumOf_18 : decode cX3_sumOf 18 = .ok (.iload 5, 2) := by decide +kernel
theorem dX3_sumOf_20 : decode cX3_sumOf 20 = .ok (.ifCond .lt 71, 3) := by decide +kernel
theorem dX3_sumOf_23 : decode cX3_sumOf 23 = .ok (.iload_n 2, 1) := by decide +kernel
theorem dX3_sumOf_24 : decode cX3_sumOf 24 = .ok (.bipush 10, 2) := by decide +kernel
theorem dX3_sumOf_26 : decode cX3_sumOf 26 = .ok (.irem, 1) := by decide +kernel
theorem dX3_sumOf_27 : decode cX3_sumOf 27 = .ok (.iconst 1, 1) := by decide +kernel
theorem dX3_sumOf_28 : decode cX3_sumOf 28 = .ok (.isub, 1) := by decide +kernel
theorem dX3_sumOf_29 : decode cX3_sumOf 29 = .ok (.istore 6, 2) := by decide +kernel
theorem dX3_sumOf_31 : decode cX3_sumOf 31 = .ok (.iload_n 2, 1) := by decide +kernel
theorem dX3_sumOf_32 : decode cX3_sumOf 32 = .ok (.bipush 10, 2) := by decide +kernel
theorem dX3_sumOf_34 : decode cX3_sumOf 34 = .ok (.idiv, 1) := by decide +kernel
theorem dX3_sumOf_35 : decode cX3_sumOf 35 = .ok (.istore_n 2, 1) := by decide +kernel
theorem dX3_sumOf_36 : decode cX3_sumOf 36 = .ok (.aload_n 0, 1) := by decide +kernel
theorem dX3_sumOf_37 : decode cX3_sumOf 37 = .ok (.iload 6, 2) := by decide +kernel
theorem dX3_sumOf_39 : decode cX3_sumOf 39 = .ok (.invokevirtual 177, 3) := by decide +kernel
theorem dX3_sumOf_42 : decode cX3_sumOf 42 = .ok (.ifCond .eq 12, 3) := by decide +kernel
theorem dX3_sumOf_45 : decode cX3_sumOf 45 = .ok (.iload_n 3, 1) := by decide +kernel
theorem dX3_sumOf_46 : decode cX3_sumOf 46 = .ok (.iload 6, 2) := by decide +kernel
theorem dX3_sumOf_48 : decode cX3_sumOf 48 = .ok (.ishr, 1) := by decide +kernel
theorem dX3_sumOf_49 : decode cX3_sumOf 49 = .ok (.iconst 1, 1) := by decide +kernel
theorem dX3_sumOf_50 : decode cX3_sumOf 50 = .ok (.iand, 1) := by decide +kernel
theorem dX3_sumOf_51 : decode cX3_sumOf 51 = .ok (.ifCond .eq 11, 3) := by decide +kernel
theorem dX3_sumOf_54 : decode cX3_sumOf 54 = .ok (.new 43, 3) := by decide +kernel
theorem dX3_sumOf_57 : decode cX3_sumOf 57 = .ok (.dup, 1) := by decide +kernel
theorem dX3_sumOf_58 : decode cX3_sumOf 58 = .ok (.invokespecial 45, 3) := by decide +kernel
theorem dX3_sumOf_61 : decode cX3_sumOf 61 = .ok (.athrow, 1) := by decide +kernel
theorem dX3_sumOf_62 : decode cX3_sumOf 62 = .ok (.iload_n 3, 1) := by decide +kernel
theorem dX3_sumOf_63 : decode cX3_sumOf 63 = .ok (.iconst 1, 1) := by decide +kernel
theorem dX3_sumOf_64 : decode cX3_sumOf 64 = .ok (.iload 6, 2) := by decide +kernel
theorem dX3_sumOf_66 : decode cX3_sumOf 66 = .ok (.ishl, 1) := by decide +kernel
theorem dX3_sumOf_67 : decode cX3_sumOf 67 = .ok (.ior, 1) := by decide +kernel
theorem dX3_sumOf_68 : decode cX3_sumOf 68 = .ok (.istore_n 3, 1) := by decide +kernel
theorem dX3_sumOf_69 : decode cX3_sumOf 69 = .ok (.iload 4, 2) := by decide +kernel
theorem dX3_sumOf_71 : decode cX3_sumOf 71 = .ok (.aload_n 0, 1) := by decide +kernel
theorem dX3_sumOf_72 : decode cX3_sumOf 72 = .ok (.getfield 12, 3) := by decide +kernel
theorem dX3_sumOf_75 : decode cX3_sumOf 75 = .ok (.iload 5, 2) := by decide +kernel
theorem dX3_sumOf_77 : decode cX3_sumOf 77 = .ok (.iload 6, 2) := by decide +kernel
theorem dX3_sumOf_79 : decode cX3_sumOf 79 = .ok (.invokevirtual 97, 3) := by decide +kernel
theorem dX3_sumOf_82 : decode cX3_sumOf 82 = .ok (.iadd, 1) := by decide +kernel
theorem dX3_sumOf_83 : decode cX3_sumOf 83 = .ok (.istore 4, 2) := by decide +kernel
theorem dX3_sumOf_85 : decode cX3_sumOf 85 = .ok (.iinc 5 (-1), 3) := by decide +kernel
theorem dX3_sumOf_88 : decode cX3_sumOf 88 = .ok (.goto (-70), 3) := by decide +kernel
theorem dX3_sumOf_91 : decode cX3_sumOf 91 = .ok (.iload_n 2, 1) := by decide +kernel
theorem dX3_sumOf_92 : decode cX3_sumOf 92 = .ok (.ifCond .eq 11, 3) := by decide +kernel
theorem dX3_sumOf_95 : decode cX3_sumOf 95 = .ok (.new 43, 3) := by decide +kernel
theorem dX3_sumOf_98 : decode cX3_sumOf 98 = .ok (.dup, 1) := by decide +kernel
theorem dX3_sumOf_99 : decode cX3_sumOf 99 = .ok (.invokespecial 45, 3) := by decide +kernel
theorem dX3_sumOf_102 : decode cX3_sumOf 102 = .ok (.athrow, 1) := by decide +kernel
theorem dX3_sumOf_103 : decode cX3_sumOf 103 = .ok (.iload 4, 2) := by decide +kernel
theorem dX3_sumOf_105 : decode cX3_sumOf 105 = .ok (.ireturn, 1) := by decide +kernel
theorem dX3_startEnumeration_0 : decode cX3_startEnumeration 0 = .ok (.aload_n 0, 1) := by decide +kernel
theorem dX3_startEnumeration_1 : decode cX3_startEnumeration 1 = .ok (.getfield 12, 3) := by decide +kernel
theorem dX3_startEnumeration_4 : decode cX3_startEnumeration 4 = .ok (.getfield 83, 3) := by decide +kernel
theorem dX3_startEnumeration_7 : decode cX3_startEnumeration 7 = .ok (.bipush 6, 2) := by decide +kernel
theorem dX3_startEnumeration_9 : decode cX3_startEnumeration 9 = .ok (.if_icmp .le 11, 3) := by decide +kernel
theorem dX3_startEnumeration_12 : decode cX3_startEnumeration 12 = .ok (.new 181, 3) := by decide +kernel
theorem dX3_startEnumeration_15 : decode cX3_startEnumeration 15 = .ok (.dup, 1) := by decide +kernel
theorem dX3_startEnumeration_16 : decode cX3_startEnumeration 16 = .ok (.invokespecial 183, 3) := by decide +kernel
theorem dX3_startEnumeration_19 : decode cX3_startEnumeration 19 = .ok (.athrow, 1) := by decide +kernel
theorem dX3_startEnumeration_20 : decode cX3_startEnumeration 20 = .ok (.aload_n 0, 1) := by decide +kernel
theorem dX3_startEnumeration_21 : decode cX3_startEnumeration 21 = .ok (.getfield 39, 3) := by decide +kernel
theorem dX3_startEnumeration_24 : decode cX3_startEnumeration 24 = .ok (.aload_n 0, 1) := by decide +kernel
theorem dX3_startEnumeration_25 : decode cX3_startEnumeration 25 = .ok (.getfield 12, 3) := by decide +kernel
theorem dX3_startEnumeration_28 : decode cX3_startEnumeration 28 = .ok (.invokevirtual 184, 3) := by decide +kernel
theorem dX3_startEnumeration_31 : decode cX3_startEnumeration 31 = .ok (.aload_n 0, 1) := by decide +kernel
theorem dX3_startEnumeration_32 : decode cX3_startEnumeration 32 = .ok (.getfield 39, 3) := by decide +kernel
theorem dX3_startEnumeration_35 : decode cX3_startEnumeration 35 = .ok (.getfield 187, 3) := by decide +kernel
theorem dX3_startEnumeration_38 : decode cX3_startEnumeration 38 = .ok (.ireturn, 1) := by decide +kernel
theorem dX3_nextSum_0 : decode cX3_nextSum 0 = .ok (.aload_n 0, 1) := by decide +kernel
theorem dX3_nextSum_1 : decode cX3_nextSum 1 = .ok (.getfield 39, 3) := by decide +kernel
theorem dX3_nextSum_4 : decode cX3_nextSum 4 = .ok (.getfield 190, 3) := by decide +kernel
theorem dX3_nextSum_7 : decode cX3_nextSum 7 = .ok (.ifCond .ne 11, 3) := by decide +kernel
theorem dX3_nextSum_10 : decode cX3_nextSum 10 = .ok (.new 181, 3) := by decide +kernel
theorem dX3_nextSum_13 : decode cX3_nextSum 13 = .ok (.dup, 1) := by decide +kernel
theorem dX3_nextSum_14 : decode cX3_nextSum 14 = .ok (.invokespecial 183, 3) := by decide +kernel
theorem dX3_nextSum_17 : decode cX3_nextSum 17 = .ok (.athrow, 1) := by decide +kernel
theorem dX3_nextSum_18 : decode cX3_nextSum 18 = .ok (.aload_n 0, 1) := by decide +kernel
theorem dX3_nextSum_19 : decode cX3_nextSum 19 = .ok (.getfield 39, 3) := by decide +kernel
theorem dX3_nextSum_22 : decode cX3_nextSum 22 = .ok (.getfield 194, 3) := by decide +kernel
theorem dX3_nextSum_25 : decode cX3_nextSum 25 = .ok (.aload_n 0, 1) := by decide +kernel
theorem dX3_nextSum_26 : decode cX3_nextSum 26 = .ok (.getfield 39, 3) := by decide +kernel
theorem dX3_nextSum_29 : decode cX3_nextSum 29 = .ok (.getfield 187, 3) := by decide +kernel
theorem dX3_nextSum_32 : decode cX3_nextSum 32 = .ok (.if_icmp .lt 11, 3) := by decide +kernel
theorem dX3_nextSum_35 : decode cX3_nextSum 35 = .ok (.new 197, 3) := by decide +kernel
theorem dX3_nextSum_38 : decode cX3_nextSum 38 = .ok (.dup, 1) := by decide +kernel
theorem dX3_nextSum_39 : decode cX3_nextSum 39 = .ok (.invokespecial 199, 3) := by decide +kernel
theorem dX3_nextSum_42 : decode cX3_nextSum 42 = .ok (.athrow, 1) := by decide +kernel
theorem dX3_nextSum_43 : decode cX3_nextSum 43 = .ok (.aload_n 0, 1) := by decide +kernel
theorem dX3_nextSum_44 : decode cX3_nextSum 44 = .ok (.getfield 39, 3) := by decide +kernel
theorem dX3_nextSum_47 : decode cX3_nextSum 47 = .ok (.invokevirtual 200, 3) := by decide +kernel
theorem dX3_nextSum_50 : decode cX3_nextSum 50 = .ok (.aload_n 0, 1) := by decide +kernel
theorem dX3_nextSum_51 : decode cX3_nextSum 51 = .ok (.getfield 39, 3) := by decide +kernel
theorem dX3_nextSum_54 : decode cX3_nextSum 54 = .ok (.invokevirtual 203, 3) := by decide +kernel
theorem dX3_nextSum_57 : decode cX3_nextSum 57 = .ok (.ireturn, 1) := by decide +kernel
theorem dX3_currentColumn_0 : decode cX3_currentColumn 0 = .ok (.aload_n 0, 1) := by decide +kernel
theorem dX3_currentColumn_1 : decode cX3_currentColumn 1 = .ok (.iload_n 1, 1) := by decide +kernel
theorem dX3_currentColumn_2 : decode cX3_currentColumn 2 = .ok (.invokevirtual 64, 3) := by decide +kernel
theorem dX3_currentColumn_5 : decode cX3_currentColumn 5 = .ok (.aload_n 0, 1) := by decide +kernel
theorem dX3_currentColumn_6 : decode cX3_currentColumn 6 = .ok (.getfield 39, 3) := by decide +kernel
theorem dX3_currentColumn_9 : decode cX3_currentColumn 9 = .ok (.getfield 190, 3) := by decide +kernel
theorem dX3_currentColumn_12 : decode cX3_currentColumn 12 = .ok (.ifCond .eq 13, 3) := by decide +kernel
theorem dX3_currentColumn_15 : decode cX3_currentColumn 15 = .ok (.aload_n 0, 1) := by decide +kernel
theorem dX3_currentColumn_16 : decode cX3_currentColumn 16 = .ok (.getfield 39, 3) := by decide +kernel
theorem dX3_currentColumn_19 : decode cX3_currentColumn 19 = .ok (.getfield 194, 3) := by decide +kernel
theorem dX3_currentColumn_22 : decode cX3_currentColumn 22 = .ok (.ifCond .ne 11, 3) := by decide +kernel
theorem dX3_currentColumn_25 : decode cX3_currentColumn 25 = .ok (.new 181, 3) := by decide +kernel
theorem dX3_currentColumn_28 : decode cX3_currentColumn 28 = .ok (.dup, 1) := by decide +kernel
theorem dX3_currentColumn_29 : decode cX3_currentColumn 29 = .ok (.invokespecial 183, 3) := by decide +kernel
theorem dX3_currentColumn_32 : decode cX3_currentColumn 32 = .ok (.athrow, 1) := by decide +kernel
theorem dX3_currentColumn_33 : decode cX3_currentColumn 33 = .ok (.aload_n 0, 1) := by decide +kernel
theorem dX3_currentColumn_34 : decode cX3_currentColumn 34 = .ok (.getfield 39, 3) := by decide +kernel
theorem dX3_currentColumn_37 : decode cX3_currentColumn 37 = .ok (.iload_n 1, 1) := by decide +kernel
theorem dX3_currentColumn_38 : decode cX3_currentColumn 38 = .ok (.invokevirtual 206, 3) := by decide +kernel
theorem dX3_currentColumn_41 : decode cX3_currentColumn 41 = .ok (.ireturn, 1) := by decide +kernel
theorem dX3_stepsMade_0 : decode cX3_stepsMade 0 = .ok (.aload_n 0, 1) := by decide +kernel
theorem dX3_stepsMade_1 : decode cX3_stepsMade 1 = .ok (.getfield 39, 3) := by decide +kernel
theorem dX3_stepsMade_4 : decode cX3_stepsMade 4 = .ok (.getfield 190, 3) := by decide +kernel
theorem dX3_stepsMade_7 : decode cX3_stepsMade 7 = .ok (.ifCond .eq 13, 3) := by decide +kernel
theorem dX3_stepsMade_10 : decode cX3_stepsMade 10 = .ok (.aload_n 0, 1) := by decide +kernel
theorem dX3_stepsMade_11 : decode cX3_stepsMade 11 = .ok (.getfield 39, 3) := by decide +kernel
theorem dX3_stepsMade_14 : decode cX3_stepsMade 14 = .ok (.getfield 194, 3) := by decide +kernel
theorem dX3_stepsMade_17 : decode cX3_stepsMade 17 = .ok (.goto 4, 3) := by decide +kernel
theorem dX3_stepsMade_20 : decode cX3_stepsMade 20 = .ok (.iconst (-1), 1) := by decide +kernel
theorem dX3_stepsMade_21 : decode cX3_stepsMade 21 = .ok (.ireturn, 1) := by decide +kernel
theorem dX3_meanCost_0 : decode cX3_meanCost 0 = .ok (.aload_n 0, 1) := by decide +kernel
theorem dX3_meanCost_1 : decode cX3_meanCost 1 = .ok (.invokevirtual 127, 3) := by decide +kernel
theorem dX3_meanCost_4 : decode cX3_meanCost 4 = .ok (.i2d, 1) := by decide +kernel
theorem dX3_meanCost_5 : decode cX3_meanCost 5 = .ok (.aload_n 0, 1) := by decide +kernel
theorem dX3_meanCost_6 : decode cX3_meanCost 6 = .ok (.getfield 12, 3) := by decide +kernel
theorem dX3_meanCost_9 : decode cX3_meanCost 9 = .ok (.getfield 83, 3) := by decide +kernel
theorem dX3_meanCost_12 : decode cX3_meanCost 12 = .ok (.aload_n 0, 1) := by decide +kernel
theorem dX3_meanCost_13 : decode cX3_meanCost 13 = .ok (.getfield 12, 3) := by decide +kernel
theorem dX3_meanCost_16 : decode cX3_meanCost 16 = .ok (.getfield 83, 3) := by decide +kernel
theorem dX3_meanCost_19 : decode cX3_meanCost 19 = .ok (.imul, 1) := by decide +kernel
theorem dX3_meanCost_20 : decode cX3_meanCost 20 = .ok (.i2d, 1) := by decide +kernel
theorem dX3_meanCost_21 : decode cX3_meanCost 21 = .ok (.ddiv, 1) := by decide +kernel
theorem dX3_meanCost_22 : decode cX3_meanCost 22 = .ok (.dreturn, 1) := by decide +kernel
theorem dX3_shareOf_0 : decode cX3_shareOf 0 = .ok (.aload_n 0, 1) := by decide +kernel
theorem dX3_shareOf_1 : decode cX3_shareOf 1 = .ok (.iload_n 1, 1) := by decide +kernel
theorem dX3_shareOf_2 : decode cX3_shareOf 2 = .ok (.invokevirtual 64, 3) := by decide +kernel
theorem dX3_shareOf_5 : decode cX3_shareOf 5 = .ok (.aload_n 0, 1) := by decide +kernel
theorem dX3_shareOf_6 : decode cX3_shareOf 6 = .ok (.invokevirtual 209, 3) := by decide +kernel
theorem dX3_shareOf_9 : decode cX3_shareOf 9 = .ok (.istore_n 2, 1) := by decide +kernel
theorem dX3_shareOf_10 : decode cX3_shareOf 10 = .ok (.iload_n 2, 1) := by decide +kernel
theorem dX3_shareOf_11 : decode cX3_shareOf 11 = .ok (.ifCond .ne 5, 3) := by decide +kernel
theorem dX3_shareOf_14 : decode cX3_shareOf 14 = .ok (.fconst 0, 1) := by decide +kernel
theorem dX3_shareOf_15 : decode cX3_shareOf 15 = .ok (.freturn, 1) := by decide +kernel
theorem dX3_shareOf_16 : decode cX3_shareOf 16 = .ok (.aload_n 0, 1) := by decide +kernel
theorem dX3_shareOf_17 : decode cX3_shareOf 17 = .ok (.getfield 12, 3) := by decide +kernel
theorem dX3_shareOf_20 : decode cX3_shareOf 20 = .ok (.iload_n 1, 1) := by decide +kernel
theorem dX3_shareOf_21 : decode cX3_shareOf 21 = .ok (.aload_n 0, 1) := by decide +kernel
theorem dX3_shareOf_22 : decode cX3_shareOf 22 = .ok (.iload_n 1, 1) := by decide +kernel
theorem dX3_shareOf_23 : decode cX3_shareOf 23 = .ok (.invokevirtual 212, 3) := by decide +kernel
theorem dX3_shareOf_26 : decode cX3_shareOf 26 = .ok (.invokevirtual 97, 3) := by decide +kernel
theorem dX3_shareOf_29 : decode cX3_shareOf 29 = .ok (.i2f, 1) := by decide +kernel
theorem dX3_shareOf_30 : decode cX3_shareOf 30 = .ok (.iload_n 2, 1) := by decide +kernel
theorem dX3_shareOf_31 : decode cX3_shareOf 31 = .ok (.i2f, 1) := by decide +kernel
theorem dX3_shareOf_32 : decode cX3_shareOf 32 = .ok (.fdiv, 1) := by decide +kernel
theorem dX3_shareOf_33 : decode cX3_shareOf 33 = .ok (.freturn, 1) := by decide +kernel
theorem dX3_checksum_0 : decode cX3_checksum 0 = .ok (.ldc2_w 215, 3) := by decide +kernel
theorem dX3_checksum_3 : decode cX3_checksum 3 = .ok (.lstore_n 1, 1) := by decide +kernel
theorem dX3_checksum_4 : decode cX3_checksum 4 = .ok (.lload_n 1, 1) := by decide +kernel
theorem dX3_checksum_5 : decode cX3_checksum 5 = .ok (.aload_n 0, 1) := by decide +kernel
theorem dX3_checksum_6 : decode cX3_checksum 6 = .ok (.invokevirtual 217, 3) := by decide +kernel
theorem dX3_checksum_9 : decode cX3_checksum 9 = .ok (.invokestatic 220, 3) := by decide +kernel
theorem dX3_checksum_12 : decode cX3_checksum 12 = .ok (.lstore_n 1, 1) := by decide +kernel
theorem dX3_checksum_13 : decode cX3_checksum 13 = .ok (.lload_n 1, 1) := by decide +kernel
theorem dX3_checksum_14 : decode cX3_checksum 14 = .ok (.aload_n 0, 1) := by decide +kernel
theorem dX3_checksum_15 : decode cX3_checksum 15 = .ok (.invokevirtual 224, 3) := by decide +kernel
theorem dX3_checksum_18 : decode cX3_checksum 18 = .ok (.invokestatic 220, 3) := by decide +kernel
theorem dX3_checksum_21 : decode cX3_checksum 21 = .ok (.lstore_n 1, 1) := by decide +kernel
theorem dX3_checksum_22 : decode cX3_checksum 22 = .ok (.lload_n 1, 1) := by decide +kernel
theorem dX3_checksum_23 : decode cX3_checksum 23 = .ok (.aload_n 0, 1) := by decide +kernel
theorem dX3_checksum_24 : decode cX3_checksum 24 = .ok (.invokevirtual 90, 3) := by decide +kernel
theorem dX3_checksum_27 : decode cX3_checksum 27 = .ok (.invokestatic 220, 3) := by decide +kernel
theorem dX3_checksum_30 : decode cX3_checksum 30 = .ok (.lstore_n 1, 1) := by decide +kernel
theorem dX3_checksum_31 : decode cX3_checksum 31 = .ok (.lload_n 1, 1) := by decide +kernel
theorem dX3_checksum_32 : decode cX3_checksum 32 = .ok (.aload_n 0, 1) := by decide +kernel
theorem dX3_checksum_33 : decode cX3_checksum 33 = .ok (.invokevirtual 127, 3) := by decide +kernel
theorem dX3_checksum_36 : decode cX3_checksum 36 = .ok (.invokestatic 220, 3) := by decide +kernel
theorem dX3_checksum_39 : decode cX3_checksum 39 = .ok (.lstore_n 1, 1) := by decide +kernel
theorem dX3_checksum_40 : decode cX3_checksum 40 = .ok (.lload_n 1, 1) := by decide +kernel
theorem dX3_checksum_41 : decode cX3_checksum 41 = .ok (.aload_n 0, 1) := by decide +kernel
theorem dX3_checksum_42 : decode cX3_checksum 42 = .ok (.invokevirtual 227, 3) := by decide +kernel
theorem dX3_checksum_45 : decode cX3_checksum 45 = .ok (.invokestatic 220, 3) := by decide +kernel
theorem dX3_checksum_48 : decode cX3_checksum 48 = .ok (.lstore_n 1, 1) := by decide +kernel
theorem dX3_checksum_49 : decode cX3_checksum 49 = .ok (.lload_n 1, 1) := by decide +kernel
theorem dX3_checksum_50 : decode cX3_checksum 50 = .ok (.aload_n 0, 1) := by decide +kernel
theorem dX3_checksum_51 : decode cX3_checksum 51 = .ok (.getfield 12, 3) := by decide +kernel
theorem dX3_checksum_54 : decode cX3_checksum 54 = .ok (.invokestatic 230, 3) := by decide +kernel
theorem dX3_checksum_57 : decode cX3_checksum 57 = .ok (.lstore_n 1, 1) := by decide +kernel
theorem dX3_checksum_58 : decode cX3_checksum 58 = .ok (.lload_n 1, 1) := by decide +kernel
theorem dX3_checksum_59 : decode cX3_checksum 59 = .ok (.aload_n 0, 1) := by decide +kernel
theorem dX3_checksum_60 : decode cX3_checksum 60 = .ok (.invokevirtual 209, 3) := by decide +kernel
theorem dX3_checksum_63 : decode cX3_checksum 63 = .ok (.invokestatic 220, 3) := by decide +kernel
theorem dX3_checksum_66 : decode cX3_checksum 66 = .ok (.lstore_n 1, 1) := by decide +kernel
theorem dX3_checksum_67 : decode cX3_checksum 67 = .ok (.aload_n 0, 1) := by decide +kernel
theorem dX3_checksum_68 : decode cX3_checksum 68 = .ok (.invokevirtual 143, 3) := by decide +kernel
theorem dX3_checksum_71 : decode cX3_checksum 71 = .ok (.iconst 0, 1) := by decide +kernel
theorem dX3_checksum_72 : decode cX3_checksum 72 = .ok (.istore_n 3, 1) := by decide +kernel
theorem dX3_checksum_73 : decode cX3_checksum 73 = .ok (.iload_n 3, 1) := by decide +kernel
theorem dX3_checksum_74 : decode cX3_checksum 74 = .ok (.aload_n 0, 1) := by decide +kernel
theorem dX3_checksum_75 : decode cX3_checksum 75 = .ok (.getfield 12, 3) := by decide +kernel
theorem dX3_checksum_78 : decode cX3_checksum 78 = .ok (.getfield 83, 3) := by decide +kernel
theorem dX3_checksum_81 : decode cX3_checksum 81 = .ok (.if_icmp .ge 20, 3) := by decide +kernel
theorem dX3_checksum_84 : decode cX3_checksum 84 = .ok (.lload_n 1, 1) := by decide +kernel
theorem dX3_checksum_85 : decode cX3_checksum 85 = .ok (.aload_n 0, 1) := by decide +kernel
theorem dX3_checksum_86 : decode cX3_checksum 86 = .ok (.getfield 33, 3) := by decide +kernel
theorem dX3_checksum_89 : decode cX3_checksum 89 = .ok (.iload_n 3, 1) := by decide +kernel
theorem dX3_checksum_90 : decode cX3_checksum 90 = .ok (.iaload, 1) := by decide +kernel
theorem dX3_checksum_91 : decode cX3_checksum 91 = .ok (.invokestatic 220, 3) := by decide +kernel
theorem dX3_checksum_94 : decode cX3_checksum 94 = .ok (.lstore_n 1, 1) := by decide +kernel
theorem dX3_checksum_95 : decode cX3_checksum 95 = .ok (.iinc 3 1, 3) := by decide +kernel
theorem dX3_checksum_98 : decode cX3_checksum 98 = .ok (.goto (-25), 3) := by decide +kernel
theorem dX3_checksum_101 : decode cX3_checksum 101 = .ok (.lload_n 1, 1) := by decide +kernel
theorem dX3_checksum_102 : decode cX3_checksum 102 = .ok (.aload_n 0, 1) := by decide +kernel
theorem dX3_checksum_103 : decode cX3_checksum 103 = .ok (.getfield 16, 3) := by decide +kernel
theorem dX3_checksum_106 : decode cX3_checksum 106 = .ok (.getfield 83, 3) := by decide +kernel
theorem dX3_checksum_109 : decode cX3_checksum 109 = .ok (.invokestatic 220, 3) := by decide +kernel
theorem dX3_checksum_112 : decode cX3_checksum 112 = .ok (.lstore_n 1, 1) := by decide +kernel
theorem dX3_checksum_113 : decode cX3_checksum 113 = .ok (.lload_n 1, 1) := by decide +kernel
theorem dX3_checksum_114 : decode cX3_checksum 114 = .ok (.aload_n 0, 1) := by decide +kernel
theorem dX3_checksum_115 : decode cX3_checksum 115 = .ok (.getfield 16, 3) := by decide +kernel
theorem dX3_checksum_118 : decode cX3_checksum 118 = .ok (.getfield 72, 3) := by decide +kernel
theorem dX3_checksum_121 : decode cX3_checksum 121 = .ok (.invokestatic 220, 3) := by decide +kernel
theorem dX3_checksum_124 : decode cX3_checksum 124 = .ok (.lstore_n 1, 1) := by decide +kernel
theorem dX3_checksum_125 : decode cX3_checksum 125 = .ok (.lload_n 1, 1) := by decide +kernel
theorem dX3_checksum_126 : decode cX3_checksum 126 = .ok (.aload_n 0, 1) := by decide +kernel
theorem dX3_checksum_127 : decode cX3_checksum 127 = .ok (.getfield 16, 3) := by decide +kernel
theorem dX3_checksum_130 : decode cX3_checksum 130 = .ok (.invokestatic 230, 3) := by decide +kernel
theorem dX3_checksum_133 : decode cX3_checksum 133 = .ok (.lreturn, 1) := by decide +kernel
theorem dX3_isSound_0 : decode cX3_isSound 0 = .ok (.aload_n 0, 1) := by decide +kernel
theorem dX3_isSound_1 : decode cX3_isSound 1 = .ok (.invokevirtual 149, 3) := by decide +kernel
theorem dX3_isSound_4 : decode cX3_isSound 4 = .ok (.aload_n 0, 1) := by decide +kernel
theorem dX3_isSound_5 : decode cX3_isSound 5 = .ok (.invokevirtual 143, 3) := by decide +kernel
theorem dX3_isSound_8 : decode cX3_isSound 8 = .ok (.aload_n 0, 1) := by decide +kernel
theorem dX3_isSound_9 : decode cX3_isSound 9 = .ok (.invokevirtual 234, 3) := by decide +kernel
theorem dX3_isSound_12 : decode cX3_isSound 12 = .ok (.ifCond .eq 28, 3) := by decide +kernel
theorem dX3_isSound_15 : decode cX3_isSound 15 = .ok (.aload_n 0, 1) := by decide +kernel
theorem dX3_isSound_16 : decode cX3_isSound 16 = .ok (.invokevirtual 238, 3) := by decide +kernel
theorem dX3_isSound_19 : decode cX3_isSound 19 = .ok (.ifCond .eq 21, 3) := by decide +kernel
theorem dX3_isSound_22 : decode cX3_isSound 22 = .ok (.aload_n 0, 1) := by decide +kernel
theorem dX3_isSound_23 : decode cX3_isSound 23 = .ok (.invokevirtual 241, 3) := by decide +kernel
theorem dX3_isSound_26 : decode cX3_isSound 26 = .ok (.ifCond .eq 14, 3) := by decide +kernel
theorem dX3_isSound_29 : decode cX3_isSound 29 = .ok (.aload_n 0, 1) := by decide +kernel
theorem dX3_isSound_30 : decode cX3_isSound 30 = .ok (.invokevirtual 244, 3) := by decide +kernel
theorem dX3_isSound_33 : decode cX3_isSound 33 = .ok (.ifCond .eq 7, 3) := by decide +kernel
theorem dX3_isSound_36 : decode cX3_isSound 36 = .ok (.iconst 1, 1) := by decide +kernel
theorem dX3_isSound_37 : decode cX3_isSound 37 = .ok (.goto 4, 3) := by decide +kernel
theorem dX3_isSound_40 : decode cX3_isSound 40 = .ok (.iconst 0, 1) := by decide +kernel
theorem dX3_isSound_41 : decode cX3_isSound 41 = .ok (.ireturn, 1) := by decide +kernel
theorem dX3_isColumn_0 : decode cX3_isColumn 0 = .ok (.iload_n 1, 1) := by decide +kernel
theorem dX3_isColumn_1 : decode cX3_isColumn 1 = .ok (.ifCond .lt 18, 3) := by decide +kernel
theorem dX3_isColumn_4 : decode cX3_isColumn 4 = .ok (.iload_n 1, 1) := by decide +kernel
theorem dX3_isColumn_5 : decode cX3_isColumn 5 = .ok (.aload_n 0, 1) := by decide +kernel
theorem dX3_isColumn_6 : decode cX3_isColumn 6 = .ok (.getfield 12, 3) := by decide +kernel
theorem dX3_isColumn_9 : decode cX3_isColumn 9 = .ok (.getfield 83, 3) := by decide +kernel
theorem dX3_isColumn_12 : decode cX3_isColumn 12 = .ok (.if_icmp .ge 7, 3) := by decide +kernel
theorem dX3_isColumn_15 : decode cX3_isColumn 15 = .ok (.iconst 1, 1) := by decide +kernel
theorem dX3_isColumn_16 : decode cX3_isColumn 16 = .ok (.goto 4, 3) := by decide +kernel
theorem dX3_isColumn_19 : decode cX3_isColumn 19 = .ok (.iconst 0, 1) := by decide +kernel
theorem dX3_isColumn_20 : decode cX3_isColumn 20 = .ok (.ireturn, 1) := by decide +kernel
theorem dX3_requireRow_0 : decode cX3_requireRow 0 = .ok (.iload_n 1, 1) := by decide +kernel
theorem dX3_requireRow_1 : decode cX3_requireRow 1 = .ok (.ifCond .lt 14, 3) := by decide +kernel
theorem dX3_requireRow_4 : decode cX3_requireRow 4 = .ok (.iload_n 1, 1) := by decide +kernel
theorem dX3_requireRow_5 : decode cX3_requireRow 5 = .ok (.aload_n 0, 1) := by decide +kernel
theorem dX3_requireRow_6 : decode cX3_requireRow 6 = .ok (.getfield 12, 3) := by decide +kernel
theorem dX3_requireRow_9 : decode cX3_requireRow 9 = .ok (.getfield 83, 3) := by decide +kernel
theorem dX3_requireRow_12 : decode cX3_requireRow 12 = .ok (.if_icmp .lt 11, 3) := by decide +kernel
theorem dX3_requireRow_15 : decode cX3_requireRow 15 = .ok (.new 247, 3) := by decide +kernel
theorem dX3_requireRow_18 : decode cX3_requireRow 18 = .ok (.dup, 1) := by decide +kernel
theorem dX3_requireRow_19 : decode cX3_requireRow 19 = .ok (.invokespecial 249, 3) := by decide +kernel
theorem dX3_requireRow_22 : decode cX3_requireRow 22 = .ok (.athrow, 1) := by decide +kernel
theorem dX3_requireRow_23 : decode cX3_requireRow 23 = .ok (.return_, 1) := by decide +kernel
theorem dX3_requireColumn_0 : decode cX3_requireColumn 0 = .ok (.aload_n 0, 1) := by decide +kernel
theorem dX3_requireColumn_1 : decode cX3_requireColumn 1 = .ok (.iload_n 1, 1) := by decide +kernel
theorem dX3_requireColumn_2 : decode cX3_requireColumn 2 = .ok (.invokevirtual 177, 3) := by decide +kernel
theorem dX3_requireColumn_5 : decode cX3_requireColumn 5 = .ok (.ifCond .ne 11, 3) := by decide +kernel
theorem dX3_requireColumn_8 : decode cX3_requireColumn 8 = .ok (.new 247, 3) := by decide +kernel
theorem dX3_requireColumn_11 : decode cX3_requireColumn 11 = .ok (.dup, 1) := by decide +kernel
theorem dX3_requireColumn_12 : decode cX3_requireColumn 12 = .ok (.invokespecial 249, 3) := by decide +kernel
theorem dX3_requireColumn_15 : decode cX3_requireColumn 15 = .ok (.athrow, 1) := by decide +kernel
theorem dX3_requireColumn_16 : decode cX3_requireColumn 16 = .ok (.return_, 1) := by decide +kernel
theorem dX3_requireRealColumn_0 : decode cX3_requireRealColumn 0 = .ok (.iload_n 1, 1) := by decide +kernel
theorem dX3_requireRealColumn_1 : decode cX3_requireRealColumn 1 = .ok (.ifCond .lt 14, 3) := by decide +kernel
theorem dX3_requireRealColumn_4 : decode cX3_requireRealColumn 4 = .ok (.iload_n 1, 1) := by decide +kernel
theorem dX3_requireRealColumn_5 : decode cX3_requireRealColumn 5 = .ok (.aload_n 0, 1) := by decide +kernel
theorem dX3_requireRealColumn_6 : decode cX3_requireRealColumn 6 = .ok (.getfield 12, 3) := by decide +kernel
theorem dX3_requireRealColumn_9 : decode cX3_requireRealColumn 9 = .ok (.getfield 72, 3) := by decide +kernel
theorem dX3_requireRealColumn_12 : decode cX3_requireRealColumn 12 = .ok (.if_icmp .lt 11, 3) := by decide +kernel
theorem dX3_requireRealColumn_15 : decode cX3_requireRealColumn 15 = .ok (.new 247, 3) := by decide +kernel
theorem dX3_requireRealColumn_18 : decode cX3_requireRealColumn 18 = .ok (.dup, 1) := by decide +kernel
theorem dX3_requireRealColumn_19 : decode cX3_requireRealColumn 19 = .ok (.invokespecial 249, 3) := by decide +kernel
theorem dX3_requireRealColumn_22 : decode cX3_requireRealColumn 22 = .ok (.athrow, 1) := by decide +kernel
theorem dX3_requireRealColumn_23 : decode cX3_requireRealColumn 23 = .ok (.return_, 1) := by decide +kernel
theorem dX3_requireCell_0 : decode cX3_requireCell 0 = .ok (.aload_n 0, 1) := by decide +kernel
theorem dX3_requireCell_1 : decode cX3_requireCell 1 = .ok (.iload_n 1, 1) := by decide +kernel
theorem dX3_requireCell_2 : decode cX3_requireCell 2 = .ok (.invokevirtual 64, 3) := by decide +kernel
theorem dX3_requireCell_5 : decode cX3_requireCell 5 = .ok (.aload_n 0, 1) := by decide +kernel
theorem dX3_requireCell_6 : decode cX3_requireCell 6 = .ok (.iload_n 2, 1) := by decide +kernel
theorem dX3_requireCell_7 : decode cX3_requireCell 7 = .ok (.invokevirtual 152, 3) := by decide +kernel
theorem dX3_requireCell_10 : decode cX3_requireCell 10 = .ok (.return_, 1) := by decide +kernel
theorem dX3_requireRealCell_0 : decode cX3_requireRealCell 0 = .ok (.aload_n 0, 1) := by decide +kernel
theorem dX3_requireRealCell_1 : decode cX3_requireRealCell 1 = .ok (.iload_n 1, 1) := by decide +kernel
theorem dX3_requireRealCell_2 : decode cX3_requireRealCell 2 = .ok (.invokevirtual 64, 3) := by decide +kernel
theorem dX3_requireRealCell_5 : decode cX3_requireRealCell 5 = .ok (.aload_n 0, 1) := by decide +kernel
theorem dX3_requireRealCell_6 : decode cX3_requireRealCell 6 = .ok (.iload_n 2, 1) := by decide +kernel
theorem dX3_requireRealCell_7 : decode cX3_requireRealCell 7 = .ok (.invokevirtual 113, 3) := by decide +kernel
theorem dX3_requireRealCell_10 : decode cX3_requireRealCell 10 = .ok (.return_, 1) := by decide +kernel
theorem dX3_requireAddend_0 : decode cX3_requireAddend 0 = .ok (.iload_n 1, 1) := by decide +kernel
theorem dX3_requireAddend_1 : decode cX3_requireAddend 1 = .ok (.bipush (-99), 2) := by decide +kernel
theorem dX3_requireAddend_3 : decode cX3_requireAddend 3 = .ok (.if_icmp .lt 9, 3) := by decide +kernel
theorem dX3_requireAddend_6 : decode cX3_requireAddend 6 = .ok (.iload_n 1, 1) := by decide +kernel
theorem dX3_requireAddend_7 : decode cX3_requireAddend 7 = .ok (.bipush 99, 2) := by decide +kernel
theorem dX3_requireAddend_9 : decode cX3_requireAddend 9 = .ok (.if_icmp .le 11, 3) := by decide +kernel
theorem dX3_requireAddend_12 : decode cX3_requireAddend 12 = .ok (.new 43, 3) := by decide +kernel
theorem dX3_requireAddend_15 : decode cX3_requireAddend 15 = .ok (.dup, 1) := by decide +kernel
theorem dX3_requireAddend_16 : decode cX3_requireAddend 16 = .ok (.invokespecial 45, 3) := by decide +kernel
theorem dX3_requireAddend_19 : decode cX3_requireAddend 19 = .ok (.athrow, 1) := by decide +kernel
theorem dX3_requireAddend_20 : decode cX3_requireAddend 20 = .ok (.return_, 1) := by decide +kernel
theorem dX3_requireNoDummyColumn_0 : decode cX3_requireNoDummyColumn 0 = .ok (.aload_n 0, 1) := by decide +kernel
theorem dX3_requireNoDummyColumn_1 : decode cX3_requireNoDummyColumn 1 = .ok (.getfield 12, 3) := by decide +kernel
theorem dX3_requireNoDummyColumn_4 : decode cX3_requireNoDummyColumn 4 = .ok (.getfield 72, 3) := by decide +kernel
theorem dX3_requireNoDummyColumn_7 : decode cX3_requireNoDummyColumn 7 = .ok (.aload_n 0, 1) := by decide +kernel
theorem dX3_requireNoDummyColumn_8 : decode cX3_requireNoDummyColumn 8 = .ok (.getfield 12, 3) := by decide +kernel
theorem dX3_requireNoDummyColumn_11 : decode cX3_requireNoDummyColumn 11 = .ok (.getfield 83, 3) := by decide +kernel
theorem dX3_requireNoDummyColumn_14 : decode cX3_requireNoDummyColumn 14 = .ok (.if_icmp .ge 11, 3) := by decide +kernel
theorem dX3_requireNoDummyColumn_17 : decode cX3_requireNoDummyColumn 17 = .ok (.new 181, 3) := by decide +kernel
theorem dX3_requireNoDummyColumn_20 : decode cX3_requireNoDummyColumn 20 = .ok (.dup, 1) := by decide +kernel
theorem dX3_requireNoDummyColumn_21 : decode cX3_requireNoDummyColumn 21 = .ok (.invokespecial 183, 3) := by decide +kernel
theorem dX3_requireNoDummyColumn_24 : decode cX3_requireNoDummyColumn 24 = .ok (.athrow, 1) := by decide +kernel
theorem dX3_requireNoDummyColumn_25 : decode cX3_requireNoDummyColumn 25 = .ok (.return_, 1) := by decide +kernel
theorem dX3_requireAddable_0 : decode cX3_requireAddable 0 = .ok (.aload_n 0, 1) := by decide +kernel
theorem dX3_requireAddable_1 : decode cX3_requireAddable 1 = .ok (.getfield 12, 3) := by decide +kernel
theorem dX3_requireAddable_4 : decode cX3_requireAddable 4 = .ok (.iload_n 1, 1) := by decide +kernel
theorem dX3_requireAddable_5 : decode cX3_requireAddable 5 = .ok (.iload_n 2, 1) := by decide +kernel
theorem dX3_requireAddable_6 : decode cX3_requireAddable 6 = .ok (.invokevirtual 56, 3) := by decide +kernel
theorem dX3_requireAddable_9 : decode cX3_requireAddable 9 = .ok (.iload_n 3, 1) := by decide +kernel
theorem dX3_requireAddable_10 : decode cX3_requireAddable 10 = .ok (.iadd, 1) := by decide +kernel
theorem dX3_requireAddable_11 : decode cX3_requireAddable 11 = .ok (.istore 4, 2) := by decide +kernel
theorem dX3_requireAddable_13 : decode cX3_requireAddable 13 = .ok (.aload_n 0, 1) := by decide +kernel
theorem dX3_requireAddable_14 : decode cX3_requireAddable 14 = .ok (.getfield 12, 3) := by decide +kernel
theorem dX3_requireAddable_17 : decode cX3_requireAddable 17 = .ok (.iload_n 1, 1) := by decide +kernel
theorem dX3_requireAddable_18 : decode cX3_requireAddable 18 = .ok (.iload_n 2, 1) := by decide +kernel
theorem dX3_requireAddable_19 : decode cX3_requireAddable 19 = .ok (.invokevirtual 133, 3) := by decide +kernel
theorem dX3_requireAddable_22 : decode cX3_requireAddable 22 = .ok (.ifCond .ne 15, 3) := by decide +kernel
theorem dX3_requireAddable_25 : decode cX3_requireAddable 25 = .ok (.iload 4, 2) := by decide +kernel
theorem dX3_requireAddable_27 : decode cX3_requireAddable 27 = .ok (.ifCond .lt 10, 3) := by decide +kernel
theorem dX3_requireAddable_30 : decode cX3_requireAddable 30 = .ok (.iload 4, 2) := by decide +kernel
theorem dX3_requireAddable_32 : decode cX3_requireAddable 32 = .ok (.bipush 99, 2) := by decide +kernel
theorem dX3_requireAddable_34 : decode cX3_requireAddable 34 = .ok (.if_icmp .le 11, 3) := by decide +kernel
theorem dX3_requireAddable_37 : decode cX3_requireAddable 37 = .ok (.new 181, 3) := by decide +kernel
theorem dX3_requireAddable_40 : decode cX3_requireAddable 40 = .ok (.dup, 1) := by decide +kernel
theorem dX3_requireAddable_41 : decode cX3_requireAddable 41 = .ok (.invokespecial 183, 3) := by decide +kernel
theorem dX3_requireAddable_44 : decode cX3_requireAddable 44 = .ok (.athrow, 1) := by decide +kernel
theorem dX3_requireAddable_45 : decode cX3_requireAddable 45 = .ok (.return_, 1) := by decide +kernel
theorem dX3_packedBound_0 : decode cX3_packedBound 0 = .ok (.lconst 1, 1) := by decide +kernel
theorem dX3_packedBound_1 : decode cX3_packedBound 1 = .ok (.lstore_n 1, 1) := by decide +kernel
theorem dX3_packedBound_2 : decode cX3_packedBound 2 = .ok (.iconst 0, 1) := by decide +kernel
theorem dX3_packedBound_3 : decode cX3_packedBound 3 = .ok (.istore_n 3, 1) := by decide +kernel
theorem dX3_packedBound_4 : decode cX3_packedBound 4 = .ok (.iload_n 3, 1) := by decide +kernel
theorem dX3_packedBound_5 : decode cX3_packedBound 5 = .ok (.aload_n 0, 1) := by decide +kernel
theorem dX3_packedBound_6 : decode cX3_packedBound 6 = .ok (.getfield 12, 3) := by decide +kernel
theorem dX3_packedBound_9 : decode cX3_packedBound 9 = .ok (.getfield 72, 3) := by decide +kernel
theorem dX3_packedBound_12 : decode cX3_packedBound 12 = .ok (.if_icmp .ge 15, 3) := by decide +kernel
theorem dX3_packedBound_15 : decode cX3_packedBound 15 = .ok (.lload_n 1, 1) := by decide +kernel
theorem dX3_packedBound_16 : decode cX3_packedBound 16 = .ok (.ldc2_w 76, 3) := by decide +kernel
theorem dX3_packedBound_19 : decode cX3_packedBound 19 = .ok (.lmul, 1) := by decide +kernel
theorem dX3_packedBound_20 : decode cX3_packedBound 20 = .ok (.lstore_n 1, 1) := by decide +kernel
theorem dX3_packedBound_21 : decode cX3_packedBound 21 = .ok (.iinc 3 1, 3) := by decide +kernel
theorem dX3_packedBound_24 : decode cX3_packedBound 24 = .ok (.goto (-20), 3) := by decide +kernel
theorem dX3_packedBound_27 : decode cX3_packedBound 27 = .ok (.lload_n 1, 1) := by decide +kernel
theorem dX3_packedBound_28 : decode cX3_packedBound 28 = .ok (.lreturn, 1) := by decide +kernel
theorem dX3_findFirstOptimal_0 : decode cX3_findFirstOptimal 0 = .ok (.aload_n 0, 1) := by decide +kernel
theorem dX3_findFirstOptimal_1 : decode cX3_findFirstOptimal 1 = .ok (.getfield 22, 3) := by decide +kernel
theorem dX3_findFirstOptimal_4 : decode cX3_findFirstOptimal 4 = .ok (.aload_n 0, 1) := by decide +kernel
theorem dX3_findFirstOptimal_5 : decode cX3_findFirstOptimal 5 = .ok (.getfield 12, 3) := by decide +kernel
theorem dX3_findFirstOptimal_8 : decode cX3_findFirstOptimal 8 = .ok (.invokevirtual 137, 3) := by decide +kernel
theorem dX3_findFirstOptimal_11 : decode cX3_findFirstOptimal 11 = .ok (.aload_n 0, 1) := by decide +kernel
theorem dX3_findFirstOptimal_12 : decode cX3_findFirstOptimal 12 = .ok (.getfield 22, 3) := by decide +kernel
theorem dX3_findFirstOptimal_15 : decode cX3_findFirstOptimal 15 = .ok (.invokevirtual 140, 3) := by decide +kernel
theorem dX3_findFirstOptimal_18 : decode cX3_findFirstOptimal 18 = .ok (.pop, 1) := by decide +kernel
theorem dX3_findFirstOptimal_19 : decode cX3_findFirstOptimal 19 = .ok (.aload_n 0, 1) := by decide +kernel
theorem dX3_findFirstOptimal_20 : decode cX3_findFirstOptimal 20 = .ok (.getfield 22, 3) := by decide +kernel
theorem dX3_findFirstOptimal_23 : decode cX3_findFirstOptimal 23 = .ok (.aload_n 0, 1) := by decide +kernel
theorem dX3_findFirstOptimal_24 : decode cX3_findFirstOptimal 24 = .ok (.getfield 33, 3) := by decide +kernel
theorem dX3_findFirstOptimal_27 : decode cX3_findFirstOptimal 27 = .ok (.invokevirtual 250, 3) := by decide +kernel
theorem dX3_findFirstOptimal_30 : decode cX3_findFirstOptimal 30 = .ok (.return_, 1) := by decide +kernel
theorem dX3_leastWithCost_0 : decode cX3_leastWithCost 0 = .ok (.aload_n 0, 1) := by decide +kernel
theorem dX3_leastWithCost_1 : decode cX3_leastWithCost 1 = .ok (.getfield 22, 3) := by decide +kernel
theorem dX3_leastWithCost_4 : decode cX3_leastWithCost 4 = .ok (.aload_n 0, 1) := by decide +kernel
theorem dX3_leastWithCost_5 : decode cX3_leastWithCost 5 = .ok (.getfield 12, 3) := by decide +kernel
theorem dX3_leastWithCost_8 : decode cX3_leastWithCost 8 = .ok (.invokevirtual 137, 3) := by decide +kernel
theorem dX3_leastWithCost_11 : decode cX3_leastWithCost 11 = .ok (.aload_n 0, 1) := by decide +kernel
theorem dX3_leastWithCost_12 : decode cX3_leastWithCost 12 = .ok (.getfield 22, 3) := by decide +kernel
theorem dX3_leastWithCost_15 : decode cX3_leastWithCost 15 = .ok (.iload_n 1, 1) := by decide +kernel
theorem dX3_leastWithCost_16 : decode cX3_leastWithCost 16 = .ok (.iload_n 2, 1) := by decide +kernel
theorem dX3_leastWithCost_17 : decode cX3_leastWithCost 17 = .ok (.iload_n 3, 1) := by decide +kernel
theorem dX3_leastWithCost_18 : decode cX3_leastWithCost 18 = .ok (.invokevirtual 159, 3) := by decide +kernel
theorem dX3_leastWithCost_21 : decode cX3_leastWithCost 21 = .ok (.aload_n 0, 1) := by decide +kernel
theorem dX3_leastWithCost_22 : decode cX3_leastWithCost 22 = .ok (.getfield 22, 3) := by decide +kernel
theorem dX3_leastWithCost_25 : decode cX3_leastWithCost 25 = .ok (.invokevirtual 140, 3) := by decide +kernel
theorem dX3_leastWithCost_28 : decode cX3_leastWithCost 28 = .ok (.ireturn, 1) := by decide +kernel
theorem dX3_findPotentials_0 : decode cX3_findPotentials 0 = .ok (.aload_n 0, 1) := by decide +kernel
theorem dX3_findPotentials_1 : decode cX3_findPotentials 1 = .ok (.invokevirtual 209, 3) := by decide +kernel
theorem dX3_findPotentials_4 : decode cX3_findPotentials 4 = .ok (.istore_n 1, 1) := by decide +kernel
theorem dX3_findPotentials_5 : decode cX3_findPotentials 5 = .ok (.iconst 0, 1) := by decide +kernel
theorem dX3_findPotentials_6 : decode cX3_findPotentials 6 = .ok (.istore_n 2, 1) := by decide +kernel
theorem dX3_findPotentials_7 : decode cX3_findPotentials 7 = .ok (.iload_n 2, 1) := by decide +kernel
theorem dX3_findPotentials_8 : decode cX3_findPotentials 8 = .ok (.aload_n 0, 1) := by decide +kernel
theorem dX3_findPotentials_9 : decode cX3_findPotentials 9 = .ok (.getfield 12, 3) := by decide +kernel
theorem dX3_findPotentials_12 : decode cX3_findPotentials 12 = .ok (.getfield 83, 3) := by decide +kernel
theorem dX3_findPotentials_15 : decode cX3_findPotentials 15 = .ok (.if_icmp .ge 35, 3) := by decide +kernel
theorem dX3_findPotentials_18 : decode cX3_findPotentials 18 = .ok (.aload_n 0, 1) := by decide +kernel
theorem dX3_findPotentials_19 : decode cX3_findPotentials 19 = .ok (.iload_n 2, 1) := by decide +kernel
theorem dX3_findPotentials_20 : decode cX3_findPotentials 20 = .ok (.iconst 0, 1) := by decide +kernel
theorem dX3_findPotentials_21 : decode cX3_findPotentials 21 = .ok (.invokevirtual 254, 3) := by decide +kernel
theorem dX3_findPotentials_24 : decode cX3_findPotentials 24 = .ok (.aload_n 0, 1) := by decide +kernel
theorem dX3_findPotentials_25 : decode cX3_findPotentials 25 = .ok (.getfield 12, 3) := by decide +kernel
theorem dX3_findPotentials_28 : decode cX3_findPotentials 28 = .ok (.iload_n 2, 1) := by decide +kernel
theorem dX3_findPotentials_29 : decode cX3_findPotentials 29 = .ok (.iconst 0, 1) := by decide +kernel
theorem dX3_findPotentials_30 : decode cX3_findPotentials 30 = .ok (.invokevirtual 97, 3) := by decide +kernel
theorem dX3_findPotentials_33 : decode cX3_findPotentials 33 = .ok (.isub, 1) := by decide +kernel
theorem dX3_findPotentials_34 : decode cX3_findPotentials 34 = .ok (.istore_n 3, 1) := by decide +kernel
theorem dX3_findPotentials_35 : decode cX3_findPotentials 35 = .ok (.aload_n 0, 1) := by decide +kernel
theorem dX3_findPotentials_36 : decode cX3_findPotentials 36 = .ok (.getfield 26, 3) := by decide +kernel
theorem dX3_findPotentials_39 : decode cX3_findPotentials 39 = .ok (.iload_n 2, 1) := by decide +kernel
theorem dX3_findPotentials_40 : decode cX3_findPotentials 40 = .ok (.iload_n 1, 1) := by decide +kernel
theorem dX3_findPotentials_41 : decode cX3_findPotentials 41 = .ok (.iload_n 3, 1) := by decide +kernel
theorem dX3_findPotentials_42 : decode cX3_findPotentials 42 = .ok (.isub, 1) := by decide +kernel
theorem dX3_findPotentials_43 : decode cX3_findPotentials 43 = .ok (.iastore, 1) := by decide +kernel
theorem dX3_findPotentials_44 : decode cX3_findPotentials 44 = .ok (.iinc 2 1, 3) := by decide +kernel
theorem dX3_findPotentials_47 : decode cX3_findPotentials 47 = .ok (.goto (-40), 3) := by decide +kernel
theorem dX3_findPotentials_50 : decode cX3_findPotentials 50 = .ok (.iconst 0, 1) := by decide +kernel
theorem dX3_findPotentials_51 : decode cX3_findPotentials 51 = .ok (.istore_n 2, 1) := by decide +kernel
theorem dX3_findPotentials_52 : decode cX3_findPotentials 52 = .ok (.iload_n 2, 1) := by decide +kernel
theorem dX3_findPotentials_53 : decode cX3_findPotentials 53 = .ok (.aload_n 0, 1) := by decide +kernel
theorem dX3_findPotentials_54 : decode cX3_findPotentials 54 = .ok (.getfield 12, 3) := by decide +kernel
theorem dX3_findPotentials_57 : decode cX3_findPotentials 57 = .ok (.getfield 83, 3) := by decide +kernel
theorem dX3_findPotentials_60 : decode cX3_findPotentials 60 = .ok (.if_icmp .ge 20, 3) := by decide +kernel
theorem dX3_findPotentials_63 : decode cX3_findPotentials 63 = .ok (.aload_n 0, 1) := by decide +kernel
theorem dX3_findPotentials_64 : decode cX3_findPotentials 64 = .ok (.getfield 30, 3) := by decide +kernel
theorem dX3_findPotentials_67 : decode cX3_findPotentials 67 = .ok (.iload_n 2, 1) := by decide +kernel
theorem dX3_findPotentials_68 : decode cX3_findPotentials 68 = .ok (.aload_n 0, 1) := by decide +kernel
theorem dX3_findPotentials_69 : decode cX3_findPotentials 69 = .ok (.iload_n 2, 1) := by decide +kernel
