theorem dX3_findPotentials_70 : decode cX3_findPotentials 70 = .ok (.invokevirtual 257, 3) := by decide +kernel
theorem dX3_findPotentials_73 : decode cX3_findPotentials 73 = .ok (.iastore, 1) := by decide +kernel
theorem dX3_findPotentials_74 : decode cX3_findPotentials 74 = .ok (.iinc 2 1, 3) := by decide +kernel
theorem dX3_findPotentials_77 : decode cX3_findPotentials 77 = .ok (.goto (-25), 3) := by decide +kernel
theorem dX3_findPotentials_80 : decode cX3_findPotentials 80 = .ok (.return_, 1) := by decide +kernel
theorem dX3_smallestRest_0 : decode cX3_smallestRest 0 = .ok (.aload_n 0, 1) := by decide +kernel
theorem dX3_smallestRest_1 : decode cX3_smallestRest 1 = .ok (.getfield 12, 3) := by decide +kernel
theorem dX3_smallestRest_4 : decode cX3_smallestRest 4 = .ok (.iconst 0, 1) := by decide +kernel
theorem dX3_smallestRest_5 : decode cX3_smallestRest 5 = .ok (.iload_n 1, 1) := by decide +kernel
theorem dX3_smallestRest_6 : decode cX3_smallestRest 6 = .ok (.invokevirtual 97, 3) := by decide +kernel
theorem dX3_smallestRest_9 : decode cX3_smallestRest 9 = .ok (.aload_n 0, 1) := by decide +kernel
theorem dX3_smallestRest_10 : decode cX3_smallestRest 10 = .ok (.getfield 26, 3) := by decide +kernel
theorem dX3_smallestRest_13 : decode cX3_smallestRest 13 = .ok (.iconst 0, 1) := by decide +kernel
theorem dX3_smallestRest_14 : decode cX3_smallestRest 14 = .ok (.iaload, 1) := by decide +kernel
theorem dX3_smallestRest_15 : decode cX3_smallestRest 15 = .ok (.isub, 1) := by decide +kernel
theorem dX3_smallestRest_16 : decode cX3_smallestRest 16 = .ok (.istore_n 2, 1) := by decide +kernel
theorem dX3_smallestRest_17 : decode cX3_smallestRest 17 = .ok (.iconst 1, 1) := by decide +kernel
theorem dX3_smallestRest_18 : decode cX3_smallestRest 18 = .ok (.istore_n 3, 1) := by decide +kernel
theorem dX3_smallestRest_19 : decode cX3_smallestRest 19 = .ok (.iload_n 3, 1) := by decide +kernel
theorem dX3_smallestRest_20 : decode cX3_smallestRest 20 = .ok (.aload_n 0, 1) := by decide +kernel
theorem dX3_smallestRest_21 : decode cX3_smallestRest 21 = .ok (.getfield 12, 3) := by decide +kernel
theorem dX3_smallestRest_24 : decode cX3_smallestRest 24 = .ok (.getfield 83, 3) := by decide +kernel
theorem dX3_smallestRest_27 : decode cX3_smallestRest 27 = .ok (.if_icmp .ge 30, 3) := by decide +kernel
theorem dX3_smallestRest_30 : decode cX3_smallestRest 30 = .ok (.iload_n 2, 1) := by decide +kernel
theorem dX3_smallestRest_31 : decode cX3_smallestRest 31 = .ok (.aload_n 0, 1) := by decide +kernel
theorem dX3_smallestRest_32 : decode cX3_smallestRest 32 = .ok (.getfield 12, 3) := by decide +kernel
theorem dX3_smallestRest_35 : decode cX3_smallestRest 35 = .ok (.iload_n 3, 1) := by decide +kernel
theorem dX3_smallestRest_36 : decode cX3_smallestRest 36 = .ok (.iload_n 1, 1) := by decide +kernel
theorem dX3_smallestRest_37 : decode cX3_smallestRest 37 = .ok (.invokevirtual 97, 3) := by decide +kernel
theorem dX3_smallestRest_40 : decode cX3_smallestRest 40 = .ok (.aload_n 0, 1) := by decide +kernel
theorem dX3_smallestRest_41 : decode cX3_smallestRest 41 = .ok (.getfield 26, 3) := by decide +kernel
theorem dX3_smallestRest_44 : decode cX3_smallestRest 44 = .ok (.iload_n 3, 1) := by decide +kernel
theorem dX3_smallestRest_45 : decode cX3_smallestRest 45 = .ok (.iaload, 1) := by decide +kernel
theorem dX3_smallestRest_46 : decode cX3_smallestRest 46 = .ok (.isub, 1) := by decide +kernel
theorem dX3_smallestRest_47 : decode cX3_smallestRest 47 = .ok (.invokestatic 78, 3) := by decide +kernel
theorem dX3_smallestRest_50 : decode cX3_smallestRest 50 = .ok (.istore_n 2, 1) := by decide +kernel
theorem dX3_smallestRest_51 : decode cX3_smallestRest 51 = .ok (.iinc 3 1, 3) := by decide +kernel
theorem dX3_smallestRest_54 : decode cX3_smallestRest 54 = .ok (.goto (-35), 3) := by decide +kernel
theorem dX3_smallestRest_57 : decode cX3_smallestRest 57 = .ok (.iload_n 2, 1) := by decide +kernel
theorem dX3_smallestRest_58 : decode cX3_smallestRest 58 = .ok (.ireturn, 1) := by decide +kernel
theorem dX3_reducedBy_0 : decode cX3_reducedBy 0 = .ok (.aload_n 0, 1) := by decide +kernel
theorem dX3_reducedBy_1 : decode cX3_reducedBy 1 = .ok (.getfield 12, 3) := by decide +kernel
theorem dX3_reducedBy_4 : decode cX3_reducedBy 4 = .ok (.iload_n 1, 1) := by decide +kernel
theorem dX3_reducedBy_5 : decode cX3_reducedBy 5 = .ok (.iload_n 2, 1) := by decide +kernel
theorem dX3_reducedBy_6 : decode cX3_reducedBy 6 = .ok (.invokevirtual 97, 3) := by decide +kernel
theorem dX3_reducedBy_9 : decode cX3_reducedBy 9 = .ok (.aload_n 0, 1) := by decide +kernel
theorem dX3_reducedBy_10 : decode cX3_reducedBy 10 = .ok (.getfield 26, 3) := by decide +kernel
theorem dX3_reducedBy_13 : decode cX3_reducedBy 13 = .ok (.iload_n 1, 1) := by decide +kernel
theorem dX3_reducedBy_14 : decode cX3_reducedBy 14 = .ok (.iaload, 1) := by decide +kernel
theorem dX3_reducedBy_15 : decode cX3_reducedBy 15 = .ok (.isub, 1) := by decide +kernel
theorem dX3_reducedBy_16 : decode cX3_reducedBy 16 = .ok (.aload_n 0, 1) := by decide +kernel
theorem dX3_reducedBy_17 : decode cX3_reducedBy 17 = .ok (.getfield 30, 3) := by decide +kernel
theorem dX3_reducedBy_20 : decode cX3_reducedBy 20 = .ok (.iload_n 2, 1) := by decide +kernel
theorem dX3_reducedBy_21 : decode cX3_reducedBy 21 = .ok (.iaload, 1) := by decide +kernel
theorem dX3_reducedBy_22 : decode cX3_reducedBy 22 = .ok (.isub, 1) := by decide +kernel
theorem dX3_reducedBy_23 : decode cX3_reducedBy 23 = .ok (.ireturn, 1) := by decide +kernel
theorem dX3_potentialsAddUp_0 : decode cX3_potentialsAddUp 0 = .ok (.iconst 0, 1) := by decide +kernel
theorem dX3_potentialsAddUp_1 : decode cX3_potentialsAddUp 1 = .ok (.istore_n 1, 1) := by decide +kernel
theorem dX3_potentialsAddUp_2 : decode cX3_potentialsAddUp 2 = .ok (.iconst 0, 1) := by decide +kernel
theorem dX3_potentialsAddUp_3 : decode cX3_potentialsAddUp 3 = .ok (.istore_n 2, 1) := by decide +kernel
theorem dX3_potentialsAddUp_4 : decode cX3_potentialsAddUp 4 = .ok (.iload_n 2, 1) := by decide +kernel
theorem dX3_potentialsAddUp_5 : decode cX3_potentialsAddUp 5 = .ok (.aload_n 0, 1) := by decide +kernel
theorem dX3_potentialsAddUp_6 : decode cX3_potentialsAddUp 6 = .ok (.getfield 12, 3) := by decide +kernel
theorem dX3_potentialsAddUp_9 : decode cX3_potentialsAddUp 9 = .ok (.getfield 83, 3) := by decide +kernel
theorem dX3_potentialsAddUp_12 : decode cX3_potentialsAddUp 12 = .ok (.if_icmp .ge 25, 3) := by decide +kernel
theorem dX3_potentialsAddUp_15 : decode cX3_potentialsAddUp 15 = .ok (.iload_n 1, 1) := by decide +kernel
theorem dX3_potentialsAddUp_16 : decode cX3_potentialsAddUp 16 = .ok (.aload_n 0, 1) := by decide +kernel
theorem dX3_potentialsAddUp_17 : decode cX3_potentialsAddUp 17 = .ok (.getfield 26, 3) := by decide +kernel
theorem dX3_potentialsAddUp_20 : decode cX3_potentialsAddUp 20 = .ok (.iload_n 2, 1) := by decide +kernel
theorem dX3_potentialsAddUp_21 : decode cX3_potentialsAddUp 21 = .ok (.iaload, 1) := by decide +kernel
theorem dX3_potentialsAddUp_22 : decode cX3_potentialsAddUp 22 = .ok (.aload_n 0, 1) := by decide +kernel
theorem dX3_potentialsAddUp_23 : decode cX3_potentialsAddUp 23 = .ok (.getfield 30, 3) := by decide +kernel
theorem dX3_potentialsAddUp_26 : decode cX3_potentialsAddUp 26 = .ok (.iload_n 2, 1) := by decide +kernel
theorem dX3_potentialsAddUp_27 : decode cX3_potentialsAddUp 27 = .ok (.iaload, 1) := by decide +kernel
theorem dX3_potentialsAddUp_28 : decode cX3_potentialsAddUp 28 = .ok (.iadd, 1) := by decide +kernel
theorem dX3_potentialsAddUp_29 : decode cX3_potentialsAddUp 29 = .ok (.iadd, 1) := by decide +kernel
theorem dX3_potentialsAddUp_30 : decode cX3_potentialsAddUp 30 = .ok (.istore_n 1, 1) := by decide +kernel
theorem dX3_potentialsAddUp_31 : decode cX3_potentialsAddUp 31 = .ok (.iinc 2 1, 3) := by decide +kernel
theorem dX3_potentialsAddUp_34 : decode cX3_potentialsAddUp 34 = .ok (.goto (-30), 3) := by decide +kernel
theorem dX3_potentialsAddUp_37 : decode cX3_potentialsAddUp 37 = .ok (.iload_n 1, 1) := by decide +kernel
theorem dX3_potentialsAddUp_38 : decode cX3_potentialsAddUp 38 = .ok (.aload_n 0, 1) := by decide +kernel
theorem dX3_potentialsAddUp_39 : decode cX3_potentialsAddUp 39 = .ok (.invokevirtual 209, 3) := by decide +kernel
theorem dX3_potentialsAddUp_42 : decode cX3_potentialsAddUp 42 = .ok (.if_icmp .ne 7, 3) := by decide +kernel
theorem dX3_potentialsAddUp_45 : decode cX3_potentialsAddUp 45 = .ok (.iconst 1, 1) := by decide +kernel
theorem dX3_potentialsAddUp_46 : decode cX3_potentialsAddUp 46 = .ok (.goto 4, 3) := by decide +kernel
theorem dX3_potentialsAddUp_49 : decode cX3_potentialsAddUp 49 = .ok (.iconst 0, 1) := by decide +kernel
theorem dX3_potentialsAddUp_50 : decode cX3_potentialsAddUp 50 = .ok (.ireturn, 1) := by decide +kernel
theorem dX3_reducedCostsHold_0 : decode cX3_reducedCostsHold 0 = .ok (.iconst 0, 1) := by decide +kernel
theorem dX3_reducedCostsHold_1 : decode cX3_reducedCostsHold 1 = .ok (.istore_n 1, 1) := by decide +kernel
theorem dX3_reducedCostsHold_2 : decode cX3_reducedCostsHold 2 = .ok (.iload_n 1, 1) := by decide +kernel
theorem dX3_reducedCostsHold_3 : decode cX3_reducedCostsHold 3 = .ok (.aload_n 0, 1) := by decide +kernel
theorem dX3_reducedCostsHold_4 : decode cX3_reducedCostsHold 4 = .ok (.getfield 12, 3) := by decide +kernel
theorem dX3_reducedCostsHold_7 : decode cX3_reducedCostsHold 7 = .ok (.getfield 83, 3) := by decide +kernel
theorem dX3_reducedCostsHold_10 : decode cX3_reducedCostsHold 10 = .ok (.if_icmp .ge 55, 3) := by decide +kernel
theorem dX3_reducedCostsHold_13 : decode cX3_reducedCostsHold 13 = .ok (.iconst 0, 1) := by decide +kernel
theorem dX3_reducedCostsHold_14 : decode cX3_reducedCostsHold 14 = .ok (.istore_n 2, 1) := by decide +kernel
theorem dX3_reducedCostsHold_15 : decode cX3_reducedCostsHold 15 = .ok (.iload_n 2, 1) := by decide +kernel
theorem dX3_reducedCostsHold_16 : decode cX3_reducedCostsHold 16 = .ok (.aload_n 0, 1) := by decide +kernel
theorem dX3_reducedCostsHold_17 : decode cX3_reducedCostsHold 17 = .ok (.getfield 12, 3) := by decide +kernel
theorem dX3_reducedCostsHold_20 : decode cX3_reducedCostsHold 20 = .ok (.getfield 83, 3) := by decide +kernel
theorem dX3_reducedCostsHold_23 : decode cX3_reducedCostsHold 23 = .ok (.if_icmp .ge 36, 3) := by decide +kernel
theorem dX3_reducedCostsHold_26 : decode cX3_reducedCostsHold 26 = .ok (.aload_n 0, 1) := by decide +kernel
theorem dX3_reducedCostsHold_27 : decode cX3_reducedCostsHold 27 = .ok (.iload_n 1, 1) := by decide +kernel
theorem dX3_reducedCostsHold_28 : decode cX3_reducedCostsHold 28 = .ok (.iload_n 2, 1) := by decide +kernel
theorem dX3_reducedCostsHold_29 : decode cX3_reducedCostsHold 29 = .ok (.invokevirtual 155, 3) := by decide +kernel
theorem dX3_reducedCostsHold_32 : decode cX3_reducedCostsHold 32 = .ok (.istore_n 3, 1) := by decide +kernel
theorem dX3_reducedCostsHold_33 : decode cX3_reducedCostsHold 33 = .ok (.iload_n 3, 1) := by decide +kernel
theorem dX3_reducedCostsHold_34 : decode cX3_reducedCostsHold 34 = .ok (.ifCond .lt 17, 3) := by decide +kernel
theorem dX3_reducedCostsHold_37 : decode cX3_reducedCostsHold 37 = .ok (.iload_n 3, 1) := by decide +kernel
theorem dX3_reducedCostsHold_38 : decode cX3_reducedCostsHold 38 = .ok (.ifCond .eq 15, 3) := by decide +kernel
theorem dX3_reducedCostsHold_41 : decode cX3_reducedCostsHold 41 = .ok (.aload_n 0, 1) := by decide +kernel
theorem dX3_reducedCostsHold_42 : decode cX3_reducedCostsHold 42 = .ok (.getfield 33, 3) := by decide +kernel
theorem dX3_reducedCostsHold_45 : decode cX3_reducedCostsHold 45 = .ok (.iload_n 1, 1) := by decide +kernel
theorem dX3_reducedCostsHold_46 : decode cX3_reducedCostsHold 46 = .ok (.iaload, 1) := by decide +kernel
theorem dX3_reducedCostsHold_47 : decode cX3_reducedCostsHold 47 = .ok (.iload_n 2, 1) := by decide +kernel
theorem dX3_reducedCostsHold_48 : decode cX3_reducedCostsHold 48 = .ok (.if_icmp .ne 5, 3) := by decide +kernel
theorem dX3_reducedCostsHold_51 : decode cX3_reducedCostsHold 51 = .ok (.iconst 0, 1) := by decide +kernel
theorem dX3_reducedCostsHold_52 : decode cX3_reducedCostsHold 52 = .ok (.ireturn, 1) := by decide +kernel
theorem dX3_reducedCostsHold_53 : decode cX3_reducedCostsHold 53 = .ok (.iinc 2 1, 3) := by decide +kernel
theorem dX3_reducedCostsHold_56 : decode cX3_reducedCostsHold 56 = .ok (.goto (-41), 3) := by decide +kernel
theorem dX3_reducedCostsHold_59 : decode cX3_reducedCostsHold 59 = .ok (.iinc 1 1, 3) := by decide +kernel
theorem dX3_reducedCostsHold_62 : decode cX3_reducedCostsHold 62 = .ok (.goto (-60), 3) := by decide +kernel
theorem dX3_reducedCostsHold_65 : decode cX3_reducedCostsHold 65 = .ok (.iconst 1, 1) := by decide +kernel
theorem dX3_reducedCostsHold_66 : decode cX3_reducedCostsHold 66 = .ok (.ireturn, 1) := by decide +kernel
theorem dX3_cellSplitHolds_0 : decode cX3_cellSplitHolds 0 = .ok (.aload_n 0, 1) := by decide +kernel
theorem dX3_cellSplitHolds_1 : decode cX3_cellSplitHolds 1 = .ok (.iconst 0, 1) := by decide +kernel
theorem dX3_cellSplitHolds_2 : decode cX3_cellSplitHolds 2 = .ok (.iconst 0, 1) := by decide +kernel
theorem dX3_cellSplitHolds_3 : decode cX3_cellSplitHolds 3 = .ok (.invokevirtual 254, 3) := by decide +kernel
theorem dX3_cellSplitHolds_6 : decode cX3_cellSplitHolds 6 = .ok (.istore_n 1, 1) := by decide +kernel
theorem dX3_cellSplitHolds_7 : decode cX3_cellSplitHolds 7 = .ok (.aload_n 0, 1) := by decide +kernel
theorem dX3_cellSplitHolds_8 : decode cX3_cellSplitHolds 8 = .ok (.getfield 12, 3) := by decide +kernel
theorem dX3_cellSplitHolds_11 : decode cX3_cellSplitHolds 11 = .ok (.getfield 83, 3) := by decide +kernel
theorem dX3_cellSplitHolds_14 : decode cX3_cellSplitHolds 14 = .ok (.iconst 1, 1) := by decide +kernel
theorem dX3_cellSplitHolds_15 : decode cX3_cellSplitHolds 15 = .ok (.if_icmp .le 14, 3) := by decide +kernel
theorem dX3_cellSplitHolds_18 : decode cX3_cellSplitHolds 18 = .ok (.iload_n 1, 1) := by decide +kernel
theorem dX3_cellSplitHolds_19 : decode cX3_cellSplitHolds 19 = .ok (.aload_n 0, 1) := by decide +kernel
theorem dX3_cellSplitHolds_20 : decode cX3_cellSplitHolds 20 = .ok (.iconst 0, 1) := by decide +kernel
theorem dX3_cellSplitHolds_21 : decode cX3_cellSplitHolds 21 = .ok (.iconst 0, 1) := by decide +kernel
theorem dX3_cellSplitHolds_22 : decode cX3_cellSplitHolds 22 = .ok (.invokevirtual 260, 3) := by decide +kernel
theorem dX3_cellSplitHolds_25 : decode cX3_cellSplitHolds 25 = .ok (.invokestatic 78, 3) := by decide +kernel
theorem dX3_cellSplitHolds_28 : decode cX3_cellSplitHolds 28 = .ok (.istore_n 1, 1) := by decide +kernel
theorem dX3_cellSplitHolds_29 : decode cX3_cellSplitHolds 29 = .ok (.aload_n 0, 1) := by decide +kernel
theorem dX3_cellSplitHolds_30 : decode cX3_cellSplitHolds 30 = .ok (.invokevirtual 209, 3) := by decide +kernel
theorem dX3_cellSplitHolds_33 : decode cX3_cellSplitHolds 33 = .ok (.iload_n 1, 1) := by decide +kernel
theorem dX3_cellSplitHolds_34 : decode cX3_cellSplitHolds 34 = .ok (.if_icmp .ne 7, 3) := by decide +kernel
theorem dX3_cellSplitHolds_37 : decode cX3_cellSplitHolds 37 = .ok (.iconst 1, 1) := by decide +kernel
theorem dX3_cellSplitHolds_38 : decode cX3_cellSplitHolds 38 = .ok (.goto 4, 3) := by decide +kernel
theorem dX3_cellSplitHolds_41 : decode cX3_cellSplitHolds 41 = .ok (.iconst 0, 1) := by decide +kernel
theorem dX3_cellSplitHolds_42 : decode cX3_cellSplitHolds 42 = .ok (.ireturn, 1) := by decide +kernel
theorem dX3_bottleneckHolds_0 : decode cX3_bottleneckHolds 0 = .ok (.aload_n 0, 1) := by decide +kernel
theorem dX3_bottleneckHolds_1 : decode cX3_bottleneckHolds 1 = .ok (.invokevirtual 263, 3) := by decide +kernel
theorem dX3_bottleneckHolds_4 : decode cX3_bottleneckHolds 4 = .ok (.istore_n 1, 1) := by decide +kernel
theorem dX3_bottleneckHolds_5 : decode cX3_bottleneckHolds 5 = .ok (.aload_n 0, 1) := by decide +kernel
theorem dX3_bottleneckHolds_6 : decode cX3_bottleneckHolds 6 = .ok (.iload_n 1, 1) := by decide +kernel
theorem dX3_bottleneckHolds_7 : decode cX3_bottleneckHolds 7 = .ok (.invokevirtual 266, 3) := by decide +kernel
theorem dX3_bottleneckHolds_10 : decode cX3_bottleneckHolds 10 = .ok (.ifCond .eq 21, 3) := by decide +kernel
theorem dX3_bottleneckHolds_13 : decode cX3_bottleneckHolds 13 = .ok (.iload_n 1, 1) := by decide +kernel
theorem dX3_bottleneckHolds_14 : decode cX3_bottleneckHolds 14 = .ok (.ifCond .eq 13, 3) := by decide +kernel
theorem dX3_bottleneckHolds_17 : decode cX3_bottleneckHolds 17 = .ok (.aload_n 0, 1) := by decide +kernel
theorem dX3_bottleneckHolds_18 : decode cX3_bottleneckHolds 18 = .ok (.iload_n 1, 1) := by decide +kernel
theorem dX3_bottleneckHolds_19 : decode cX3_bottleneckHolds 19 = .ok (.iconst 1, 1) := by decide +kernel
theorem dX3_bottleneckHolds_20 : decode cX3_bottleneckHolds 20 = .ok (.isub, 1) := by decide +kernel
theorem dX3_bottleneckHolds_21 : decode cX3_bottleneckHolds 21 = .ok (.invokevirtual 266, 3) := by decide +kernel
theorem dX3_bottleneckHolds_24 : decode cX3_bottleneckHolds 24 = .ok (.ifCond .ne 7, 3) := by decide +kernel
theorem dX3_bottleneckHolds_27 : decode cX3_bottleneckHolds 27 = .ok (.iconst 1, 1) := by decide +kernel
theorem dX3_bottleneckHolds_28 : decode cX3_bottleneckHolds 28 = .ok (.goto 4, 3) := by decide +kernel
theorem dX3_bottleneckHolds_31 : decode cX3_bottleneckHolds 31 = .ok (.iconst 0, 1) := by decide +kernel
theorem dX3_bottleneckHolds_32 : decode cX3_bottleneckHolds 32 = .ok (.ireturn, 1) := by decide +kernel
theorem dX3_mixed_0 : decode cX3_mixed 0 = .ok (.ldc2_w 269, 3) := by decide +kernel
theorem dX3_mixed_3 : decode cX3_mixed 3 = .ok (.lload_n 0, 1) := by decide +kernel
theorem dX3_mixed_4 : decode cX3_mixed 4 = .ok (.lmul, 1) := by decide +kernel
theorem dX3_mixed_5 : decode cX3_mixed 5 = .ok (.iload_n 2, 1) := by decide +kernel
theorem dX3_mixed_6 : decode cX3_mixed 6 = .ok (.i2l, 1) := by decide +kernel
theorem dX3_mixed_7 : decode cX3_mixed 7 = .ok (.ladd, 1) := by decide +kernel
theorem dX3_mixed_8 : decode cX3_mixed 8 = .ok (.lreturn, 1) := by decide +kernel
theorem dX3_mixedCosts_0 : decode cX3_mixedCosts 0 = .ok (.lload_n 0, 1) := by decide +kernel
theorem dX3_mixedCosts_1 : decode cX3_mixedCosts 1 = .ok (.lstore_n 3, 1) := by decide +kernel
theorem dX3_mixedCosts_2 : decode cX3_mixedCosts 2 = .ok (.iconst 0, 1) := by decide +kernel
theorem dX3_mixedCosts_3 : decode cX3_mixedCosts 3 = .ok (.istore 5, 2) := by decide +kernel
theorem dX3_mixedCosts_5 : decode cX3_mixedCosts 5 = .ok (.iload 5, 2) := by decide +kernel
theorem dX3_mixedCosts_7 : decode cX3_mixedCosts 7 = .ok (.aload_n 2, 1) := by decide +kernel
theorem dX3_mixedCosts_8 : decode cX3_mixedCosts 8 = .ok (.getfield 83, 3) := by decide +kernel
theorem dX3_mixedCosts_11 : decode cX3_mixedCosts 11 = .ok (.if_icmp .ge 40, 3) := by decide +kernel
theorem dX3_mixedCosts_14 : decode cX3_mixedCosts 14 = .ok (.iconst 0, 1) := by decide +kernel
theorem dX3_mixedCosts_15 : decode cX3_mixedCosts 15 = .ok (.istore 6, 2) := by decide +kernel
theorem dX3_mixedCosts_17 : decode cX3_mixedCosts 17 = .ok (.iload 6, 2) := by decide +kernel
theorem dX3_mixedCosts_19 : decode cX3_mixedCosts 19 = .ok (.aload_n 2, 1) := by decide +kernel
theorem dX3_mixedCosts_20 : decode cX3_mixedCosts 20 = .ok (.getfield 83, 3) := by decide +kernel
theorem dX3_mixedCosts_23 : decode cX3_mixedCosts 23 = .ok (.if_icmp .ge 22, 3) := by decide +kernel
theorem dX3_mixedCosts_26 : decode cX3_mixedCosts 26 = .ok (.lload_n 3, 1) := by decide +kernel
theorem dX3_mixedCosts_27 : decode cX3_mixedCosts 27 = .ok (.aload_n 2, 1) := by decide +kernel
theorem dX3_mixedCosts_28 : decode cX3_mixedCosts 28 = .ok (.iload 5, 2) := by decide +kernel
theorem dX3_mixedCosts_30 : decode cX3_mixedCosts 30 = .ok (.iload 6, 2) := by decide +kernel
theorem dX3_mixedCosts_32 : decode cX3_mixedCosts 32 = .ok (.invokevirtual 97, 3) := by decide +kernel
theorem dX3_mixedCosts_35 : decode cX3_mixedCosts 35 = .ok (.invokestatic 220, 3) := by decide +kernel
theorem dX3_mixedCosts_38 : decode cX3_mixedCosts 38 = .ok (.lstore_n 3, 1) := by decide +kernel
theorem dX3_mixedCosts_39 : decode cX3_mixedCosts 39 = .ok (.iinc 6 1, 3) := by decide +kernel
theorem dX3_mixedCosts_42 : decode cX3_mixedCosts 42 = .ok (.goto (-25), 3) := by decide +kernel
theorem dX3_mixedCosts_45 : decode cX3_mixedCosts 45 = .ok (.iinc 5 1, 3) := by decide +kernel
theorem dX3_mixedCosts_48 : decode cX3_mixedCosts 48 = .ok (.goto (-43), 3) := by decide +kernel
theorem dX3_mixedCosts_51 : decode cX3_mixedCosts 51 = .ok (.lload_n 3, 1) := by decide +kernel
theorem dX3_mixedCosts_52 : decode cX3_mixedCosts 52 = .ok (.lreturn, 1) := by decide +kernel
theorem dX3_factorial_0 : decode cX3_factorial 0 = .ok (.iconst 1, 1) := by decide +kernel
theorem dX3_factorial_1 : decode cX3_factorial 1 = .ok (.istore_n 1, 1) := by decide +kernel
theorem dX3_factorial_2 : decode cX3_factorial 2 = .ok (.iconst 2, 1) := by decide +kernel
theorem dX3_factorial_3 : decode cX3_factorial 3 = .ok (.istore_n 2, 1) := by decide +kernel
theorem dX3_factorial_4 : decode cX3_factorial 4 = .ok (.iload_n 2, 1) := by decide +kernel
theorem dX3_factorial_5 : decode cX3_factorial 5 = .ok (.iload_n 0, 1) := by decide +kernel
theorem dX3_factorial_6 : decode cX3_factorial 6 = .ok (.if_icmp .gt 13, 3) := by decide +kernel
theorem dX3_factorial_9 : decode cX3_factorial 9 = .ok (.iload_n 1, 1) := by decide +kernel
theorem dX3_factorial_10 : decode cX3_factorial 10 = .ok (.iload_n 2, 1) := by decide +kernel
theorem dX3_factorial_11 : decode cX3_factorial 11 = .ok (.imul, 1) := by decide +kernel
theorem dX3_factorial_12 : decode cX3_factorial 12 = .ok (.istore_n 1, 1) := by decide +kernel
theorem dX3_factorial_13 : decode cX3_factorial 13 = .ok (.iinc 2 1, 3) := by decide +kernel
theorem dX3_factorial_16 : decode cX3_factorial 16 = .ok (.goto (-12), 3) := by decide +kernel
theorem dX3_factorial_19 : decode cX3_factorial 19 = .ok (.iload_n 1, 1) := by decide +kernel
theorem dX3_factorial_20 : decode cX3_factorial 20 = .ok (.ireturn, 1) := by decide +kernel
theorem dX3_cellIndex_0 : decode cX3_cellIndex 0 = .ok (.iload_n 0, 1) := by decide +kernel
theorem dX3_cellIndex_1 : decode cX3_cellIndex 1 = .ok (.bipush 7, 2) := by decide +kernel
theorem dX3_cellIndex_3 : decode cX3_cellIndex 3 = .ok (.imul, 1) := by decide +kernel
theorem dX3_cellIndex_4 : decode cX3_cellIndex 4 = .ok (.iload_n 1, 1) := by decide +kernel
theorem dX3_cellIndex_5 : decode cX3_cellIndex 5 = .ok (.iadd, 1) := by decide +kernel
theorem dX3_cellIndex_6 : decode cX3_cellIndex 6 = .ok (.ireturn, 1) := by decide +kernel
theorem dX4_init_0 : decode cX4_init 0 = .ok (.aload_n 0, 1) := by decide +kernel
theorem dX4_init_1 : decode cX4_init 1 = .ok (.invokespecial 1, 3) := by decide +kernel
theorem dX4_init_4 : decode cX4_init 4 = .ok (.aload_n 0, 1) := by decide +kernel
theorem dX4_init_5 : decode cX4_init 5 = .ok (.iconst 1, 1) := by decide +kernel
theorem dX4_init_6 : decode cX4_init 6 = .ok (.putfield 7, 3) := by decide +kernel
theorem dX4_init_9 : decode cX4_init 9 = .ok (.aload_n 0, 1) := by decide +kernel
theorem dX4_init_10 : decode cX4_init 10 = .ok (.iconst 1, 1) := by decide +kernel
theorem dX4_init_11 : decode cX4_init 11 = .ok (.putfield 13, 3) := by decide +kernel
theorem dX4_init_14 : decode cX4_init 14 = .ok (.aload_n 0, 1) := by decide +kernel
theorem dX4_init_15 : decode cX4_init 15 = .ok (.iconst 1, 1) := by decide +kernel
theorem dX4_init_16 : decode cX4_init 16 = .ok (.putfield 16, 3) := by decide +kernel
theorem dX4_init_19 : decode cX4_init 19 = .ok (.aload_n 0, 1) := by decide +kernel
theorem dX4_init_20 : decode cX4_init 20 = .ok (.iconst 1, 1) := by decide +kernel
theorem dX4_init_21 : decode cX4_init 21 = .ok (.putfield 19, 3) := by decide +kernel
theorem dX4_init_24 : decode cX4_init 24 = .ok (.aload_n 0, 1) := by decide +kernel
theorem dX4_init_25 : decode cX4_init 25 = .ok (.bipush 49, 2) := by decide +kernel
theorem dX4_init_27 : decode cX4_init 27 = .ok (.newarray .int, 2) := by decide +kernel
theorem dX4_init_29 : decode cX4_init 29 = .ok (.putfield 22, 3) := by decide +kernel
theorem dX4_init_32 : decode cX4_init 32 = .ok (.aload_n 0, 1) := by decide +kernel
theorem dX4_init_33 : decode cX4_init 33 = .ok (.bipush 49, 2) := by decide +kernel
theorem dX4_init_35 : decode cX4_init 35 = .ok (.newarray .int, 2) := by decide +kernel
theorem dX4_init_37 : decode cX4_init 37 = .ok (.putfield 26, 3) := by decide +kernel
theorem dX4_init_40 : decode cX4_init 40 = .ok (.aload_n 0, 1) := by decide +kernel
theorem dX4_init_41 : decode cX4_init 41 = .ok (.bipush 49, 2) := by decide +kernel
theorem dX4_init_43 : decode cX4_init 43 = .ok (.newarray .boolean, 2) := by decide +kernel
theorem dX4_init_45 : decode cX4_init 45 = .ok (.putfield 29, 3) := by decide +kernel
theorem dX4_init_48 : decode cX4_init 48 = .ok (.aload_n 0, 1) := by decide +kernel
theorem dX4_init_49 : decode cX4_init 49 = .ok (.bipush 49, 2) := by decide +kernel
theorem dX4_init_51 : decode cX4_init 51 = .ok (.newarray .boolean, 2) := by decide +kernel
theorem dX4_init_53 : decode cX4_init 53 = .ok (.putfield 33, 3) := by decide +kernel
theorem dX4_init_56 : decode cX4_init 56 = .ok (.aload_n 0, 1) := by decide +kernel
theorem dX4_init_57 : decode cX4_init 57 = .ok (.bipush 49, 2) := by decide +kernel
theorem dX4_init_59 : decode cX4_init 59 = .ok (.newarray .int, 2) := by decide +kernel
theorem dX4_init_61 : decode cX4_init 61 = .ok (.putfield 36, 3) := by decide +kernel
theorem dX4_init_64 : decode cX4_init 64 = .ok (.aload_n 0, 1) := by decide +kernel
theorem dX4_init_65 : decode cX4_init 65 = .ok (.bipush 49, 2) := by decide +kernel
theorem dX4_init_67 : decode cX4_init 67 = .ok (.newarray .int, 2) := by decide +kernel
theorem dX4_init_69 : decode cX4_init 69 = .ok (.putfield 39, 3) := by decide +kernel
theorem dX4_init_72 : decode cX4_init 72 = .ok (.aload_n 0, 1) := by decide +kernel
theorem dX4_init_73 : decode cX4_init 73 = .ok (.bipush 7, 2) := by decide +kernel
theorem dX4_init_75 : decode cX4_init 75 = .ok (.newarray .int, 2) := by decide +kernel
theorem dX4_init_77 : decode cX4_init 77 = .ok (.putfield 42, 3) := by decide +kernel
theorem dX4_init_80 : decode cX4_init 80 = .ok (.aload_n 0, 1) := by decide +kernel
theorem dX4_init_81 : decode cX4_init 81 = .ok (.bipush 7, 2) := by decide +kernel
theorem dX4_init_83 : decode cX4_init 83 = .ok (.newarray .int, 2) := by decide +kernel
theorem dX4_init_85 : decode cX4_init 85 = .ok (.putfield 45, 3) := by decide +kernel
theorem dX4_init_88 : decode cX4_init 88 = .ok (.aload_n 0, 1) := by decide +kernel
theorem dX4_init_89 : decode cX4_init 89 = .ok (.iconst (-1), 1) := by decide +kernel
theorem dX4_init_90 : decode cX4_init 90 = .ok (.putfield 48, 3) := by decide +kernel
theorem dX4_init_93 : decode cX4_init 93 = .ok (.aload_n 0, 1) := by decide +kernel
theorem dX4_init_94 : decode cX4_init 94 = .ok (.bipush 7, 2) := by decide +kernel
theorem dX4_init_96 : decode cX4_init 96 = .ok (.newarray .int, 2) := by decide +kernel
theorem dX4_init_98 : decode cX4_init 98 = .ok (.putfield 51, 3) := by decide +kernel
theorem dX4_init_101 : decode cX4_init 101 = .ok (.aload_n 0, 1) := by decide +kernel
theorem dX4_init_102 : decode cX4_init 102 = .ok (.bipush 7, 2) := by decide +kernel
theorem dX4_init_104 : decode cX4_init 104 = .ok (.newarray .int, 2) := by decide +kernel
theorem dX4_init_106 : decode cX4_init 106 = .ok (.putfield 54, 3) := by decide +kernel
theorem dX4_init_109 : decode cX4_init 109 = .ok (.aload_n 0, 1) := by decide +kernel
theorem dX4_init_110 : decode cX4_init 110 = .ok (.bipush 7, 2) := by decide +kernel
theorem dX4_init_112 : decode cX4_init 112 = .ok (.newarray .int, 2) := by decide +kernel
theorem dX4_init_114 : decode cX4_init 114 = .ok (.putfield 57, 3) := by decide +kernel
theorem dX4_init_117 : decode cX4_init 117 = .ok (.return_, 1) := by decide +kernel
theorem dX4_thrown_0 : decode cX4_thrown 0 = .ok (.aload_n 0, 1) := by decide +kernel
theorem dX4_thrown_1 : decode cX4_thrown 1 = .ok (.getfield 60, 3) := by decide +kernel
theorem dX4_thrown_4 : decode cX4_thrown 4 = .ok (.ireturn, 1) := by decide +kernel
theorem dX4_isWrong_0 : decode cX4_isWrong 0 = .ok (.aload_n 0, 1) := by decide +kernel
theorem dX4_isWrong_1 : decode cX4_isWrong 1 = .ok (.iload_n 1, 1) := by decide +kernel
theorem dX4_isWrong_2 : decode cX4_isWrong 2 = .ok (.putfield 60, 3) := by decide +kernel
theorem dX4_isWrong_5 : decode cX4_isWrong 5 = .ok (.iload_n 1, 1) := by decide +kernel
theorem dX4_isWrong_6 : decode cX4_isWrong 6 = .ok (.ifCond .eq 7, 3) := by decide +kernel
theorem dX4_isWrong_9 : decode cX4_isWrong 9 = .ok (.iconst 1, 1) := by decide +kernel
theorem dX4_isWrong_10 : decode cX4_isWrong 10 = .ok (.goto 4, 3) := by decide +kernel
theorem dX4_isWrong_13 : decode cX4_isWrong 13 = .ok (.iconst 0, 1) := by decide +kernel
theorem dX4_isWrong_14 : decode cX4_isWrong 14 = .ok (.ireturn, 1) := by decide +kernel
theorem dX4_isIn_0 : decode cX4_isIn 0 = .ok (.lload_n 0, 1) := by decide +kernel
theorem dX4_isIn_1 : decode cX4_isIn 1 = .ok (.lload_n 2, 1) := by decide +kernel
theorem dX4_isIn_2 : decode cX4_isIn 2 = .ok (.lcmp, 1) := by decide +kernel
theorem dX4_isIn_3 : decode cX4_isIn 3 = .ok (.ifCond .lt 14, 3) := by decide +kernel
theorem dX4_isIn_6 : decode cX4_isIn 6 = .ok (.lload_n 0, 1) := by decide +kernel
theorem dX4_isIn_7 : decode cX4_isIn 7 = .ok (.lload 4, 2) := by decide +kernel
theorem dX4_isIn_9 : decode cX4_isIn 9 = .ok (.lcmp, 1) := by decide +kernel
theorem dX4_isIn_10 : decode cX4_isIn 10 = .ok (.ifCond .gt 7, 3) := by decide +kernel
theorem dX4_isIn_13 : decode cX4_isIn 13 = .ok (.iconst 1, 1) := by decide +kernel
theorem dX4_isIn_14 : decode cX4_isIn 14 = .ok (.goto 4, 3) := by decide +kernel
theorem dX4_isIn_17 : decode cX4_isIn 17 = .ok (.iconst 0, 1) := by decide +kernel
theorem dX4_isIn_18 : decode cX4_isIn 18 = .ok (.ireturn, 1) := by decide +kernel
theorem dX4_isRow_0 : decode cX4_isRow 0 = .ok (.iload_n 1, 1) := by decide +kernel
theorem dX4_isRow_1 : decode cX4_isRow 1 = .ok (.i2l, 1) := by decide +kernel
theorem dX4_isRow_2 : decode cX4_isRow 2 = .ok (.lconst 0, 1) := by decide +kernel
theorem dX4_isRow_3 : decode cX4_isRow 3 = .ok (.aload_n 0, 1) := by decide +kernel
theorem dX4_isRow_4 : decode cX4_isRow 4 = .ok (.getfield 7, 3) := by decide +kernel
theorem dX4_isRow_7 : decode cX4_isRow 7 = .ok (.iconst 1, 1) := by decide +kernel
theorem dX4_isRow_8 : decode cX4_isRow 8 = .ok (.isub, 1) := by decide +kernel
theorem dX4_isRow_9 : decode cX4_isRow 9 = .ok (.i2l, 1) := by decide +kernel
theorem dX4_isRow_10 : decode cX4_isRow 10 = .ok (.invokestatic 63, 3) := by decide +kernel
theorem dX4_isRow_13 : decode cX4_isRow 13 = .ok (.ireturn, 1) := by decide +kernel
theorem dX4_isReal_0 : decode cX4_isReal 0 = .ok (.iload_n 1, 1) := by decide +kernel
theorem dX4_isReal_1 : decode cX4_isReal 1 = .ok (.i2l, 1) := by decide +kernel
theorem dX4_isReal_2 : decode cX4_isReal 2 = .ok (.lconst 0, 1) := by decide +kernel
theorem dX4_isReal_3 : decode cX4_isReal 3 = .ok (.aload_n 0, 1) := by decide +kernel
theorem dX4_isReal_4 : decode cX4_isReal 4 = .ok (.getfield 13, 3) := by decide +kernel
theorem dX4_isReal_7 : decode cX4_isReal 7 = .ok (.iconst 1, 1) := by decide +kernel
theorem dX4_isReal_8 : decode cX4_isReal 8 = .ok (.isub, 1) := by decide +kernel
theorem dX4_isReal_9 : decode cX4_isReal 9 = .ok (.i2l, 1) := by decide +kernel
theorem dX4_isReal_10 : decode cX4_isReal 10 = .ok (.invokestatic 63, 3) := by decide +kernel
theorem dX4_isReal_13 : decode cX4_isReal 13 = .ok (.ireturn, 1) := by decide +kernel
theorem dX4_cost_0 : decode cX4_cost 0 = .ok (.iload_n 2, 1) := by decide +kernel
theorem dX4_cost_1 : decode cX4_cost 1 = .ok (.aload_n 0, 1) := by decide +kernel
theorem dX4_cost_2 : decode cX4_cost 2 = .ok (.getfield 13, 3) := by decide +kernel
theorem dX4_cost_5 : decode cX4_cost 5 = .ok (.if_icmp .lt 7, 3) := by decide +kernel
theorem dX4_cost_8 : decode cX4_cost 8 = .ok (.iconst 0, 1) := by decide +kernel
theorem dX4_cost_9 : decode cX4_cost 9 = .ok (.goto 34, 3) := by decide +kernel
theorem dX4_cost_12 : decode cX4_cost 12 = .ok (.aload_n 0, 1) := by decide +kernel
theorem dX4_cost_13 : decode cX4_cost 13 = .ok (.getfield 29, 3) := by decide +kernel
theorem dX4_cost_16 : decode cX4_cost 16 = .ok (.bipush 7, 2) := by decide +kernel
theorem dX4_cost_18 : decode cX4_cost 18 = .ok (.iload_n 1, 1) := by decide +kernel
theorem dX4_cost_19 : decode cX4_cost 19 = .ok (.imul, 1) := by decide +kernel
theorem dX4_cost_20 : decode cX4_cost 20 = .ok (.iload_n 2, 1) := by decide +kernel
theorem dX4_cost_21 : decode cX4_cost 21 = .ok (.iadd, 1) := by decide +kernel
theorem dX4_cost_22 : decode cX4_cost 22 = .ok (.baload, 1) := by decide +kernel
theorem dX4_cost_23 : decode cX4_cost 23 = .ok (.ifCond .eq 9, 3) := by decide +kernel
theorem dX4_cost_26 : decode cX4_cost 26 = .ok (.sipush 1000, 3) := by decide +kernel
theorem dX4_cost_29 : decode cX4_cost 29 = .ok (.goto 14, 3) := by decide +kernel
theorem dX4_cost_32 : decode cX4_cost 32 = .ok (.aload_n 0, 1) := by decide +kernel
theorem dX4_cost_33 : decode cX4_cost 33 = .ok (.getfield 22, 3) := by decide +kernel
theorem dX4_cost_36 : decode cX4_cost 36 = .ok (.bipush 7, 2) := by decide +kernel
theorem dX4_cost_38 : decode cX4_cost 38 = .ok (.iload_n 1, 1) := by decide +kernel
theorem dX4_cost_39 : decode cX4_cost 39 = .ok (.imul, 1) := by decide +kernel
theorem dX4_cost_40 : decode cX4_cost 40 = .ok (.iload_n 2, 1) := by decide +kernel
theorem dX4_cost_41 : decode cX4_cost 41 = .ok (.iadd, 1) := by decide +kernel
theorem dX4_cost_42 : decode cX4_cost 42 = .ok (.iaload, 1) := by decide +kernel
theorem dX4_cost_43 : decode cX4_cost 43 = .ok (.ireturn, 1) := by decide +kernel
theorem dX4_savedCost_0 : decode cX4_savedCost 0 = .ok (.iload_n 2, 1) := by decide +kernel
theorem dX4_savedCost_1 : decode cX4_savedCost 1 = .ok (.aload_n 0, 1) := by decide +kernel
theorem dX4_savedCost_2 : decode cX4_savedCost 2 = .ok (.getfield 19, 3) := by decide +kernel
theorem dX4_savedCost_5 : decode cX4_savedCost 5 = .ok (.if_icmp .lt 7, 3) := by decide +kernel
theorem dX4_savedCost_8 : decode cX4_savedCost 8 = .ok (.iconst 0, 1) := by decide +kernel
theorem dX4_savedCost_9 : decode cX4_savedCost 9 = .ok (.goto 34, 3) := by decide +kernel
theorem dX4_savedCost_12 : decode cX4_savedCost 12 = .ok (.aload_n 0, 1) := by decide +kernel
theorem dX4_savedCost_13 : decode cX4_savedCost 13 = .ok (.getfield 33, 3) := by decide +kernel
theorem dX4_savedCost_16 : decode cX4_savedCost 16 = .ok (.bipush 7, 2) := by decide +kernel
theorem dX4_savedCost_18 : decode cX4_savedCost 18 = .ok (.iload_n 1, 1) := by decide +kernel
theorem dX4_savedCost_19 : decode cX4_savedCost 19 = .ok (.imul, 1) := by decide +kernel
theorem dX4_savedCost_20 : decode cX4_savedCost 20 = .ok (.iload_n 2, 1) := by decide +kernel
theorem dX4_savedCost_21 : decode cX4_savedCost 21 = .ok (.iadd, 1) := by decide +kernel
theorem dX4_savedCost_22 : decode cX4_savedCost 22 = .ok (.baload, 1) := by decide +kernel
theorem dX4_savedCost_23 : decode cX4_savedCost 23 = .ok (.ifCond .eq 9, 3) := by decide +kernel
theorem dX4_savedCost_26 : decode cX4_savedCost 26 = .ok (.sipush 1000, 3) := by decide +kernel
theorem dX4_savedCost_29 : decode cX4_savedCost 29 = .ok (.goto 14, 3) := by decide +kernel
theorem dX4_savedCost_32 : decode cX4_savedCost 32 = .ok (.aload_n 0, 1) := by decide +kernel
theorem dX4_savedCost_33 : decode cX4_savedCost 33 = .ok (.getfield 26, 3) := by decide +kernel
theorem dX4_savedCost_36 : decode cX4_savedCost 36 = .ok (.bipush 7, 2) := by decide +kernel
theorem dX4_savedCost_38 : decode cX4_savedCost 38 = .ok (.iload_n 1, 1) := by decide +kernel
theorem dX4_savedCost_39 : decode cX4_savedCost 39 = .ok (.imul, 1) := by decide +kernel
theorem dX4_savedCost_40 : decode cX4_savedCost 40 = .ok (.iload_n 2, 1) := by decide +kernel
theorem dX4_savedCost_41 : decode cX4_savedCost 41 = .ok (.iadd, 1) := by decide +kernel
theorem dX4_savedCost_42 : decode cX4_savedCost 42 = .ok (.iaload, 1) := by decide +kernel
theorem dX4_savedCost_43 : decode cX4_savedCost 43 = .ok (.ireturn, 1) := by decide +kernel
theorem dX4_factorial_0 : decode cX4_factorial 0 = .ok (.iload_n 0, 1) := by decide +kernel
theorem dX4_factorial_1 : decode cX4_factorial 1 = .ok (.iconst 2, 1) := by decide +kernel
theorem dX4_factorial_2 : decode cX4_factorial 2 = .ok (.if_icmp .ge 7, 3) := by decide +kernel
theorem dX4_factorial_5 : decode cX4_factorial 5 = .ok (.iconst 1, 1) := by decide +kernel
theorem dX4_factorial_6 : decode cX4_factorial 6 = .ok (.goto 11, 3) := by decide +kernel
theorem dX4_factorial_9 : decode cX4_factorial 9 = .ok (.iload_n 0, 1) := by decide +kernel
theorem dX4_factorial_10 : decode cX4_factorial 10 = .ok (.iload_n 0, 1) := by decide +kernel
theorem dX4_factorial_11 : decode cX4_factorial 11 = .ok (.iconst 1, 1) := by decide +kernel
theorem dX4_factorial_12 : decode cX4_factorial 12 = .ok (.isub, 1) := by decide +kernel
theorem dX4_factorial_13 : decode cX4_factorial 13 = .ok (.invokestatic 67, 3) := by decide +kernel
theorem dX4_factorial_16 : decode cX4_factorial 16 = .ok (.imul, 1) := by decide +kernel
theorem dX4_factorial_17 : decode cX4_factorial 17 = .ok (.ireturn, 1) := by decide +kernel
theorem dX4_begin_0 : decode cX4_begin 0 = .ok (.iconst 0, 1) := by decide +kernel
theorem dX4_begin_1 : decode cX4_begin 1 = .ok (.istore_n 1, 1) := by decide +kernel
theorem dX4_begin_2 : decode cX4_begin 2 = .ok (.iload_n 1, 1) := by decide +kernel
theorem dX4_begin_3 : decode cX4_begin 3 = .ok (.bipush 7, 2) := by decide +kernel
theorem dX4_begin_5 : decode cX4_begin 5 = .ok (.if_icmp .ge 16, 3) := by decide +kernel
theorem dX4_begin_8 : decode cX4_begin 8 = .ok (.aload_n 0, 1) := by decide +kernel
theorem dX4_begin_9 : decode cX4_begin 9 = .ok (.getfield 42, 3) := by decide +kernel
theorem dX4_begin_12 : decode cX4_begin 12 = .ok (.iload_n 1, 1) := by decide +kernel
theorem dX4_begin_13 : decode cX4_begin 13 = .ok (.iload_n 1, 1) := by decide +kernel
theorem dX4_begin_14 : decode cX4_begin 14 = .ok (.iastore, 1) := by decide +kernel
theorem dX4_begin_15 : decode cX4_begin 15 = .ok (.iinc 1 1, 3) := by decide +kernel
theorem dX4_begin_18 : decode cX4_begin 18 = .ok (.goto (-16), 3) := by decide +kernel
theorem dX4_begin_21 : decode cX4_begin 21 = .ok (.return_, 1) := by decide +kernel
theorem dX4_goOn_0 : decode cX4_goOn 0 = .ok (.iload_n 1, 1) := by decide +kernel
theorem dX4_goOn_1 : decode cX4_goOn 1 = .ok (.iconst 2, 1) := by decide +kernel
theorem dX4_goOn_2 : decode cX4_goOn 2 = .ok (.isub, 1) := by decide +kernel
theorem dX4_goOn_3 : decode cX4_goOn 3 = .ok (.istore_n 2, 1) := by decide +kernel
theorem dX4_goOn_4 : decode cX4_goOn 4 = .ok (.iload_n 2, 1) := by decide +kernel
theorem dX4_goOn_5 : decode cX4_goOn 5 = .ok (.ifCond .lt 26, 3) := by decide +kernel
theorem dX4_goOn_8 : decode cX4_goOn 8 = .ok (.aload_n 0, 1) := by decide +kernel
theorem dX4_goOn_9 : decode cX4_goOn 9 = .ok (.getfield 42, 3) := by decide +kernel
theorem dX4_goOn_12 : decode cX4_goOn 12 = .ok (.iload_n 2, 1) := by decide +kernel
theorem dX4_goOn_13 : decode cX4_goOn 13 = .ok (.iaload, 1) := by decide +kernel
theorem dX4_goOn_14 : decode cX4_goOn 14 = .ok (.aload_n 0, 1) := by decide +kernel
theorem dX4_goOn_15 : decode cX4_goOn 15 = .ok (.getfield 42, 3) := by decide +kernel
theorem dX4_goOn_18 : decode cX4_goOn 18 = .ok (.iload_n 2, 1) := by decide +kernel
theorem dX4_goOn_19 : decode cX4_goOn 19 = .ok (.iconst 1, 1) := by decide +kernel
theorem dX4_goOn_20 : decode cX4_goOn 20 = .ok (.iadd, 1) := by decide +kernel
theorem dX4_goOn_21 : decode cX4_goOn 21 = .ok (.iaload, 1) := by decide +kernel
theorem dX4_goOn_22 : decode cX4_goOn 22 = .ok (.if_icmp .le 9, 3) := by decide +kernel
theorem dX4_goOn_25 : decode cX4_goOn 25 = .ok (.iinc 2 (-1), 3) := by decide +kernel
theorem dX4_goOn_28 : decode cX4_goOn 28 = .ok (.goto (-24), 3) := by decide +kernel
theorem dX4_goOn_31 : decode cX4_goOn 31 = .ok (.iload_n 2, 1) := by decide +kernel
theorem dX4_goOn_32 : decode cX4_goOn 32 = .ok (.ifCond .ge 4, 3) := by decide +kernel
theorem dX4_goOn_35 : decode cX4_goOn 35 = .ok (.return_, 1) := by decide +kernel
theorem dX4_goOn_36 : decode cX4_goOn 36 = .ok (.iload_n 1, 1) := by decide +kernel
theorem dX4_goOn_37 : decode cX4_goOn 37 = .ok (.iconst 1, 1) := by decide +kernel
theorem dX4_goOn_38 : decode cX4_goOn 38 = .ok (.isub, 1) := by decide +kernel
theorem dX4_goOn_39 : decode cX4_goOn 39 = .ok (.istore_n 3, 1) := by decide +kernel
theorem dX4_goOn_40 : decode cX4_goOn 40 = .ok (.aload_n 0, 1) := by decide +kernel
theorem dX4_goOn_41 : decode cX4_goOn 41 = .ok (.getfield 42, 3) := by decide +kernel
theorem dX4_goOn_44 : decode cX4_goOn 44 = .ok (.iload_n 3, 1) := by decide +kernel
theorem dX4_goOn_45 : decode cX4_goOn 45 = .ok (.iaload, 1) := by decide +kernel
theorem dX4_goOn_46 : decode cX4_goOn 46 = .ok (.aload_n 0, 1) := by decide +kernel
theorem dX4_goOn_47 : decode cX4_goOn 47 = .ok (.getfield 42, 3) := by decide +kernel
theorem dX4_goOn_50 : decode cX4_goOn 50 = .ok (.iload_n 2, 1) := by decide +kernel
theorem dX4_goOn_51 : decode cX4_goOn 51 = .ok (.iaload, 1) := by decide +kernel
theorem dX4_goOn_52 : decode cX4_goOn 52 = .ok (.if_icmp .ge 9, 3) := by decide +kernel
theorem dX4_goOn_55 : decode cX4_goOn 55 = .ok (.iinc 3 (-1), 3) := by decide +kernel
theorem dX4_goOn_58 : decode cX4_goOn 58 = .ok (.goto (-18), 3) := by decide +kernel
theorem dX4_goOn_61 : decode cX4_goOn 61 = .ok (.aload_n 0, 1) := by decide +kernel
theorem dX4_goOn_62 : decode cX4_goOn 62 = .ok (.iload_n 2, 1) := by decide +kernel
theorem dX4_goOn_63 : decode cX4_goOn 63 = .ok (.iload_n 3, 1) := by decide +kernel
theorem dX4_goOn_64 : decode cX4_goOn 64 = .ok (.invokevirtual 71, 3) := by decide +kernel
theorem dX4_goOn_67 : decode cX4_goOn 67 = .ok (.iload_n 2, 1) := by decide +kernel
theorem dX4_goOn_68 : decode cX4_goOn 68 = .ok (.iconst 1, 1) := by decide +kernel
theorem dX4_goOn_69 : decode cX4_goOn 69 = .ok (.iadd, 1) := by decide +kernel
theorem dX4_goOn_70 : decode cX4_goOn 70 = .ok (.istore 4, 2) := by decide +kernel
theorem dX4_goOn_72 : decode cX4_goOn 72 = .ok (.iload_n 1, 1) := by decide +kernel
theorem dX4_goOn_73 : decode cX4_goOn 73 = .ok (.iconst 1, 1) := by decide +kernel
theorem dX4_goOn_74 : decode cX4_goOn 74 = .ok (.isub, 1) := by decide +kernel
theorem dX4_goOn_75 : decode cX4_goOn 75 = .ok (.istore 5, 2) := by decide +kernel
theorem dX4_goOn_77 : decode cX4_goOn 77 = .ok (.iload 4, 2) := by decide +kernel
theorem dX4_goOn_79 : decode cX4_goOn 79 = .ok (.iload 5, 2) := by decide +kernel
theorem dX4_goOn_81 : decode cX4_goOn 81 = .ok (.if_icmp .ge 20, 3) := by decide +kernel
theorem dX4_goOn_84 : decode cX4_goOn 84 = .ok (.aload_n 0, 1) := by decide +kernel
theorem dX4_goOn_85 : decode cX4_goOn 85 = .ok (.iload 4, 2) := by decide +kernel
theorem dX4_goOn_87 : decode cX4_goOn 87 = .ok (.iload 5, 2) := by decide +kernel
theorem dX4_goOn_89 : decode cX4_goOn 89 = .ok (.invokevirtual 71, 3) := by decide +kernel
theorem dX4_goOn_92 : decode cX4_goOn 92 = .ok (.iinc 4 1, 3) := by decide +kernel
theorem dX4_goOn_95 : decode cX4_goOn 95 = .ok (.iinc 5 (-1), 3) := by decide +kernel
theorem dX4_goOn_98 : decode cX4_goOn 98 = .ok (.goto (-21), 3) := by decide +kernel
theorem dX4_goOn_101 : decode cX4_goOn 101 = .ok (.return_, 1) := by decide +kernel
theorem dX4_exchange_0 : decode cX4_exchange 0 = .ok (.aload_n 0, 1) := by decide +kernel
theorem dX4_exchange_1 : decode cX4_exchange 1 = .ok (.getfield 42, 3) := by decide +kernel
theorem dX4_exchange_4 : decode cX4_exchange 4 = .ok (.iload_n 1, 1) := by decide +kernel
theorem dX4_exchange_5 : decode cX4_exchange 5 = .ok (.iaload, 1) := by decide +kernel
theorem dX4_exchange_6 : decode cX4_exchange 6 = .ok (.istore_n 3, 1) := by decide +kernel
theorem dX4_exchange_7 : decode cX4_exchange 7 = .ok (.aload_n 0, 1) := by decide +kernel
theorem dX4_exchange_8 : decode cX4_exchange 8 = .ok (.getfield 42, 3) := by decide +kernel
theorem dX4_exchange_11 : decode cX4_exchange 11 = .ok (.iload_n 1, 1) := by decide +kernel
theorem dX4_exchange_12 : decode cX4_exchange 12 = .ok (.aload_n 0, 1) := by decide +kernel
theorem dX4_exchange_13 : decode cX4_exchange 13 = .ok (.getfield 42, 3) := by decide +kernel
theorem dX4_exchange_16 : decode cX4_exchange 16 = .ok (.iload_n 2, 1) := by decide +kernel
theorem dX4_exchange_17 : decode cX4_exchange 17 = .ok (.iaload, 1) := by decide +kernel
theorem dX4_exchange_18 : decode cX4_exchange 18 = .ok (.iastore, 1) := by decide +kernel
theorem dX4_exchange_19 : decode cX4_exchange 19 = .ok (.aload_n 0, 1) := by decide +kernel
theorem dX4_exchange_20 : decode cX4_exchange 20 = .ok (.getfield 42, 3) := by decide +kernel
theorem dX4_exchange_23 : decode cX4_exchange 23 = .ok (.iload_n 2, 1) := by decide +kernel
theorem dX4_exchange_24 : decode cX4_exchange 24 = .ok (.iload_n 3, 1) := by decide +kernel
theorem dX4_exchange_25 : decode cX4_exchange 25 = .ok (.iastore, 1) := by decide +kernel
theorem dX4_exchange_26 : decode cX4_exchange 26 = .ok (.return_, 1) := by decide +kernel
theorem dX4_sum_0 : decode cX4_sum 0 = .ok (.iconst 0, 1) := by decide +kernel
theorem dX4_sum_1 : decode cX4_sum 1 = .ok (.istore_n 2, 1) := by decide +kernel
theorem dX4_sum_2 : decode cX4_sum 2 = .ok (.iconst 0, 1) := by decide +kernel
theorem dX4_sum_3 : decode cX4_sum 3 = .ok (.istore_n 3, 1) := by decide +kernel
theorem dX4_sum_4 : decode cX4_sum 4 = .ok (.iload_n 3, 1) := by decide +kernel
theorem dX4_sum_5 : decode cX4_sum 5 = .ok (.iload_n 1, 1) := by decide +kernel
theorem dX4_sum_6 : decode cX4_sum 6 = .ok (.if_icmp .ge 28, 3) := by decide +kernel
theorem dX4_sum_9 : decode cX4_sum 9 = .ok (.iload_n 2, 1) := by decide +kernel
theorem dX4_sum_10 : decode cX4_sum 10 = .ok (.aload_n 0, 1) := by decide +kernel
theorem dX4_sum_11 : decode cX4_sum 11 = .ok (.getfield 36, 3) := by decide +kernel
theorem dX4_sum_14 : decode cX4_sum 14 = .ok (.bipush 7, 2) := by decide +kernel
theorem dX4_sum_16 : decode cX4_sum 16 = .ok (.iload_n 3, 1) := by decide +kernel
theorem dX4_sum_17 : decode cX4_sum 17 = .ok (.imul, 1) := by decide +kernel
theorem dX4_sum_18 : decode cX4_sum 18 = .ok (.aload_n 0, 1) := by decide +kernel
theorem dX4_sum_19 : decode cX4_sum 19 = .ok (.getfield 42, 3) := by decide +kernel
theorem dX4_sum_22 : decode cX4_sum 22 = .ok (.iload_n 3, 1) := by decide +kernel
theorem dX4_sum_23 : decode cX4_sum 23 = .ok (.iaload, 1) := by decide +kernel
theorem dX4_sum_24 : decode cX4_sum 24 = .ok (.iadd, 1) := by decide +kernel
theorem dX4_sum_25 : decode cX4_sum 25 = .ok (.iaload, 1) := by decide +kernel
theorem dX4_sum_26 : decode cX4_sum 26 = .ok (.iadd, 1) := by decide +kernel
theorem dX4_sum_27 : decode cX4_sum 27 = .ok (.istore_n 2, 1) := by decide +kernel
theorem dX4_sum_28 : decode cX4_sum 28 = .ok (.iinc 3 1, 3) := by decide +kernel
theorem dX4_sum_31 : decode cX4_sum 31 = .ok (.goto (-27), 3) := by decide +kernel
theorem dX4_sum_34 : decode cX4_sum 34 = .ok (.iload_n 2, 1) := by decide +kernel
theorem dX4_sum_35 : decode cX4_sum 35 = .ok (.ireturn, 1) := by decide +kernel
theorem dX4_take_0 : decode cX4_take 0 = .ok (.iconst 0, 1) := by decide +kernel
theorem dX4_take_1 : decode cX4_take 1 = .ok (.istore_n 1, 1) := by decide +kernel
theorem dX4_take_2 : decode cX4_take 2 = .ok (.iload_n 1, 1) := by decide +kernel
theorem dX4_take_3 : decode cX4_take 3 = .ok (.aload_n 0, 1) := by decide +kernel
theorem dX4_take_4 : decode cX4_take 4 = .ok (.getfield 7, 3) := by decide +kernel
theorem dX4_take_7 : decode cX4_take 7 = .ok (.if_icmp .ge 42, 3) := by decide +kernel
theorem dX4_take_10 : decode cX4_take 10 = .ok (.iconst 0, 1) := by decide +kernel
theorem dX4_take_11 : decode cX4_take 11 = .ok (.istore_n 2, 1) := by decide +kernel
theorem dX4_take_12 : decode cX4_take 12 = .ok (.iload_n 2, 1) := by decide +kernel
theorem dX4_take_13 : decode cX4_take 13 = .ok (.aload_n 0, 1) := by decide +kernel
theorem dX4_take_14 : decode cX4_take 14 = .ok (.getfield 7, 3) := by decide +kernel
theorem dX4_take_17 : decode cX4_take 17 = .ok (.if_icmp .ge 26, 3) := by decide +kernel
theorem dX4_take_20 : decode cX4_take 20 = .ok (.aload_n 0, 1) := by decide +kernel
theorem dX4_take_21 : decode cX4_take 21 = .ok (.getfield 36, 3) := by decide +kernel
theorem dX4_take_24 : decode cX4_take 24 = .ok (.bipush 7, 2) := by decide +kernel
theorem dX4_take_26 : decode cX4_take 26 = .ok (.iload_n 1, 1) := by decide +kernel
theorem dX4_take_27 : decode cX4_take 27 = .ok (.imul, 1) := by decide +kernel
theorem dX4_take_28 : decode cX4_take 28 = .ok (.iload_n 2, 1) := by decide +kernel
theorem dX4_take_29 : decode cX4_take 29 = .ok (.iadd, 1) := by decide +kernel
theorem dX4_take_30 : decode cX4_take 30 = .ok (.aload_n 0, 1) := by decide +kernel
theorem dX4_take_31 : decode cX4_take 31 = .ok (.iload_n 1, 1) := by decide +kernel
theorem dX4_take_32 : decode cX4_take 32 = .ok (.iload_n 2, 1) := by decide +kernel
theorem dX4_take_33 : decode cX4_take 33 = .ok (.invokevirtual 75, 3) := by decide +kernel
theorem dX4_take_36 : decode cX4_take 36 = .ok (.iastore, 1) := by decide +kernel
theorem dX4_take_37 : decode cX4_take 37 = .ok (.iinc 2 1, 3) := by decide +kernel
theorem dX4_take_40 : decode cX4_take 40 = .ok (.goto (-28), 3) := by decide +kernel
theorem dX4_take_43 : decode cX4_take 43 = .ok (.iinc 1 1, 3) := by decide +kernel
theorem dX4_take_46 : decode cX4_take 46 = .ok (.goto (-44), 3) := by decide +kernel
theorem dX4_take_49 : decode cX4_take 49 = .ok (.return_, 1) := by decide +kernel
theorem dX4_look_0 : decode cX4_look 0 = .ok (.aload_n 0, 1) := by decide +kernel
theorem dX4_look_1 : decode cX4_look 1 = .ok (.ldc 79, 2) := by decide +kernel
theorem dX4_look_3 : decode cX4_look 3 = .ok (.putfield 80, 3) := by decide +kernel
theorem dX4_look_6 : decode cX4_look 6 = .ok (.aload_n 0, 1) := by decide +kernel
theorem dX4_look_7 : decode cX4_look 7 = .ok (.iconst 0, 1) := by decide +kernel
theorem dX4_look_8 : decode cX4_look 8 = .ok (.putfield 83, 3) := by decide +kernel
theorem dX4_look_11 : decode cX4_look 11 = .ok (.aload_n 0, 1) := by decide +kernel
theorem dX4_look_12 : decode cX4_look 12 = .ok (.ldc 79, 2) := by decide +kernel
theorem dX4_look_14 : decode cX4_look 14 = .ok (.putfield 86, 3) := by decide +kernel
theorem dX4_look_17 : decode cX4_look 17 = .ok (.aload_n 0, 1) := by decide +kernel
theorem dX4_look_18 : decode cX4_look 18 = .ok (.iconst (-1), 1) := by decide +kernel
theorem dX4_look_19 : decode cX4_look 19 = .ok (.putfield 89, 3) := by decide +kernel
theorem dX4_look_22 : decode cX4_look 22 = .ok (.aload_n 0, 1) := by decide +kernel
theorem dX4_look_23 : decode cX4_look 23 = .ok (.ldc 79, 2) := by decide +kernel
theorem dX4_look_25 : decode cX4_look 25 = .ok (.putfield 92, 3) := by decide +kernel
theorem dX4_look_28 : decode cX4_look 28 = .ok (.iconst 0, 1) := by decide +kernel
theorem dX4_look_29 : decode cX4_look 29 = .ok (.istore_n 2, 1) := by decide +kernel
theorem dX4_look_30 : decode cX4_look 30 = .ok (.iload_n 2, 1) := by decide +kernel
theorem dX4_look_31 : decode cX4_look 31 = .ok (.bipush 49, 2) := by decide +kernel
theorem dX4_look_33 : decode cX4_look 33 = .ok (.if_icmp .ge 17, 3) := by decide +kernel
theorem dX4_look_36 : decode cX4_look 36 = .ok (.aload_n 0, 1) := by decide +kernel
theorem dX4_look_37 : decode cX4_look 37 = .ok (.getfield 39, 3) := by decide +kernel
theorem dX4_look_40 : decode cX4_look 40 = .ok (.iload_n 2, 1) := by decide +kernel
theorem dX4_look_41 : decode cX4_look 41 = .ok (.ldc 79, 2) := by decide +kernel
theorem dX4_look_43 : decode cX4_look 43 = .ok (.iastore, 1) := by decide +kernel
theorem dX4_look_44 : decode cX4_look 44 = .ok (.iinc 2 1, 3) := by decide +kernel
theorem dX4_look_47 : decode cX4_look 47 = .ok (.goto (-17), 3) := by decide +kernel
theorem dX4_look_50 : decode cX4_look 50 = .ok (.aload_n 0, 1) := by decide +kernel
theorem dX4_look_51 : decode cX4_look 51 = .ok (.invokevirtual 95, 3) := by decide +kernel
theorem dX4_look_54 : decode cX4_look 54 = .ok (.iload_n 1, 1) := by decide +kernel
theorem dX4_look_55 : decode cX4_look 55 = .ok (.invokestatic 67, 3) := by decide +kernel
theorem dX4_look_58 : decode cX4_look 58 = .ok (.istore_n 2, 1) := by decide +kernel
theorem dX4_look_59 : decode cX4_look 59 = .ok (.iload_n 2, 1) := by decide +kernel
theorem dX4_look_60 : decode cX4_look 60 = .ok (.ifCond .le 24, 3) := by decide +kernel
theorem dX4_look_63 : decode cX4_look 63 = .ok (.aload_n 0, 1) := by decide +kernel
theorem dX4_look_64 : decode cX4_look 64 = .ok (.iload_n 1, 1) := by decide +kernel
theorem dX4_look_65 : decode cX4_look 65 = .ok (.aload_n 0, 1) := by decide +kernel
theorem dX4_look_66 : decode cX4_look 66 = .ok (.iload_n 1, 1) := by decide +kernel
theorem dX4_look_67 : decode cX4_look 67 = .ok (.invokevirtual 98, 3) := by decide +kernel
theorem dX4_look_70 : decode cX4_look 70 = .ok (.invokevirtual 101, 3) := by decide +kernel
theorem dX4_look_73 : decode cX4_look 73 = .ok (.aload_n 0, 1) := by decide +kernel
theorem dX4_look_74 : decode cX4_look 74 = .ok (.iload_n 1, 1) := by decide +kernel
theorem dX4_look_75 : decode cX4_look 75 = .ok (.invokevirtual 104, 3) := by decide +kernel
theorem dX4_look_78 : decode cX4_look 78 = .ok (.iinc 2 (-1), 3) := by decide +kernel
theorem dX4_look_81 : decode cX4_look 81 = .ok (.goto (-22), 3) := by decide +kernel
theorem dX4_look_84 : decode cX4_look 84 = .ok (.return_, 1) := by decide +kernel
theorem dX4_see_0 : decode cX4_see 0 = .ok (.iconst 0, 1) := by decide +kernel
theorem dX4_see_1 : decode cX4_see 1 = .ok (.istore_n 3, 1) := by decide +kernel
theorem dX4_see_2 : decode cX4_see 2 = .ok (.iconst 0, 1) := by decide +kernel
theorem dX4_see_3 : decode cX4_see 3 = .ok (.istore 4, 2) := by decide +kernel
theorem dX4_see_5 : decode cX4_see 5 = .ok (.iload 4, 2) := by decide +kernel
theorem dX4_see_7 : decode cX4_see 7 = .ok (.iload_n 1, 1) := by decide +kernel
theorem dX4_see_8 : decode cX4_see 8 = .ok (.if_icmp .ge 76, 3) := by decide +kernel
theorem dX4_see_11 : decode cX4_see 11 = .ok (.bipush 7, 2) := by decide +kernel
theorem dX4_see_13 : decode cX4_see 13 = .ok (.iload 4, 2) := by decide +kernel
theorem dX4_see_15 : decode cX4_see 15 = .ok (.imul, 1) := by decide +kernel
theorem dX4_see_16 : decode cX4_see 16 = .ok (.aload_n 0, 1) := by decide +kernel
theorem dX4_see_17 : decode cX4_see 17 = .ok (.getfield 42, 3) := by decide +kernel
theorem dX4_see_20 : decode cX4_see 20 = .ok (.iload 4, 2) := by decide +kernel
theorem dX4_see_22 : decode cX4_see 22 = .ok (.iaload, 1) := by decide +kernel
theorem dX4_see_23 : decode cX4_see 23 = .ok (.iadd, 1) := by decide +kernel
theorem dX4_see_24 : decode cX4_see 24 = .ok (.istore 5, 2) := by decide +kernel
theorem dX4_see_26 : decode cX4_see 26 = .ok (.aload_n 0, 1) := by decide +kernel
theorem dX4_see_27 : decode cX4_see 27 = .ok (.getfield 39, 3) := by decide +kernel
theorem dX4_see_30 : decode cX4_see 30 = .ok (.iload 5, 2) := by decide +kernel
theorem dX4_see_32 : decode cX4_see 32 = .ok (.iload_n 2, 1) := by decide +kernel
theorem dX4_see_33 : decode cX4_see 33 = .ok (.aload_n 0, 1) := by decide +kernel
theorem dX4_see_34 : decode cX4_see 34 = .ok (.getfield 39, 3) := by decide +kernel
theorem dX4_see_37 : decode cX4_see 37 = .ok (.iload 5, 2) := by decide +kernel
theorem dX4_see_39 : decode cX4_see 39 = .ok (.iaload, 1) := by decide +kernel
theorem dX4_see_40 : decode cX4_see 40 = .ok (.if_icmp .ge 7, 3) := by decide +kernel
theorem dX4_see_43 : decode cX4_see 43 = .ok (.iload_n 2, 1) := by decide +kernel
theorem dX4_see_44 : decode cX4_see 44 = .ok (.goto 10, 3) := by decide +kernel
theorem dX4_see_47 : decode cX4_see 47 = .ok (.aload_n 0, 1) := by decide +kernel
theorem dX4_see_48 : decode cX4_see 48 = .ok (.getfield 39, 3) := by decide +kernel
theorem dX4_see_51 : decode cX4_see 51 = .ok (.iload 5, 2) := by decide +kernel
theorem dX4_see_53 : decode cX4_see 53 = .ok (.iaload, 1) := by decide +kernel
theorem dX4_see_54 : decode cX4_see 54 = .ok (.iastore, 1) := by decide +kernel
theorem dX4_see_55 : decode cX4_see 55 = .ok (.aload_n 0, 1) := by decide +kernel
theorem dX4_see_56 : decode cX4_see 56 = .ok (.getfield 36, 3) := by decide +kernel
theorem dX4_see_59 : decode cX4_see 59 = .ok (.iload 5, 2) := by decide +kernel
theorem dX4_see_61 : decode cX4_see 61 = .ok (.iaload, 1) := by decide +kernel
theorem dX4_see_62 : decode cX4_see 62 = .ok (.iload_n 3, 1) := by decide +kernel
theorem dX4_see_63 : decode cX4_see 63 = .ok (.if_icmp .le 13, 3) := by decide +kernel
theorem dX4_see_66 : decode cX4_see 66 = .ok (.aload_n 0, 1) := by decide +kernel
theorem dX4_see_67 : decode cX4_see 67 = .ok (.getfield 36, 3) := by decide +kernel
theorem dX4_see_70 : decode cX4_see 70 = .ok (.iload 5, 2) := by decide +kernel
theorem dX4_see_72 : decode cX4_see 72 = .ok (.iaload, 1) := by decide +kernel
theorem dX4_see_73 : decode cX4_see 73 = .ok (.goto 4, 3) := by decide +kernel
theorem dX4_see_76 : decode cX4_see 76 = .ok (.iload_n 3, 1) := by decide +kernel
theorem dX4_see_77 : decode cX4_see 77 = .ok (.istore_n 3, 1) := by decide +kernel
theorem dX4_see_78 : decode cX4_see 78 = .ok (.iinc 4 1, 3) := by decide +kernel
theorem dX4_see_81 : decode cX4_see 81 = .ok (.goto (-76), 3) := by decide +kernel
theorem dX4_see_84 : decode cX4_see 84 = .ok (.aload_n 0, 1) := by decide +kernel
theorem dX4_see_85 : decode cX4_see 85 = .ok (.iload_n 3, 1) := by decide +kernel
theorem dX4_see_86 : decode cX4_see 86 = .ok (.aload_n 0, 1) := by decide +kernel
theorem dX4_see_87 : decode cX4_see 87 = .ok (.getfield 92, 3) := by decide +kernel
theorem dX4_see_90 : decode cX4_see 90 = .ok (.if_icmp .ge 7, 3) := by decide +kernel
theorem dX4_see_93 : decode cX4_see 93 = .ok (.iload_n 3, 1) := by decide +kernel
theorem dX4_see_94 : decode cX4_see 94 = .ok (.goto 7, 3) := by decide +kernel
theorem dX4_see_97 : decode cX4_see 97 = .ok (.aload_n 0, 1) := by decide +kernel
theorem dX4_see_98 : decode cX4_see 98 = .ok (.getfield 92, 3) := by decide +kernel
theorem dX4_see_101 : decode cX4_see 101 = .ok (.putfield 92, 3) := by decide +kernel
theorem dX4_see_104 : decode cX4_see 104 = .ok (.aload_n 0, 1) := by decide +kernel
theorem dX4_see_105 : decode cX4_see 105 = .ok (.iload_n 2, 1) := by decide +kernel
theorem dX4_see_106 : decode cX4_see 106 = .ok (.sipush 1000, 3) := by decide +kernel
theorem dX4_see_109 : decode cX4_see 109 = .ok (.if_icmp .ge 15, 3) := by decide +kernel
theorem dX4_see_112 : decode cX4_see 112 = .ok (.iload_n 2, 1) := by decide +kernel
theorem dX4_see_113 : decode cX4_see 113 = .ok (.aload_n 0, 1) := by decide +kernel
theorem dX4_see_114 : decode cX4_see 114 = .ok (.getfield 89, 3) := by decide +kernel
theorem dX4_see_117 : decode cX4_see 117 = .ok (.if_icmp .le 7, 3) := by decide +kernel
theorem dX4_see_120 : decode cX4_see 120 = .ok (.iload_n 2, 1) := by decide +kernel
theorem dX4_see_121 : decode cX4_see 121 = .ok (.goto 7, 3) := by decide +kernel
theorem dX4_see_124 : decode cX4_see 124 = .ok (.aload_n 0, 1) := by decide +kernel
theorem dX4_see_125 : decode cX4_see 125 = .ok (.getfield 89, 3) := by decide +kernel
theorem dX4_see_128 : decode cX4_see 128 = .ok (.putfield 89, 3) := by decide +kernel
theorem dX4_see_131 : decode cX4_see 131 = .ok (.iload_n 2, 1) := by decide +kernel
theorem dX4_see_132 : decode cX4_see 132 = .ok (.aload_n 0, 1) := by decide +kernel
theorem dX4_see_133 : decode cX4_see 133 = .ok (.getfield 80, 3) := by decide +kernel
theorem dX4_see_136 : decode cX4_see 136 = .ok (.if_icmp .ge 53, 3) := by decide +kernel
theorem dX4_see_139 : decode cX4_see 139 = .ok (.aload_n 0, 1) := by decide +kernel
theorem dX4_see_140 : decode cX4_see 140 = .ok (.aload_n 0, 1) := by decide +kernel
theorem dX4_see_141 : decode cX4_see 141 = .ok (.getfield 80, 3) := by decide +kernel
theorem dX4_see_144 : decode cX4_see 144 = .ok (.putfield 86, 3) := by decide +kernel
theorem dX4_see_147 : decode cX4_see 147 = .ok (.aload_n 0, 1) := by decide +kernel
theorem dX4_see_148 : decode cX4_see 148 = .ok (.iload_n 2, 1) := by decide +kernel
theorem dX4_see_149 : decode cX4_see 149 = .ok (.putfield 80, 3) := by decide +kernel
theorem dX4_see_152 : decode cX4_see 152 = .ok (.aload_n 0, 1) := by decide +kernel
theorem dX4_see_153 : decode cX4_see 153 = .ok (.iconst 1, 1) := by decide +kernel
theorem dX4_see_154 : decode cX4_see 154 = .ok (.putfield 83, 3) := by decide +kernel
theorem dX4_see_157 : decode cX4_see 157 = .ok (.iconst 0, 1) := by decide +kernel
theorem dX4_see_158 : decode cX4_see 158 = .ok (.istore 4, 2) := by decide +kernel
theorem dX4_see_160 : decode cX4_see 160 = .ok (.iload 4, 2) := by decide +kernel
theorem dX4_see_162 : decode cX4_see 162 = .ok (.iload_n 1, 1) := by decide +kernel
theorem dX4_see_163 : decode cX4_see 163 = .ok (.if_icmp .ge 23, 3) := by decide +kernel
theorem dX4_see_166 : decode cX4_see 166 = .ok (.aload_n 0, 1) := by decide +kernel
theorem dX4_see_167 : decode cX4_see 167 = .ok (.getfield 45, 3) := by decide +kernel
theorem dX4_see_170 : decode cX4_see 170 = .ok (.iload 4, 2) := by decide +kernel
theorem dX4_see_172 : decode cX4_see 172 = .ok (.aload_n 0, 1) := by decide +kernel
theorem dX4_see_173 : decode cX4_see 173 = .ok (.getfield 42, 3) := by decide +kernel
theorem dX4_see_176 : decode cX4_see 176 = .ok (.iload 4, 2) := by decide +kernel
theorem dX4_see_178 : decode cX4_see 178 = .ok (.iaload, 1) := by decide +kernel
theorem dX4_see_179 : decode cX4_see 179 = .ok (.iastore, 1) := by decide +kernel
theorem dX4_see_180 : decode cX4_see 180 = .ok (.iinc 4 1, 3) := by decide +kernel
theorem dX4_see_183 : decode cX4_see 183 = .ok (.goto (-23), 3) := by decide +kernel
theorem dX4_see_186 : decode cX4_see 186 = .ok (.goto 45, 3) := by decide +kernel
theorem dX4_see_189 : decode cX4_see 189 = .ok (.aload_n 0, 1) := by decide +kernel
theorem dX4_see_190 : decode cX4_see 190 = .ok (.iload_n 2, 1) := by decide +kernel
theorem dX4_see_191 : decode cX4_see 191 = .ok (.aload_n 0, 1) := by decide +kernel
theorem dX4_see_192 : decode cX4_see 192 = .ok (.getfield 86, 3) := by decide +kernel
theorem dX4_see_195 : decode cX4_see 195 = .ok (.if_icmp .ge 7, 3) := by decide +kernel
theorem dX4_see_198 : decode cX4_see 198 = .ok (.iload_n 2, 1) := by decide +kernel
theorem dX4_see_199 : decode cX4_see 199 = .ok (.goto 7, 3) := by decide +kernel
theorem dX4_see_202 : decode cX4_see 202 = .ok (.aload_n 0, 1) := by decide +kernel
theorem dX4_see_203 : decode cX4_see 203 = .ok (.getfield 86, 3) := by decide +kernel
theorem dX4_see_206 : decode cX4_see 206 = .ok (.putfield 86, 3) := by decide +kernel
theorem dX4_see_209 : decode cX4_see 209 = .ok (.aload_n 0, 1) := by decide +kernel
theorem dX4_see_210 : decode cX4_see 210 = .ok (.dup, 1) := by decide +kernel
theorem dX4_see_211 : decode cX4_see 211 = .ok (.getfield 83, 3) := by decide +kernel
theorem dX4_see_214 : decode cX4_see 214 = .ok (.iload_n 2, 1) := by decide +kernel
theorem dX4_see_215 : decode cX4_see 215 = .ok (.aload_n 0, 1) := by decide +kernel
theorem dX4_see_216 : decode cX4_see 216 = .ok (.getfield 80, 3) := by decide +kernel
theorem dX4_see_219 : decode cX4_see 219 = .ok (.if_icmp .ne 7, 3) := by decide +kernel
theorem dX4_see_222 : decode cX4_see 222 = .ok (.iconst 1, 1) := by decide +kernel
theorem dX4_see_223 : decode cX4_see 223 = .ok (.goto 4, 3) := by decide +kernel
theorem dX4_see_226 : decode cX4_see 226 = .ok (.iconst 0, 1) := by decide +kernel
theorem dX4_see_227 : decode cX4_see 227 = .ok (.iadd, 1) := by decide +kernel
theorem dX4_see_228 : decode cX4_see 228 = .ok (.putfield 83, 3) := by decide +kernel
theorem dX4_see_231 : decode cX4_see 231 = .ok (.return_, 1) := by decide +kernel
theorem dX4_look__0 : decode cX4_look_ 0 = .ok (.aload_n 0, 1) := by decide +kernel
theorem dX4_look__1 : decode cX4_look_ 1 = .ok (.invokevirtual 108, 3) := by decide +kernel
theorem dX4_look__4 : decode cX4_look_ 4 = .ok (.aload_n 0, 1) := by decide +kernel
theorem dX4_look__5 : decode cX4_look_ 5 = .ok (.aload_n 0, 1) := by decide +kernel
theorem dX4_look__6 : decode cX4_look_ 6 = .ok (.getfield 7, 3) := by decide +kernel
theorem dX4_look__9 : decode cX4_look_ 9 = .ok (.invokevirtual 111, 3) := by decide +kernel
theorem dX4_look__12 : decode cX4_look_ 12 = .ok (.return_, 1) := by decide +kernel
theorem dX4_without_0 : decode cX4_without 0 = .ok (.ldc 79, 2) := by decide +kernel
theorem dX4_without_2 : decode cX4_without 2 = .ok (.istore_n 3, 1) := by decide +kernel
theorem dX4_without_3 : decode cX4_without 3 = .ok (.iconst 0, 1) := by decide +kernel
theorem dX4_without_4 : decode cX4_without 4 = .ok (.istore 4, 2) := by decide +kernel
theorem dX4_without_6 : decode cX4_without 6 = .ok (.iload 4, 2) := by decide +kernel
theorem dX4_without_8 : decode cX4_without 8 = .ok (.aload_n 0, 1) := by decide +kernel
theorem dX4_without_9 : decode cX4_without 9 = .ok (.getfield 7, 3) := by decide +kernel
theorem dX4_without_12 : decode cX4_without 12 = .ok (.if_icmp .ge 48, 3) := by decide +kernel
theorem dX4_without_15 : decode cX4_without 15 = .ok (.iload 4, 2) := by decide +kernel
theorem dX4_without_17 : decode cX4_without 17 = .ok (.iload_n 2, 1) := by decide +kernel
theorem dX4_without_18 : decode cX4_without 18 = .ok (.if_icmp .eq 34, 3) := by decide +kernel
theorem dX4_without_21 : decode cX4_without 21 = .ok (.aload_n 0, 1) := by decide +kernel
theorem dX4_without_22 : decode cX4_without 22 = .ok (.getfield 39, 3) := by decide +kernel
theorem dX4_without_25 : decode cX4_without 25 = .ok (.bipush 7, 2) := by decide +kernel
theorem dX4_without_27 : decode cX4_without 27 = .ok (.iload_n 1, 1) := by decide +kernel
theorem dX4_without_28 : decode cX4_without 28 = .ok (.imul, 1) := by decide +kernel
theorem dX4_without_29 : decode cX4_without 29 = .ok (.iload 4, 2) := by decide +kernel
theorem dX4_without_31 : decode cX4_without 31 = .ok (.iadd, 1) := by decide +kernel
theorem dX4_without_32 : decode cX4_without 32 = .ok (.iaload, 1) := by decide +kernel
theorem dX4_without_33 : decode cX4_without 33 = .ok (.iload_n 3, 1) := by decide +kernel
theorem dX4_without_34 : decode cX4_without 34 = .ok (.if_icmp .ge 18, 3) := by decide +kernel
theorem dX4_without_37 : decode cX4_without 37 = .ok (.aload_n 0, 1) := by decide +kernel
theorem dX4_without_38 : decode cX4_without 38 = .ok (.getfield 39, 3) := by decide +kernel
theorem dX4_without_41 : decode cX4_without 41 = .ok (.bipush 7, 2) := by decide +kernel
theorem dX4_without_43 : decode cX4_without 43 = .ok (.iload_n 1, 1) := by decide +kernel
theorem dX4_without_44 : decode cX4_without 44 = .ok (.imul, 1) := by decide +kernel
theorem dX4_without_45 : decode cX4_without 45 = .ok (.iload 4, 2) := by decide +kernel
theorem dX4_without_47 : decode cX4_without 47 = .ok (.iadd, 1) := by decide +kernel
theorem dX4_without_48 : decode cX4_without 48 = .ok (.iaload, 1) := by decide +kernel
theorem dX4_without_49 : decode cX4_without 49 = .ok (.goto 4, 3) := by decide +kernel
theorem dX4_without_52 : decode cX4_without 52 = .ok (.iload_n 3, 1) := by decide +kernel
theorem dX4_without_53 : decode cX4_without 53 = .ok (.istore_n 3, 1) := by decide +kernel
theorem dX4_without_54 : decode cX4_without 54 = .ok (.iinc 4 1, 3) := by decide +kernel
theorem dX4_without_57 : decode cX4_without 57 = .ok (.goto (-51), 3) := by decide +kernel
theorem dX4_without_60 : decode cX4_without 60 = .ok (.iload_n 3, 1) := by decide +kernel
theorem dX4_without_61 : decode cX4_without 61 = .ok (.ireturn, 1) := by decide +kernel
theorem dX4_findPotentials_0 : decode cX4_findPotentials 0 = .ok (.aload_n 0, 1) := by decide +kernel
theorem dX4_findPotentials_1 : decode cX4_findPotentials 1 = .ok (.invokevirtual 114, 3) := by decide +kernel
theorem dX4_findPotentials_4 : decode cX4_findPotentials 4 = .ok (.iconst 0, 1) := by decide +kernel
theorem dX4_findPotentials_5 : decode cX4_findPotentials 5 = .ok (.istore_n 1, 1) := by decide +kernel
theorem dX4_findPotentials_6 : decode cX4_findPotentials 6 = .ok (.iload_n 1, 1) := by decide +kernel
theorem dX4_findPotentials_7 : decode cX4_findPotentials 7 = .ok (.aload_n 0, 1) := by decide +kernel
theorem dX4_findPotentials_8 : decode cX4_findPotentials 8 = .ok (.getfield 7, 3) := by decide +kernel
theorem dX4_findPotentials_11 : decode cX4_findPotentials 11 = .ok (.if_icmp .ge 39, 3) := by decide +kernel
theorem dX4_findPotentials_14 : decode cX4_findPotentials 14 = .ok (.aload_n 0, 1) := by decide +kernel
theorem dX4_findPotentials_15 : decode cX4_findPotentials 15 = .ok (.getfield 54, 3) := by decide +kernel
theorem dX4_findPotentials_18 : decode cX4_findPotentials 18 = .ok (.iload_n 1, 1) := by decide +kernel
theorem dX4_findPotentials_19 : decode cX4_findPotentials 19 = .ok (.aload_n 0, 1) := by decide +kernel
theorem dX4_findPotentials_20 : decode cX4_findPotentials 20 = .ok (.getfield 80, 3) := by decide +kernel
theorem dX4_findPotentials_23 : decode cX4_findPotentials 23 = .ok (.aload_n 0, 1) := by decide +kernel
theorem dX4_findPotentials_24 : decode cX4_findPotentials 24 = .ok (.getfield 39, 3) := by decide +kernel
theorem dX4_findPotentials_27 : decode cX4_findPotentials 27 = .ok (.bipush 7, 2) := by decide +kernel
theorem dX4_findPotentials_29 : decode cX4_findPotentials 29 = .ok (.iload_n 1, 1) := by decide +kernel
theorem dX4_findPotentials_30 : decode cX4_findPotentials 30 = .ok (.imul, 1) := by decide +kernel
theorem dX4_findPotentials_31 : decode cX4_findPotentials 31 = .ok (.iaload, 1) := by decide +kernel
theorem dX4_findPotentials_32 : decode cX4_findPotentials 32 = .ok (.aload_n 0, 1) := by decide +kernel
theorem dX4_findPotentials_33 : decode cX4_findPotentials 33 = .ok (.getfield 36, 3) := by decide +kernel
theorem dX4_findPotentials_36 : decode cX4_findPotentials 36 = .ok (.bipush 7, 2) := by decide +kernel
theorem dX4_findPotentials_38 : decode cX4_findPotentials 38 = .ok (.iload_n 1, 1) := by decide +kernel
theorem dX4_findPotentials_39 : decode cX4_findPotentials 39 = .ok (.imul, 1) := by decide +kernel
theorem dX4_findPotentials_40 : decode cX4_findPotentials 40 = .ok (.iaload, 1) := by decide +kernel
theorem dX4_findPotentials_41 : decode cX4_findPotentials 41 = .ok (.isub, 1) := by decide +kernel
theorem dX4_findPotentials_42 : decode cX4_findPotentials 42 = .ok (.isub, 1) := by decide +kernel
theorem dX4_findPotentials_43 : decode cX4_findPotentials 43 = .ok (.iastore, 1) := by decide +kernel
theorem dX4_findPotentials_44 : decode cX4_findPotentials 44 = .ok (.iinc 1 1, 3) := by decide +kernel
theorem dX4_findPotentials_47 : decode cX4_findPotentials 47 = .ok (.goto (-41), 3) := by decide +kernel
theorem dX4_findPotentials_50 : decode cX4_findPotentials 50 = .ok (.iconst 0, 1) := by decide +kernel
theorem dX4_findPotentials_51 : decode cX4_findPotentials 51 = .ok (.istore_n 1, 1) := by decide +kernel
theorem dX4_findPotentials_52 : decode cX4_findPotentials 52 = .ok (.iload_n 1, 1) := by decide +kernel
theorem dX4_findPotentials_53 : decode cX4_findPotentials 53 = .ok (.aload_n 0, 1) := by decide +kernel
theorem dX4_findPotentials_54 : decode cX4_findPotentials 54 = .ok (.getfield 7, 3) := by decide +kernel
theorem dX4_findPotentials_57 : decode cX4_findPotentials 57 = .ok (.if_icmp .ge 78, 3) := by decide +kernel
theorem dX4_findPotentials_60 : decode cX4_findPotentials 60 = .ok (.aload_n 0, 1) := by decide +kernel
theorem dX4_findPotentials_61 : decode cX4_findPotentials 61 = .ok (.getfield 57, 3) := by decide +kernel
theorem dX4_findPotentials_64 : decode cX4_findPotentials 64 = .ok (.iload_n 1, 1) := by decide +kernel
theorem dX4_findPotentials_65 : decode cX4_findPotentials 65 = .ok (.ldc 79, 2) := by decide +kernel
theorem dX4_findPotentials_67 : decode cX4_findPotentials 67 = .ok (.iastore, 1) := by decide +kernel
theorem dX4_findPotentials_68 : decode cX4_findPotentials 68 = .ok (.iconst 0, 1) := by decide +kernel
theorem dX4_findPotentials_69 : decode cX4_findPotentials 69 = .ok (.istore_n 2, 1) := by decide +kernel
theorem dX4_findPotentials_70 : decode cX4_findPotentials 70 = .ok (.iload_n 2, 1) := by decide +kernel
theorem dX4_findPotentials_71 : decode cX4_findPotentials 71 = .ok (.aload_n 0, 1) := by decide +kernel
theorem dX4_findPotentials_72 : decode cX4_findPotentials 72 = .ok (.getfield 7, 3) := by decide +kernel
theorem dX4_findPotentials_75 : decode cX4_findPotentials 75 = .ok (.if_icmp .ge 54, 3) := by decide +kernel
theorem dX4_findPotentials_78 : decode cX4_findPotentials 78 = .ok (.aload_n 0, 1) := by decide +kernel
theorem dX4_findPotentials_79 : decode cX4_findPotentials 79 = .ok (.getfield 36, 3) := by decide +kernel
theorem dX4_findPotentials_82 : decode cX4_findPotentials 82 = .ok (.bipush 7, 2) := by decide +kernel
theorem dX4_findPotentials_84 : decode cX4_findPotentials 84 = .ok (.iload_n 2, 1) := by decide +kernel
theorem dX4_findPotentials_85 : decode cX4_findPotentials 85 = .ok (.imul, 1) := by decide +kernel
theorem dX4_findPotentials_86 : decode cX4_findPotentials 86 = .ok (.iload_n 1, 1) := by decide +kernel
theorem dX4_findPotentials_87 : decode cX4_findPotentials 87 = .ok (.iadd, 1) := by decide +kernel
theorem dX4_findPotentials_88 : decode cX4_findPotentials 88 = .ok (.iaload, 1) := by decide +kernel
theorem dX4_findPotentials_89 : decode cX4_findPotentials 89 = .ok (.aload_n 0, 1) := by decide +kernel
theorem dX4_findPotentials_90 : decode cX4_findPotentials 90 = .ok (.getfield 54, 3) := by decide +kernel
theorem dX4_findPotentials_93 : decode cX4_findPotentials 93 = .ok (.iload_n 2, 1) := by decide +kernel
theorem dX4_findPotentials_94 : decode cX4_findPotentials 94 = .ok (.iaload, 1) := by decide +kernel
theorem dX4_findPotentials_95 : decode cX4_findPotentials 95 = .ok (.isub, 1) := by decide +kernel
theorem dX4_findPotentials_96 : decode cX4_findPotentials 96 = .ok (.istore_n 3, 1) := by decide +kernel
theorem dX4_findPotentials_97 : decode cX4_findPotentials 97 = .ok (.aload_n 0, 1) := by decide +kernel
theorem dX4_findPotentials_98 : decode cX4_findPotentials 98 = .ok (.getfield 57, 3) := by decide +kernel
theorem dX4_findPotentials_101 : decode cX4_findPotentials 101 = .ok (.iload_n 1, 1) := by decide +kernel
theorem dX4_findPotentials_102 : decode cX4_findPotentials 102 = .ok (.iload_n 3, 1) := by decide +kernel
theorem dX4_findPotentials_103 : decode cX4_findPotentials 103 = .ok (.aload_n 0, 1) := by decide +kernel
theorem dX4_findPotentials_104 : decode cX4_findPotentials 104 = .ok (.getfield 57, 3) := by decide +kernel
theorem dX4_findPotentials_107 : decode cX4_findPotentials 107 = .ok (.iload_n 1, 1) := by decide +kernel
theorem dX4_findPotentials_108 : decode cX4_findPotentials 108 = .ok (.iaload, 1) := by decide +kernel
theorem dX4_findPotentials_109 : decode cX4_findPotentials 109 = .ok (.if_icmp .ge 7, 3) := by decide +kernel
theorem dX4_findPotentials_112 : decode cX4_findPotentials 112 = .ok (.iload_n 3, 1) := by decide +kernel
theorem dX4_findPotentials_113 : decode cX4_findPotentials 113 = .ok (.goto 9, 3) := by decide +kernel
theorem dX4_findPotentials_116 : decode cX4_findPotentials 116 = .ok (.aload_n 0, 1) := by decide +kernel
theorem dX4_findPotentials_117 : decode cX4_findPotentials 117 = .ok (.getfield 57, 3) := by decide +kernel
theorem dX4_findPotentials_120 : decode cX4_findPotentials 120 = .ok (.iload_n 1, 1) := by decide +kernel
theorem dX4_findPotentials_121 : decode cX4_findPotentials 121 = .ok (.iaload, 1) := by decide +kernel
theorem dX4_findPotentials_122 : decode cX4_findPotentials 122 = .ok (.iastore, 1) := by decide +kernel
theorem dX4_findPotentials_123 : decode cX4_findPotentials 123 = .ok (.iinc 2 1, 3) := by decide +kernel
theorem dX4_findPotentials_126 : decode cX4_findPotentials 126 = .ok (.goto (-56), 3) := by decide +kernel
theorem dX4_findPotentials_129 : decode cX4_findPotentials 129 = .ok (.iinc 1 1, 3) := by decide +kernel
theorem dX4_findPotentials_132 : decode cX4_findPotentials 132 = .ok (.goto (-80), 3) := by decide +kernel
theorem dX4_findPotentials_135 : decode cX4_findPotentials 135 = .ok (.return_, 1) := by decide +kernel
theorem dX4_reduced_0 : decode cX4_reduced 0 = .ok (.aload_n 0, 1) := by decide +kernel
theorem dX4_reduced_1 : decode cX4_reduced 1 = .ok (.getfield 36, 3) := by decide +kernel
theorem dX4_reduced_4 : decode cX4_reduced 4 = .ok (.bipush 7, 2) := by decide +kernel
theorem dX4_reduced_6 : decode cX4_reduced 6 = .ok (.iload_n 1, 1) := by decide +kernel
theorem dX4_reduced_7 : decode cX4_reduced 7 = .ok (.imul, 1) := by decide +kernel
theorem dX4_reduced_8 : decode cX4_reduced 8 = .ok (.iload_n 2, 1) := by decide +kernel
theorem dX4_reduced_9 : decode cX4_reduced 9 = .ok (.iadd, 1) := by decide +kernel
theorem dX4_reduced_10 : decode cX4_reduced 10 = .ok (.iaload, 1) := by decide +kernel
theorem dX4_reduced_11 : decode cX4_reduced 11 = .ok (.aload_n 0, 1) := by decide +kernel
theorem dX4_reduced_12 : decode cX4_reduced 12 = .ok (.getfield 54, 3) := by decide +kernel
theorem dX4_reduced_15 : decode cX4_reduced 15 = .ok (.iload_n 1, 1) := by decide +kernel
theorem dX4_reduced_16 : decode cX4_reduced 16 = .ok (.iaload, 1) := by decide +kernel
theorem dX4_reduced_17 : decode cX4_reduced 17 = .ok (.isub, 1) := by decide +kernel
theorem dX4_reduced_18 : decode cX4_reduced 18 = .ok (.aload_n 0, 1) := by decide +kernel
theorem dX4_reduced_19 : decode cX4_reduced 19 = .ok (.getfield 57, 3) := by decide +kernel
theorem dX4_reduced_22 : decode cX4_reduced 22 = .ok (.iload_n 2, 1) := by decide +kernel
theorem dX4_reduced_23 : decode cX4_reduced 23 = .ok (.iaload, 1) := by decide +kernel
theorem dX4_reduced_24 : decode cX4_reduced 24 = .ok (.isub, 1) := by decide +kernel
theorem dX4_reduced_25 : decode cX4_reduced 25 = .ok (.ireturn, 1) := by decide +kernel
theorem dX4_resize_0 : decode cX4_resize 0 = .ok (.aload_n 0, 1) := by decide +kernel
theorem dX4_resize_1 : decode cX4_resize 1 = .ok (.iload_n 1, 1) := by decide +kernel
theorem dX4_resize_2 : decode cX4_resize 2 = .ok (.i2l, 1) := by decide +kernel
theorem dX4_resize_3 : decode cX4_resize 3 = .ok (.lconst 1, 1) := by decide +kernel
theorem dX4_resize_4 : decode cX4_resize 4 = .ok (.ldc2_w 116, 3) := by decide +kernel
theorem dX4_resize_7 : decode cX4_resize 7 = .ok (.invokestatic 63, 3) := by decide +kernel
theorem dX4_resize_10 : decode cX4_resize 10 = .ok (.ifCond .eq 14, 3) := by decide +kernel
theorem dX4_resize_13 : decode cX4_resize 13 = .ok (.iload_n 2, 1) := by decide +kernel
theorem dX4_resize_14 : decode cX4_resize 14 = .ok (.i2l, 1) := by decide +kernel
theorem dX4_resize_15 : decode cX4_resize 15 = .ok (.lconst 1, 1) := by decide +kernel
theorem dX4_resize_16 : decode cX4_resize 16 = .ok (.iload_n 1, 1) := by decide +kernel
theorem dX4_resize_17 : decode cX4_resize 17 = .ok (.i2l, 1) := by decide +kernel
theorem dX4_resize_18 : decode cX4_resize 18 = .ok (.invokestatic 63, 3) := by decide +kernel
theorem dX4_resize_21 : decode cX4_resize 21 = .ok (.ifCond .ne 7, 3) := by decide +kernel
theorem dX4_resize_24 : decode cX4_resize 24 = .ok (.iconst 1, 1) := by decide +kernel
theorem dX4_resize_25 : decode cX4_resize 25 = .ok (.goto 4, 3) := by decide +kernel
theorem dX4_resize_28 : decode cX4_resize 28 = .ok (.iconst 0, 1) := by decide +kernel
theorem dX4_resize_29 : decode cX4_resize 29 = .ok (.invokevirtual 118, 3) := by decide +kernel
theorem dX4_resize_32 : decode cX4_resize 32 = .ok (.ifCond .eq 5, 3) := by decide +kernel
theorem dX4_resize_35 : decode cX4_resize 35 = .ok (.iconst 0, 1) := by decide +kernel
theorem dX4_resize_36 : decode cX4_resize 36 = .ok (.ireturn, 1) := by decide +kernel
theorem dX4_resize_37 : decode cX4_resize 37 = .ok (.aload_n 0, 1) := by decide +kernel
theorem dX4_resize_38 : decode cX4_resize 38 = .ok (.iload_n 1, 1) := by decide +kernel
theorem dX4_resize_39 : decode cX4_resize 39 = .ok (.putfield 7, 3) := by decide +kernel
theorem dX4_resize_42 : decode cX4_resize 42 = .ok (.aload_n 0, 1) := by decide +kernel
theorem dX4_resize_43 : decode cX4_resize 43 = .ok (.iload_n 2, 1) := by decide +kernel
theorem dX4_resize_44 : decode cX4_resize 44 = .ok (.putfield 13, 3) := by decide +kernel
theorem dX4_resize_47 : decode cX4_resize 47 = .ok (.iconst 0, 1) := by decide +kernel
theorem dX4_resize_48 : decode cX4_resize 48 = .ok (.istore_n 3, 1) := by decide +kernel
theorem dX4_resize_49 : decode cX4_resize 49 = .ok (.iload_n 3, 1) := by decide +kernel
theorem dX4_resize_50 : decode cX4_resize 50 = .ok (.bipush 49, 2) := by decide +kernel
theorem dX4_resize_52 : decode cX4_resize 52 = .ok (.if_icmp .ge 23, 3) := by decide +kernel
theorem dX4_resize_55 : decode cX4_resize 55 = .ok (.aload_n 0, 1) := by decide +kernel
theorem dX4_resize_56 : decode cX4_resize 56 = .ok (.getfield 22, 3) := by decide +kernel
theorem dX4_resize_59 : decode cX4_resize 59 = .ok (.iload_n 3, 1) := by decide +kernel
theorem dX4_resize_60 : decode cX4_resize 60 = .ok (.iconst 0, 1) := by decide +kernel
theorem dX4_resize_61 : decode cX4_resize 61 = .ok (.iastore, 1) := by decide +kernel
theorem dX4_resize_62 : decode cX4_resize 62 = .ok (.aload_n 0, 1) := by decide +kernel
theorem dX4_resize_63 : decode cX4_resize 63 = .ok (.getfield 29, 3) := by decide +kernel
theorem dX4_resize_66 : decode cX4_resize 66 = .ok (.iload_n 3, 1) := by decide +kernel
theorem dX4_resize_67 : decode cX4_resize 67 = .ok (.iconst 0, 1) := by decide +kernel
theorem dX4_resize_68 : decode cX4_resize 68 = .ok (.bastore, 1) := by decide +kernel
theorem dX4_resize_69 : decode cX4_resize 69 = .ok (.iinc 3 1, 3) := by decide +kernel
theorem dX4_resize_72 : decode cX4_resize 72 = .ok (.goto (-23), 3) := by decide +kernel
theorem dX4_resize_75 : decode cX4_resize 75 = .ok (.aload_n 0, 1) := by decide +kernel
theorem dX4_resize_76 : decode cX4_resize 76 = .ok (.iconst (-1), 1) := by decide +kernel
theorem dX4_resize_77 : decode cX4_resize 77 = .ok (.putfield 48, 3) := by decide +kernel
theorem dX4_resize_80 : decode cX4_resize 80 = .ok (.aload_n 0, 1) := by decide +kernel
theorem dX4_resize_81 : decode cX4_resize 81 = .ok (.getfield 7, 3) := by decide +kernel
theorem dX4_resize_84 : decode cX4_resize 84 = .ok (.aload_n 0, 1) := by decide +kernel
theorem dX4_resize_85 : decode cX4_resize 85 = .ok (.getfield 13, 3) := by decide +kernel
theorem dX4_resize_88 : decode cX4_resize 88 = .ok (.imul, 1) := by decide +kernel
theorem dX4_resize_89 : decode cX4_resize 89 = .ok (.ireturn, 1) := by decide +kernel
theorem dX4_setCost_0 : decode cX4_setCost 0 = .ok (.aload_n 0, 1) := by decide +kernel
theorem dX4_setCost_1 : decode cX4_setCost 1 = .ok (.aload_n 0, 1) := by decide +kernel
theorem dX4_setCost_2 : decode cX4_setCost 2 = .ok (.iload_n 1, 1) := by decide +kernel
theorem dX4_setCost_3 : decode cX4_setCost 3 = .ok (.invokevirtual 122, 3) := by decide +kernel
theorem dX4_setCost_6 : decode cX4_setCost 6 = .ok (.ifCond .eq 11, 3) := by decide +kernel
theorem dX4_setCost_9 : decode cX4_setCost 9 = .ok (.aload_n 0, 1) := by decide +kernel
theorem dX4_setCost_10 : decode cX4_setCost 10 = .ok (.iload_n 2, 1) := by decide +kernel
theorem dX4_setCost_11 : decode cX4_setCost 11 = .ok (.invokevirtual 125, 3) := by decide +kernel
theorem dX4_setCost_14 : decode cX4_setCost 14 = .ok (.ifCond .ne 7, 3) := by decide +kernel
theorem dX4_setCost_17 : decode cX4_setCost 17 = .ok (.iconst 1, 1) := by decide +kernel
theorem dX4_setCost_18 : decode cX4_setCost 18 = .ok (.goto 20, 3) := by decide +kernel
theorem dX4_setCost_21 : decode cX4_setCost 21 = .ok (.iload_n 3, 1) := by decide +kernel
theorem dX4_setCost_22 : decode cX4_setCost 22 = .ok (.i2l, 1) := by decide +kernel
theorem dX4_setCost_23 : decode cX4_setCost 23 = .ok (.lconst 0, 1) := by decide +kernel
theorem dX4_setCost_24 : decode cX4_setCost 24 = .ok (.ldc2_w 128, 3) := by decide +kernel
theorem dX4_setCost_27 : decode cX4_setCost 27 = .ok (.invokestatic 63, 3) := by decide +kernel
theorem dX4_setCost_30 : decode cX4_setCost 30 = .ok (.ifCond .ne 7, 3) := by decide +kernel
theorem dX4_setCost_33 : decode cX4_setCost 33 = .ok (.iconst 2, 1) := by decide +kernel
theorem dX4_setCost_34 : decode cX4_setCost 34 = .ok (.goto 4, 3) := by decide +kernel
theorem dX4_setCost_37 : decode cX4_setCost 37 = .ok (.iconst 0, 1) := by decide +kernel
theorem dX4_setCost_38 : decode cX4_setCost 38 = .ok (.invokevirtual 118, 3) := by decide +kernel
theorem dX4_setCost_41 : decode cX4_setCost 41 = .ok (.ifCond .eq 5, 3) := by decide +kernel
theorem dX4_setCost_44 : decode cX4_setCost 44 = .ok (.iconst 0, 1) := by decide +kernel
theorem dX4_setCost_45 : decode cX4_setCost 45 = .ok (.ireturn, 1) := by decide +kernel
theorem dX4_setCost_46 : decode cX4_setCost 46 = .ok (.aload_n 0, 1) := by decide +kernel
theorem dX4_setCost_47 : decode cX4_setCost 47 = .ok (.getfield 22, 3) := by decide +kernel
theorem dX4_setCost_50 : decode cX4_setCost 50 = .ok (.bipush 7, 2) := by decide +kernel
theorem dX4_setCost_52 : decode cX4_setCost 52 = .ok (.iload_n 1, 1) := by decide +kernel
theorem dX4_setCost_53 : decode cX4_setCost 53 = .ok (.imul, 1) := by decide +kernel
theorem dX4_setCost_54 : decode cX4_setCost 54 = .ok (.iload_n 2, 1) := by decide +kernel
theorem dX4_setCost_55 : decode cX4_setCost 55 = .ok (.iadd, 1) := by decide +kernel
theorem dX4_setCost_56 : decode cX4_setCost 56 = .ok (.iaload, 1) := by decide +kernel
theorem dX4_setCost_57 : decode cX4_setCost 57 = .ok (.istore 4, 2) := by decide +kernel
theorem dX4_setCost_59 : decode cX4_setCost 59 = .ok (.aload_n 0, 1) := by decide +kernel
theorem dX4_setCost_60 : decode cX4_setCost 60 = .ok (.getfield 22, 3) := by decide +kernel
theorem dX4_setCost_63 : decode cX4_setCost 63 = .ok (.bipush 7, 2) := by decide +kernel
theorem dX4_setCost_65 : decode cX4_setCost 65 = .ok (.iload_n 1, 1) := by decide +kernel
theorem dX4_setCost_66 : decode cX4_setCost 66 = .ok (.imul, 1) := by decide +kernel
theorem dX4_setCost_67 : decode cX4_setCost 67 = .ok (.iload_n 2, 1) := by decide +kernel
theorem dX4_setCost_68 : decode cX4_setCost 68 = .ok (.iadd, 1) := by decide +kernel
theorem dX4_setCost_69 : decode cX4_setCost 69 = .ok (.iload_n 3, 1) := by decide +kernel
theorem dX4_setCost_70 : decode cX4_setCost 70 = .ok (.iastore, 1) := by decide +kernel
theorem dX4_setCost_71 : decode cX4_setCost 71 = .ok (.aload_n 0, 1) := by decide +kernel
theorem dX4_setCost_72 : decode cX4_setCost 72 = .ok (.iconst (-1), 1) := by decide +kernel
theorem dX4_setCost_73 : decode cX4_setCost 73 = .ok (.putfield 48, 3) := by decide +kernel
theorem dX4_setCost_76 : decode cX4_setCost 76 = .ok (.iload 4, 2) := by decide +kernel
theorem dX4_setCost_78 : decode cX4_setCost 78 = .ok (.ireturn, 1) := by decide +kernel
theorem dX4_setRow_0 : decode cX4_setRow 0 = .ok (.lconst 1, 1) := by decide +kernel
theorem dX4_setRow_1 : decode cX4_setRow 1 = .ok (.lstore 4, 2) := by decide +kernel
theorem dX4_setRow_3 : decode cX4_setRow 3 = .ok (.iconst 0, 1) := by decide +kernel
theorem dX4_setRow_4 : decode cX4_setRow 4 = .ok (.istore 6, 2) := by decide +kernel
theorem dX4_setRow_6 : decode cX4_setRow 6 = .ok (.iload 6, 2) := by decide +kernel
theorem dX4_setRow_8 : decode cX4_setRow 8 = .ok (.aload_n 0, 1) := by decide +kernel
theorem dX4_setRow_9 : decode cX4_setRow 9 = .ok (.getfield 13, 3) := by decide +kernel
theorem dX4_setRow_12 : decode cX4_setRow 12 = .ok (.if_icmp .ge 17, 3) := by decide +kernel
theorem dX4_setRow_15 : decode cX4_setRow 15 = .ok (.lload 4, 2) := by decide +kernel
theorem dX4_setRow_17 : decode cX4_setRow 17 = .ok (.ldc2_w 130, 3) := by decide +kernel
theorem dX4_setRow_20 : decode cX4_setRow 20 = .ok (.lmul, 1) := by decide +kernel
theorem dX4_setRow_21 : decode cX4_setRow 21 = .ok (.lstore 4, 2) := by decide +kernel
theorem dX4_setRow_23 : decode cX4_setRow 23 = .ok (.iinc 6 1, 3) := by decide +kernel
theorem dX4_setRow_26 : decode cX4_setRow 26 = .ok (.goto (-20), 3) := by decide +kernel
theorem dX4_setRow_29 : decode cX4_setRow 29 = .ok (.aload_n 0, 1) := by decide +kernel
theorem dX4_setRow_30 : decode cX4_setRow 30 = .ok (.aload_n 0, 1) := by decide +kernel
theorem dX4_setRow_31 : decode cX4_setRow 31 = .ok (.iload_n 1, 1) := by decide +kernel
theorem dX4_setRow_32 : decode cX4_setRow 32 = .ok (.invokevirtual 122, 3) := by decide +kernel
theorem dX4_setRow_35 : decode cX4_setRow 35 = .ok (.ifCond .ne 7, 3) := by decide +kernel
theorem dX4_setRow_38 : decode cX4_setRow 38 = .ok (.iconst 1, 1) := by decide +kernel
theorem dX4_setRow_39 : decode cX4_setRow 39 = .ok (.goto 21, 3) := by decide +kernel
theorem dX4_setRow_42 : decode cX4_setRow 42 = .ok (.lload_n 2, 1) := by decide +kernel
theorem dX4_setRow_43 : decode cX4_setRow 43 = .ok (.lconst 0, 1) := by decide +kernel
theorem dX4_setRow_44 : decode cX4_setRow 44 = .ok (.lcmp, 1) := by decide +kernel
theorem dX4_setRow_45 : decode cX4_setRow 45 = .ok (.ifCond .lt 10, 3) := by decide +kernel
theorem dX4_setRow_48 : decode cX4_setRow 48 = .ok (.lload_n 2, 1) := by decide +kernel
theorem dX4_setRow_49 : decode cX4_setRow 49 = .ok (.lload 4, 2) := by decide +kernel
theorem dX4_setRow_51 : decode cX4_setRow 51 = .ok (.lcmp, 1) := by decide +kernel
theorem dX4_setRow_52 : decode cX4_setRow 52 = .ok (.ifCond .lt 7, 3) := by decide +kernel
theorem dX4_setRow_55 : decode cX4_setRow 55 = .ok (.iconst 2, 1) := by decide +kernel
theorem dX4_setRow_56 : decode cX4_setRow 56 = .ok (.goto 4, 3) := by decide +kernel
theorem dX4_setRow_59 : decode cX4_setRow 59 = .ok (.iconst 0, 1) := by decide +kernel
theorem dX4_setRow_60 : decode cX4_setRow 60 = .ok (.invokevirtual 118, 3) := by decide +kernel
theorem dX4_setRow_63 : decode cX4_setRow 63 = .ok (.ifCond .eq 5, 3) := by decide +kernel
theorem dX4_setRow_66 : decode cX4_setRow 66 = .ok (.iconst 0, 1) := by decide +kernel
theorem dX4_setRow_67 : decode cX4_setRow 67 = .ok (.ireturn, 1) := by decide +kernel
theorem dX4_setRow_68 : decode cX4_setRow 68 = .ok (.lload_n 2, 1) := by decide +kernel
theorem dX4_setRow_69 : decode cX4_setRow 69 = .ok (.lstore 6, 2) := by decide +kernel
theorem dX4_setRow_71 : decode cX4_setRow 71 = .ok (.bipush 99, 2) := by decide +kernel
theorem dX4_setRow_73 : decode cX4_setRow 73 = .ok (.istore 8, 2) := by decide +kernel
theorem dX4_setRow_75 : decode cX4_setRow 75 = .ok (.aload_n 0, 1) := by decide +kernel
theorem dX4_setRow_76 : decode cX4_setRow 76 = .ok (.getfield 13, 3) := by decide +kernel
theorem dX4_setRow_79 : decode cX4_setRow 79 = .ok (.iconst 1, 1) := by decide +kernel
theorem dX4_setRow_80 : decode cX4_setRow 80 = .ok (.isub, 1) := by decide +kernel
theorem dX4_setRow_81 : decode cX4_setRow 81 = .ok (.istore 9, 2) := by decide +kernel
theorem dX4_setRow_83 : decode cX4_setRow 83 = .ok (.iload 9, 2) := by decide +kernel
theorem dX4_setRow_85 : decode cX4_setRow 85 = .ok (.ifCond .lt 56, 3) := by decide +kernel
theorem dX4_setRow_88 : decode cX4_setRow 88 = .ok (.lload 6, 2) := by decide +kernel
theorem dX4_setRow_90 : decode cX4_setRow 90 = .ok (.ldc2_w 130, 3) := by decide +kernel
theorem dX4_setRow_93 : decode cX4_setRow 93 = .ok (.lrem, 1) := by decide +kernel
theorem dX4_setRow_94 : decode cX4_setRow 94 = .ok (.l2i, 1) := by decide +kernel
theorem dX4_setRow_95 : decode cX4_setRow 95 = .ok (.istore 10, 2) := by decide +kernel
theorem dX4_setRow_97 : decode cX4_setRow 97 = .ok (.lload 6, 2) := by decide +kernel
theorem dX4_setRow_99 : decode cX4_setRow 99 = .ok (.ldc2_w 130, 3) := by decide +kernel
theorem dX4_setRow_102 : decode cX4_setRow 102 = .ok (.ldiv, 1) := by decide +kernel
theorem dX4_setRow_103 : decode cX4_setRow 103 = .ok (.lstore 6, 2) := by decide +kernel
theorem dX4_setRow_105 : decode cX4_setRow 105 = .ok (.aload_n 0, 1) := by decide +kernel
theorem dX4_setRow_106 : decode cX4_setRow 106 = .ok (.getfield 22, 3) := by decide +kernel
theorem dX4_setRow_109 : decode cX4_setRow 109 = .ok (.bipush 7, 2) := by decide +kernel
theorem dX4_setRow_111 : decode cX4_setRow 111 = .ok (.iload_n 1, 1) := by decide +kernel
theorem dX4_setRow_112 : decode cX4_setRow 112 = .ok (.imul, 1) := by decide +kernel
theorem dX4_setRow_113 : decode cX4_setRow 113 = .ok (.iload 9, 2) := by decide +kernel
theorem dX4_setRow_115 : decode cX4_setRow 115 = .ok (.iadd, 1) := by decide +kernel
theorem dX4_setRow_116 : decode cX4_setRow 116 = .ok (.iload 10, 2) := by decide +kernel
theorem dX4_setRow_118 : decode cX4_setRow 118 = .ok (.iastore, 1) := by decide +kernel
theorem dX4_setRow_119 : decode cX4_setRow 119 = .ok (.iload 10, 2) := by decide +kernel
theorem dX4_setRow_121 : decode cX4_setRow 121 = .ok (.iload 8, 2) := by decide +kernel
theorem dX4_setRow_123 : decode cX4_setRow 123 = .ok (.if_icmp .ge 8, 3) := by decide +kernel
theorem dX4_setRow_126 : decode cX4_setRow 126 = .ok (.iload 10, 2) := by decide +kernel
theorem dX4_setRow_128 : decode cX4_setRow 128 = .ok (.goto 5, 3) := by decide +kernel
theorem dX4_setRow_131 : decode cX4_setRow 131 = .ok (.iload 8, 2) := by decide +kernel
theorem dX4_setRow_133 : decode cX4_setRow 133 = .ok (.istore 8, 2) := by decide +kernel
theorem dX4_setRow_135 : decode cX4_setRow 135 = .ok (.iinc 9 (-1), 3) := by decide +kernel
theorem dX4_setRow_138 : decode cX4_setRow 138 = .ok (.goto (-55), 3) := by decide +kernel
theorem dX4_setRow_141 : decode cX4_setRow 141 = .ok (.aload_n 0, 1) := by decide +kernel
theorem dX4_setRow_142 : decode cX4_setRow 142 = .ok (.iconst (-1), 1) := by decide +kernel
theorem dX4_setRow_143 : decode cX4_setRow 143 = .ok (.putfield 48, 3) := by decide +kernel
theorem dX4_setRow_146 : decode cX4_setRow 146 = .ok (.iload 8, 2) := by decide +kernel
theorem dX4_setRow_148 : decode cX4_setRow 148 = .ok (.ireturn, 1) := by decide +kernel
theorem dX4_fill_0 : decode cX4_fill 0 = .ok (.aload_n 0, 1) := by decide +kernel
theorem dX4_fill_1 : decode cX4_fill 1 = .ok (.iload_n 1, 1) := by decide +kernel
theorem dX4_fill_2 : decode cX4_fill 2 = .ok (.i2l, 1) := by decide +kernel
theorem dX4_fill_3 : decode cX4_fill 3 = .ok (.lconst 0, 1) := by decide +kernel
theorem dX4_fill_4 : decode cX4_fill 4 = .ok (.ldc2_w 132, 3) := by decide +kernel
theorem dX4_fill_7 : decode cX4_fill 7 = .ok (.invokestatic 63, 3) := by decide +kernel
theorem dX4_fill_10 : decode cX4_fill 10 = .ok (.ifCond .eq 15, 3) := by decide +kernel
theorem dX4_fill_13 : decode cX4_fill 13 = .ok (.iload_n 2, 1) := by decide +kernel
theorem dX4_fill_14 : decode cX4_fill 14 = .ok (.i2l, 1) := by decide +kernel
theorem dX4_fill_15 : decode cX4_fill 15 = .ok (.lconst 0, 1) := by decide +kernel
theorem dX4_fill_16 : decode cX4_fill 16 = .ok (.ldc2_w 128, 3) := by decide +kernel
theorem dX4_fill_19 : decode cX4_fill 19 = .ok (.invokestatic 63, 3) := by decide +kernel
theorem dX4_fill_22 : decode cX4_fill 22 = .ok (.ifCond .ne 7, 3) := by decide +kernel
theorem dX4_fill_25 : decode cX4_fill 25 = .ok (.iconst 1, 1) := by decide +kernel
theorem dX4_fill_26 : decode cX4_fill 26 = .ok (.goto 4, 3) := by decide +kernel
theorem dX4_fill_29 : decode cX4_fill 29 = .ok (.iconst 0, 1) := by decide +kernel
theorem dX4_fill_30 : decode cX4_fill 30 = .ok (.invokevirtual 118, 3) := by decide +kernel
theorem dX4_fill_33 : decode cX4_fill 33 = .ok (.ifCond .eq 5, 3) := by decide +kernel
theorem dX4_fill_36 : decode cX4_fill 36 = .ok (.iconst 0, 1) := by decide +kernel
theorem dX4_fill_37 : decode cX4_fill 37 = .ok (.ireturn, 1) := by decide +kernel
theorem dX4_fill_38 : decode cX4_fill 38 = .ok (.iload_n 1, 1) := by decide +kernel
theorem dX4_fill_39 : decode cX4_fill 39 = .ok (.istore_n 3, 1) := by decide +kernel
theorem dX4_fill_40 : decode cX4_fill 40 = .ok (.iconst 0, 1) := by decide +kernel
theorem dX4_fill_41 : decode cX4_fill 41 = .ok (.istore 4, 2) := by decide +kernel
theorem dX4_fill_43 : decode cX4_fill 43 = .ok (.iconst 0, 1) := by decide +kernel
theorem dX4_fill_44 : decode cX4_fill 44 = .ok (.istore 5, 2) := by decide +kernel
theorem dX4_fill_46 : decode cX4_fill 46 = .ok (.iload 5, 2) := by decide +kernel
theorem dX4_fill_48 : decode cX4_fill 48 = .ok (.aload_n 0, 1) := by decide +kernel
theorem dX4_fill_49 : decode cX4_fill 49 = .ok (.getfield 7, 3) := by decide +kernel
theorem dX4_fill_52 : decode cX4_fill 52 = .ok (.if_icmp .ge 89, 3) := by decide +kernel
theorem dX4_fill_55 : decode cX4_fill 55 = .ok (.iconst 0, 1) := by decide +kernel
theorem dX4_fill_56 : decode cX4_fill 56 = .ok (.istore 6, 2) := by decide +kernel
theorem dX4_fill_58 : decode cX4_fill 58 = .ok (.iload 6, 2) := by decide +kernel
theorem dX4_fill_60 : decode cX4_fill 60 = .ok (.aload_n 0, 1) := by decide +kernel
theorem dX4_fill_61 : decode cX4_fill 61 = .ok (.getfield 13, 3) := by decide +kernel
theorem dX4_fill_64 : decode cX4_fill 64 = .ok (.if_icmp .ge 71, 3) := by decide +kernel
theorem dX4_fill_67 : decode cX4_fill 67 = .ok (.bipush 37, 2) := by decide +kernel
theorem dX4_fill_69 : decode cX4_fill 69 = .ok (.iload_n 3, 1) := by decide +kernel
theorem dX4_fill_70 : decode cX4_fill 70 = .ok (.imul, 1) := by decide +kernel
theorem dX4_fill_71 : decode cX4_fill 71 = .ok (.bipush 11, 2) := by decide +kernel
theorem dX4_fill_73 : decode cX4_fill 73 = .ok (.iadd, 1) := by decide +kernel
theorem dX4_fill_74 : decode cX4_fill 74 = .ok (.sipush 10007, 3) := by decide +kernel
theorem dX4_fill_77 : decode cX4_fill 77 = .ok (.irem, 1) := by decide +kernel
theorem dX4_fill_78 : decode cX4_fill 78 = .ok (.istore_n 3, 1) := by decide +kernel
theorem dX4_fill_79 : decode cX4_fill 79 = .ok (.aload_n 0, 1) := by decide +kernel
theorem dX4_fill_80 : decode cX4_fill 80 = .ok (.getfield 22, 3) := by decide +kernel
theorem dX4_fill_83 : decode cX4_fill 83 = .ok (.bipush 7, 2) := by decide +kernel
theorem dX4_fill_85 : decode cX4_fill 85 = .ok (.iload 5, 2) := by decide +kernel
theorem dX4_fill_87 : decode cX4_fill 87 = .ok (.imul, 1) := by decide +kernel
theorem dX4_fill_88 : decode cX4_fill 88 = .ok (.iload 6, 2) := by decide +kernel
theorem dX4_fill_90 : decode cX4_fill 90 = .ok (.iadd, 1) := by decide +kernel
theorem dX4_fill_91 : decode cX4_fill 91 = .ok (.iload_n 3, 1) := by decide +kernel
theorem dX4_fill_92 : decode cX4_fill 92 = .ok (.iload_n 2, 1) := by decide +kernel
theorem dX4_fill_93 : decode cX4_fill 93 = .ok (.iconst 1, 1) := by decide +kernel
theorem dX4_fill_94 : decode cX4_fill 94 = .ok (.iadd, 1) := by decide +kernel
theorem dX4_fill_95 : decode cX4_fill 95 = .ok (.irem, 1) := by decide +kernel
theorem dX4_fill_96 : decode cX4_fill 96 = .ok (.iastore, 1) := by decide +kernel
theorem dX4_fill_97 : decode cX4_fill 97 = .ok (.aload_n 0, 1) := by decide +kernel
theorem dX4_fill_98 : decode cX4_fill 98 = .ok (.getfield 29, 3) := by decide +kernel
theorem dX4_fill_101 : decode cX4_fill 101 = .ok (.bipush 7, 2) := by decide +kernel
theorem dX4_fill_103 : decode cX4_fill 103 = .ok (.iload 5, 2) := by decide +kernel
theorem dX4_fill_105 : decode cX4_fill 105 = .ok (.imul, 1) := by decide +kernel
theorem dX4_fill_106 : decode cX4_fill 106 = .ok (.iload 6, 2) := by decide +kernel
theorem dX4_fill_108 : decode cX4_fill 108 = .ok (.iadd, 1) := by decide +kernel
theorem dX4_fill_109 : decode cX4_fill 109 = .ok (.iconst 0, 1) := by decide +kernel
theorem dX4_fill_110 : decode cX4_fill 110 = .ok (.bastore, 1) := by decide +kernel
theorem dX4_fill_111 : decode cX4_fill 111 = .ok (.iload 4, 2) := by decide +kernel
theorem dX4_fill_113 : decode cX4_fill 113 = .ok (.aload_n 0, 1) := by decide +kernel
theorem dX4_fill_114 : decode cX4_fill 114 = .ok (.getfield 22, 3) := by decide +kernel
theorem dX4_fill_117 : decode cX4_fill 117 = .ok (.bipush 7, 2) := by decide +kernel
theorem dX4_fill_119 : decode cX4_fill 119 = .ok (.iload 5, 2) := by decide +kernel
theorem dX4_fill_121 : decode cX4_fill 121 = .ok (.imul, 1) := by decide +kernel
theorem dX4_fill_122 : decode cX4_fill 122 = .ok (.iload 6, 2) := by decide +kernel
theorem dX4_fill_124 : decode cX4_fill 124 = .ok (.iadd, 1) := by decide +kernel
theorem dX4_fill_125 : decode cX4_fill 125 = .ok (.iaload, 1) := by decide +kernel
theorem dX4_fill_126 : decode cX4_fill 126 = .ok (.iadd, 1) := by decide +kernel
theorem dX4_fill_127 : decode cX4_fill 127 = .ok (.istore 4, 2) := by decide +kernel
theorem dX4_fill_129 : decode cX4_fill 129 = .ok (.iinc 6 1, 3) := by decide +kernel
theorem dX4_fill_132 : decode cX4_fill 132 = .ok (.goto (-74), 3) := by decide +kernel
theorem dX4_fill_135 : decode cX4_fill 135 = .ok (.iinc 5 1, 3) := by decide +kernel
theorem dX4_fill_138 : decode cX4_fill 138 = .ok (.goto (-92), 3) := by decide +kernel
theorem dX4_fill_141 : decode cX4_fill 141 = .ok (.aload_n 0, 1) := by decide +kernel
theorem dX4_fill_142 : decode cX4_fill 142 = .ok (.iconst (-1), 1) := by decide +kernel
theorem dX4_fill_143 : decode cX4_fill 143 = .ok (.putfield 48, 3) := by decide +kernel
theorem dX4_fill_146 : decode cX4_fill 146 = .ok (.iload 4, 2) := by decide +kernel
theorem dX4_fill_148 : decode cX4_fill 148 = .ok (.ireturn, 1) := by decide +kernel
theorem dX4_forbiddenMany_0 : decode cX4_forbiddenMany 0 = .ok (.iconst 0, 1) := by decide +kernel
theorem dX4_forbiddenMany_1 : decode cX4_forbiddenMany 1 = .ok (.istore_n 1, 1) := by decide +kernel
theorem dX4_forbiddenMany_2 : decode cX4_forbiddenMany 2 = .ok (.iconst 0, 1) := by decide +kernel
theorem dX4_forbiddenMany_3 : decode cX4_forbiddenMany 3 = .ok (.istore_n 2, 1) := by decide +kernel
theorem dX4_forbiddenMany_4 : decode cX4_forbiddenMany 4 = .ok (.iload_n 2, 1) := by decide +kernel
theorem dX4_forbiddenMany_5 : decode cX4_forbiddenMany 5 = .ok (.aload_n 0, 1) := by decide +kernel
theorem dX4_forbiddenMany_6 : decode cX4_forbiddenMany 6 = .ok (.getfield 7, 3) := by decide +kernel
theorem dX4_forbiddenMany_9 : decode cX4_forbiddenMany 9 = .ok (.if_icmp .ge 47, 3) := by decide +kernel
theorem dX4_forbiddenMany_12 : decode cX4_forbiddenMany 12 = .ok (.iconst 0, 1) := by decide +kernel
theorem dX4_forbiddenMany_13 : decode cX4_forbiddenMany 13 = .ok (.istore_n 3, 1) := by decide +kernel
theorem dX4_forbiddenMany_14 : decode cX4_forbiddenMany 14 = .ok (.iload_n 3, 1) := by decide +kernel
theorem dX4_forbiddenMany_15 : decode cX4_forbiddenMany 15 = .ok (.aload_n 0, 1) := by decide +kernel
theorem dX4_forbiddenMany_16 : decode cX4_forbiddenMany 16 = .ok (.getfield 13, 3) := by decide +kernel
theorem dX4_forbiddenMany_19 : decode cX4_forbiddenMany 19 = .ok (.if_icmp .ge 31, 3) := by decide +kernel
theorem dX4_forbiddenMany_22 : decode cX4_forbiddenMany 22 = .ok (.iload_n 1, 1) := by decide +kernel
theorem dX4_forbiddenMany_23 : decode cX4_forbiddenMany 23 = .ok (.aload_n 0, 1) := by decide +kernel
theorem dX4_forbiddenMany_24 : decode cX4_forbiddenMany 24 = .ok (.getfield 29, 3) := by decide +kernel
theorem dX4_forbiddenMany_27 : decode cX4_forbiddenMany 27 = .ok (.bipush 7, 2) := by decide +kernel
theorem dX4_forbiddenMany_29 : decode cX4_forbiddenMany 29 = .ok (.iload_n 2, 1) := by decide +kernel
theorem dX4_forbiddenMany_30 : decode cX4_forbiddenMany 30 = .ok (.imul, 1) := by decide +kernel
theorem dX4_forbiddenMany_31 : decode cX4_forbiddenMany 31 = .ok (.iload_n 3, 1) := by decide +kernel
theorem dX4_forbiddenMany_32 : decode cX4_forbiddenMany 32 = .ok (.iadd, 1) := by decide +kernel
theorem dX4_forbiddenMany_33 : decode cX4_forbiddenMany 33 = .ok (.baload, 1) := by decide +kernel
theorem dX4_forbiddenMany_34 : decode cX4_forbiddenMany 34 = .ok (.ifCond .eq 7, 3) := by decide +kernel
theorem dX4_forbiddenMany_37 : decode cX4_forbiddenMany 37 = .ok (.iconst 1, 1) := by decide +kernel
theorem dX4_forbiddenMany_38 : decode cX4_forbiddenMany 38 = .ok (.goto 4, 3) := by decide +kernel
theorem dX4_forbiddenMany_41 : decode cX4_forbiddenMany 41 = .ok (.iconst 0, 1) := by decide +kernel
theorem dX4_forbiddenMany_42 : decode cX4_forbiddenMany 42 = .ok (.iadd, 1) := by decide +kernel
theorem dX4_forbiddenMany_43 : decode cX4_forbiddenMany 43 = .ok (.istore_n 1, 1) := by decide +kernel
theorem dX4_forbiddenMany_44 : decode cX4_forbiddenMany 44 = .ok (.iinc 3 1, 3) := by decide +kernel
theorem dX4_forbiddenMany_47 : decode cX4_forbiddenMany 47 = .ok (.goto (-33), 3) := by decide +kernel
theorem dX4_forbiddenMany_50 : decode cX4_forbiddenMany 50 = .ok (.iinc 2 1, 3) := by decide +kernel
theorem dX4_forbiddenMany_53 : decode cX4_forbiddenMany 53 = .ok (.goto (-49), 3) := by decide +kernel
theorem dX4_forbiddenMany_56 : decode cX4_forbiddenMany 56 = .ok (.iload_n 1, 1) := by decide +kernel
theorem dX4_forbiddenMany_57 : decode cX4_forbiddenMany 57 = .ok (.ireturn, 1) := by decide +kernel
theorem dX4_setForbidden_0 : decode cX4_setForbidden 0 = .ok (.aload_n 0, 1) := by decide +kernel
theorem dX4_setForbidden_1 : decode cX4_setForbidden 1 = .ok (.aload_n 0, 1) := by decide +kernel
theorem dX4_setForbidden_2 : decode cX4_setForbidden 2 = .ok (.iload_n 1, 1) := by decide +kernel
theorem dX4_setForbidden_3 : decode cX4_setForbidden 3 = .ok (.invokevirtual 122, 3) := by decide +kernel
theorem dX4_setForbidden_6 : decode cX4_setForbidden 6 = .ok (.ifCond .eq 11, 3) := by decide +kernel
theorem dX4_setForbidden_9 : decode cX4_setForbidden 9 = .ok (.aload_n 0, 1) := by decide +kernel
theorem dX4_setForbidden_10 : decode cX4_setForbidden 10 = .ok (.iload_n 2, 1) := by decide +kernel
theorem dX4_setForbidden_11 : decode cX4_setForbidden 11 = .ok (.invokevirtual 125, 3) := by decide +kernel
theorem dX4_setForbidden_14 : decode cX4_setForbidden 14 = .ok (.ifCond .ne 7, 3) := by decide +kernel
theorem dX4_setForbidden_17 : decode cX4_setForbidden 17 = .ok (.iconst 1, 1) := by decide +kernel
theorem dX4_setForbidden_18 : decode cX4_setForbidden 18 = .ok (.goto 4, 3) := by decide +kernel
theorem dX4_setForbidden_21 : decode cX4_setForbidden 21 = .ok (.iconst 0, 1) := by decide +kernel
theorem dX4_setForbidden_22 : decode cX4_setForbidden 22 = .ok (.invokevirtual 118, 3) := by decide +kernel
theorem dX4_setForbidden_25 : decode cX4_setForbidden 25 = .ok (.ifCond .eq 5, 3) := by decide +kernel
theorem dX4_setForbidden_28 : decode cX4_setForbidden 28 = .ok (.iconst 0, 1) := by decide +kernel
theorem dX4_setForbidden_29 : decode cX4_setForbidden 29 = .ok (.ireturn, 1) := by decide +kernel
theorem dX4_setForbidden_30 : decode cX4_setForbidden 30 = .ok (.aload_n 0, 1) := by decide +kernel
theorem dX4_setForbidden_31 : decode cX4_setForbidden 31 = .ok (.getfield 29, 3) := by decide +kernel
theorem dX4_setForbidden_34 : decode cX4_setForbidden 34 = .ok (.bipush 7, 2) := by decide +kernel
theorem dX4_setForbidden_36 : decode cX4_setForbidden 36 = .ok (.iload_n 1, 1) := by decide +kernel
theorem dX4_setForbidden_37 : decode cX4_setForbidden 37 = .ok (.imul, 1) := by decide +kernel
theorem dX4_setForbidden_38 : decode cX4_setForbidden 38 = .ok (.iload_n 2, 1) := by decide +kernel
theorem dX4_setForbidden_39 : decode cX4_setForbidden 39 = .ok (.iadd, 1) := by decide +kernel
theorem dX4_setForbidden_40 : decode cX4_setForbidden 40 = .ok (.iload_n 3, 1) := by decide +kernel
theorem dX4_setForbidden_41 : decode cX4_setForbidden 41 = .ok (.bastore, 1) := by decide +kernel
theorem dX4_setForbidden_42 : decode cX4_setForbidden 42 = .ok (.aload_n 0, 1) := by decide +kernel
theorem dX4_setForbidden_43 : decode cX4_setForbidden 43 = .ok (.iconst (-1), 1) := by decide +kernel
theorem dX4_setForbidden_44 : decode cX4_setForbidden 44 = .ok (.putfield 48, 3) := by decide +kernel
theorem dX4_setForbidden_47 : decode cX4_setForbidden 47 = .ok (.aload_n 0, 1) := by decide +kernel
theorem dX4_setForbidden_48 : decode cX4_setForbidden 48 = .ok (.invokevirtual 134, 3) := by decide +kernel
theorem dX4_setForbidden_51 : decode cX4_setForbidden 51 = .ok (.ireturn, 1) := by decide +kernel
theorem dX4_costAt_0 : decode cX4_costAt 0 = .ok (.aload_n 0, 1) := by decide +kernel
theorem dX4_costAt_1 : decode cX4_costAt 1 = .ok (.aload_n 0, 1) := by decide +kernel
theorem dX4_costAt_2 : decode cX4_costAt 2 = .ok (.iload_n 1, 1) := by decide +kernel
theorem dX4_costAt_3 : decode cX4_costAt 3 = .ok (.invokevirtual 122, 3) := by decide +kernel
theorem dX4_costAt_6 : decode cX4_costAt 6 = .ok (.ifCond .eq 11, 3) := by decide +kernel
theorem dX4_costAt_9 : decode cX4_costAt 9 = .ok (.aload_n 0, 1) := by decide +kernel
theorem dX4_costAt_10 : decode cX4_costAt 10 = .ok (.iload_n 2, 1) := by decide +kernel
theorem dX4_costAt_11 : decode cX4_costAt 11 = .ok (.invokevirtual 122, 3) := by decide +kernel
theorem dX4_costAt_14 : decode cX4_costAt 14 = .ok (.ifCond .ne 7, 3) := by decide +kernel
theorem dX4_costAt_17 : decode cX4_costAt 17 = .ok (.iconst 1, 1) := by decide +kernel
theorem dX4_costAt_18 : decode cX4_costAt 18 = .ok (.goto 4, 3) := by decide +kernel
theorem dX4_costAt_21 : decode cX4_costAt 21 = .ok (.iconst 0, 1) := by decide +kernel
theorem dX4_costAt_22 : decode cX4_costAt 22 = .ok (.invokevirtual 118, 3) := by decide +kernel
theorem dX4_costAt_25 : decode cX4_costAt 25 = .ok (.ifCond .eq 7, 3) := by decide +kernel
theorem dX4_costAt_28 : decode cX4_costAt 28 = .ok (.iconst 0, 1) := by decide +kernel
theorem dX4_costAt_29 : decode cX4_costAt 29 = .ok (.goto 9, 3) := by decide +kernel
theorem dX4_costAt_32 : decode cX4_costAt 32 = .ok (.aload_n 0, 1) := by decide +kernel
theorem dX4_costAt_33 : decode cX4_costAt 33 = .ok (.iload_n 1, 1) := by decide +kernel
theorem dX4_costAt_34 : decode cX4_costAt 34 = .ok (.iload_n 2, 1) := by decide +kernel
theorem dX4_costAt_35 : decode cX4_costAt 35 = .ok (.invokevirtual 75, 3) := by decide +kernel
theorem dX4_costAt_38 : decode cX4_costAt 38 = .ok (.ireturn, 1) := by decide +kernel
theorem dX4_rowSum_0 : decode cX4_rowSum 0 = .ok (.iconst 0, 1) := by decide +kernel
theorem dX4_rowSum_1 : decode cX4_rowSum 1 = .ok (.istore_n 2, 1) := by decide +kernel
theorem dX4_rowSum_2 : decode cX4_rowSum 2 = .ok (.iconst 0, 1) := by decide +kernel
theorem dX4_rowSum_3 : decode cX4_rowSum 3 = .ok (.istore_n 3, 1) := by decide +kernel
theorem dX4_rowSum_4 : decode cX4_rowSum 4 = .ok (.iload_n 3, 1) := by decide +kernel
theorem dX4_rowSum_5 : decode cX4_rowSum 5 = .ok (.aload_n 0, 1) := by decide +kernel
theorem dX4_rowSum_6 : decode cX4_rowSum 6 = .ok (.getfield 7, 3) := by decide +kernel
theorem dX4_rowSum_9 : decode cX4_rowSum 9 = .ok (.if_icmp .ge 18, 3) := by decide +kernel
theorem dX4_rowSum_12 : decode cX4_rowSum 12 = .ok (.iload_n 2, 1) := by decide +kernel
theorem dX4_rowSum_13 : decode cX4_rowSum 13 = .ok (.aload_n 0, 1) := by decide +kernel
theorem dX4_rowSum_14 : decode cX4_rowSum 14 = .ok (.iload_n 1, 1) := by decide +kernel
theorem dX4_rowSum_15 : decode cX4_rowSum 15 = .ok (.iload_n 3, 1) := by decide +kernel
theorem dX4_rowSum_16 : decode cX4_rowSum 16 = .ok (.invokevirtual 75, 3) := by decide +kernel
theorem dX4_rowSum_19 : decode cX4_rowSum 19 = .ok (.iadd, 1) := by decide +kernel
theorem dX4_rowSum_20 : decode cX4_rowSum 20 = .ok (.istore_n 2, 1) := by decide +kernel
theorem dX4_rowSum_21 : decode cX4_rowSum 21 = .ok (.iinc 3 1, 3) := by decide +kernel
theorem dX4_rowSum_24 : decode cX4_rowSum 24 = .ok (.goto (-20), 3) := by decide +kernel
theorem dX4_rowSum_27 : decode cX4_rowSum 27 = .ok (.iload_n 2, 1) := by decide +kernel
theorem dX4_rowSum_28 : decode cX4_rowSum 28 = .ok (.ireturn, 1) := by decide +kernel
theorem dX4_columnSum_0 : decode cX4_columnSum 0 = .ok (.iconst 0, 1) := by decide +kernel
theorem dX4_columnSum_1 : decode cX4_columnSum 1 = .ok (.istore_n 2, 1) := by decide +kernel
theorem dX4_columnSum_2 : decode cX4_columnSum 2 = .ok (.iconst 0, 1) := by decide +kernel
theorem dX4_columnSum_3 : decode cX4_columnSum 3 = .ok (.istore_n 3, 1) := by decide +kernel
theorem dX4_columnSum_4 : decode cX4_columnSum 4 = .ok (.iload_n 3, 1) := by decide +kernel
theorem dX4_columnSum_5 : decode cX4_columnSum 5 = .ok (.aload_n 0, 1) := by decide +kernel
theorem dX4_columnSum_6 : decode cX4_columnSum 6 = .ok (.getfield 7, 3) := by decide +kernel
theorem dX4_columnSum_9 : decode cX4_columnSum 9 = .ok (.if_icmp .ge 18, 3) := by decide +kernel
theorem dX4_columnSum_12 : decode cX4_columnSum 12 = .ok (.iload_n 2, 1) := by decide +kernel
theorem dX4_columnSum_13 : decode cX4_columnSum 13 = .ok (.aload_n 0, 1) := by decide +kernel
theorem dX4_columnSum_14 : decode cX4_columnSum 14 = .ok (.iload_n 3, 1) := by decide +kernel
theorem dX4_columnSum_15 : decode cX4_columnSum 15 = .ok (.iload_n 1, 1) := by decide +kernel
theorem dX4_columnSum_16 : decode cX4_columnSum 16 = .ok (.invokevirtual 75, 3) := by decide +kernel
theorem dX4_columnSum_19 : decode cX4_columnSum 19 = .ok (.iadd, 1) := by decide +kernel
theorem dX4_columnSum_20 : decode cX4_columnSum 20 = .ok (.istore_n 2, 1) := by decide +kernel
theorem dX4_columnSum_21 : decode cX4_columnSum 21 = .ok (.iinc 3 1, 3) := by decide +kernel
theorem dX4_columnSum_24 : decode cX4_columnSum 24 = .ok (.goto (-20), 3) := by decide +kernel
theorem dX4_columnSum_27 : decode cX4_columnSum 27 = .ok (.iload_n 2, 1) := by decide +kernel
theorem dX4_columnSum_28 : decode cX4_columnSum 28 = .ok (.ireturn, 1) := by decide +kernel
theorem dX4_takes_0 : decode cX4_takes 0 = .ok (.aload_n 0, 1) := by decide +kernel
theorem dX4_takes_1 : decode cX4_takes 1 = .ok (.getfield 29, 3) := by decide +kernel
theorem dX4_takes_4 : decode cX4_takes 4 = .ok (.bipush 7, 2) := by decide +kernel
theorem dX4_takes_6 : decode cX4_takes 6 = .ok (.iload_n 1, 1) := by decide +kernel
theorem dX4_takes_7 : decode cX4_takes 7 = .ok (.imul, 1) := by decide +kernel
theorem dX4_takes_8 : decode cX4_takes 8 = .ok (.iload_n 2, 1) := by decide +kernel
theorem dX4_takes_9 : decode cX4_takes 9 = .ok (.iadd, 1) := by decide +kernel
theorem dX4_takes_10 : decode cX4_takes 10 = .ok (.baload, 1) := by decide +kernel
theorem dX4_takes_11 : decode cX4_takes 11 = .ok (.ifCond .ne 31, 3) := by decide +kernel
theorem dX4_takes_14 : decode cX4_takes 14 = .ok (.aload_n 0, 1) := by decide +kernel
theorem dX4_takes_15 : decode cX4_takes 15 = .ok (.getfield 22, 3) := by decide +kernel
theorem dX4_takes_18 : decode cX4_takes 18 = .ok (.bipush 7, 2) := by decide +kernel
theorem dX4_takes_20 : decode cX4_takes 20 = .ok (.iload_n 1, 1) := by decide +kernel
theorem dX4_takes_21 : decode cX4_takes 21 = .ok (.imul, 1) := by decide +kernel
theorem dX4_takes_22 : decode cX4_takes 22 = .ok (.iload_n 2, 1) := by decide +kernel
theorem dX4_takes_23 : decode cX4_takes 23 = .ok (.iadd, 1) := by decide +kernel
theorem dX4_takes_24 : decode cX4_takes 24 = .ok (.iaload, 1) := by decide +kernel
theorem dX4_takes_25 : decode cX4_takes 25 = .ok (.iload_n 3, 1) := by decide +kernel
theorem dX4_takes_26 : decode cX4_takes 26 = .ok (.iadd, 1) := by decide +kernel
theorem dX4_takes_27 : decode cX4_takes 27 = .ok (.i2l, 1) := by decide +kernel
theorem dX4_takes_28 : decode cX4_takes 28 = .ok (.lconst 0, 1) := by decide +kernel
theorem dX4_takes_29 : decode cX4_takes 29 = .ok (.ldc2_w 128, 3) := by decide +kernel
theorem dX4_takes_32 : decode cX4_takes 32 = .ok (.invokestatic 63, 3) := by decide +kernel
theorem dX4_takes_35 : decode cX4_takes 35 = .ok (.ifCond .eq 7, 3) := by decide +kernel
theorem dX4_takes_38 : decode cX4_takes 38 = .ok (.iconst 1, 1) := by decide +kernel
theorem dX4_takes_39 : decode cX4_takes 39 = .ok (.goto 4, 3) := by decide +kernel
theorem dX4_takes_42 : decode cX4_takes 42 = .ok (.iconst 0, 1) := by decide +kernel
theorem dX4_takes_43 : decode cX4_takes 43 = .ok (.ireturn, 1) := by decide +kernel
theorem dX4_addToRow_0 : decode cX4_addToRow 0 = .ok (.aload_n 0, 1) := by decide +kernel
theorem dX4_addToRow_1 : decode cX4_addToRow 1 = .ok (.getfield 13, 3) := by decide +kernel
theorem dX4_addToRow_4 : decode cX4_addToRow 4 = .ok (.aload_n 0, 1) := by decide +kernel
theorem dX4_addToRow_5 : decode cX4_addToRow 5 = .ok (.getfield 7, 3) := by decide +kernel
theorem dX4_addToRow_8 : decode cX4_addToRow 8 = .ok (.if_icmp .ne 7, 3) := by decide +kernel
theorem dX4_addToRow_11 : decode cX4_addToRow 11 = .ok (.iconst 1, 1) := by decide +kernel
theorem dX4_addToRow_12 : decode cX4_addToRow 12 = .ok (.goto 4, 3) := by decide +kernel
theorem dX4_addToRow_15 : decode cX4_addToRow 15 = .ok (.iconst 0, 1) := by decide +kernel
theorem dX4_addToRow_16 : decode cX4_addToRow 16 = .ok (.istore_n 3, 1) := by decide +kernel
theorem dX4_addToRow_17 : decode cX4_addToRow 17 = .ok (.iconst 0, 1) := by decide +kernel
theorem dX4_addToRow_18 : decode cX4_addToRow 18 = .ok (.istore 4, 2) := by decide +kernel
theorem dX4_addToRow_20 : decode cX4_addToRow 20 = .ok (.aload_n 0, 1) := by decide +kernel
theorem dX4_addToRow_21 : decode cX4_addToRow 21 = .ok (.iload_n 1, 1) := by decide +kernel
theorem dX4_addToRow_22 : decode cX4_addToRow 22 = .ok (.invokevirtual 122, 3) := by decide +kernel
theorem dX4_addToRow_25 : decode cX4_addToRow 25 = .ok (.ifCond .eq 43, 3) := by decide +kernel
theorem dX4_addToRow_28 : decode cX4_addToRow 28 = .ok (.iload_n 2, 1) := by decide +kernel
theorem dX4_addToRow_29 : decode cX4_addToRow 29 = .ok (.i2l, 1) := by decide +kernel
theorem dX4_addToRow_30 : decode cX4_addToRow 30 = .ok (.ldc2_w 138, 3) := by decide +kernel
theorem dX4_addToRow_33 : decode cX4_addToRow 33 = .ok (.ldc2_w 128, 3) := by decide +kernel
theorem dX4_addToRow_36 : decode cX4_addToRow 36 = .ok (.invokestatic 63, 3) := by decide +kernel
theorem dX4_addToRow_39 : decode cX4_addToRow 39 = .ok (.ifCond .eq 29, 3) := by decide +kernel
theorem dX4_addToRow_42 : decode cX4_addToRow 42 = .ok (.iload 4, 2) := by decide +kernel
theorem dX4_addToRow_44 : decode cX4_addToRow 44 = .ok (.aload_n 0, 1) := by decide +kernel
theorem dX4_addToRow_45 : decode cX4_addToRow 45 = .ok (.getfield 13, 3) := by decide +kernel
theorem dX4_addToRow_48 : decode cX4_addToRow 48 = .ok (.if_icmp .ge 20, 3) := by decide +kernel
theorem dX4_addToRow_51 : decode cX4_addToRow 51 = .ok (.iload_n 3, 1) := by decide +kernel
theorem dX4_addToRow_52 : decode cX4_addToRow 52 = .ok (.aload_n 0, 1) := by decide +kernel
theorem dX4_addToRow_53 : decode cX4_addToRow 53 = .ok (.iload_n 1, 1) := by decide +kernel
theorem dX4_addToRow_54 : decode cX4_addToRow 54 = .ok (.iload 4, 2) := by decide +kernel
theorem dX4_addToRow_56 : decode cX4_addToRow 56 = .ok (.iload_n 2, 1) := by decide +kernel
theorem dX4_addToRow_57 : decode cX4_addToRow 57 = .ok (.invokevirtual 140, 3) := by decide +kernel
theorem dX4_addToRow_60 : decode cX4_addToRow 60 = .ok (.iand, 1) := by decide +kernel
theorem dX4_addToRow_61 : decode cX4_addToRow 61 = .ok (.istore_n 3, 1) := by decide +kernel
theorem dX4_addToRow_62 : decode cX4_addToRow 62 = .ok (.iinc 4 1, 3) := by decide +kernel
theorem dX4_addToRow_65 : decode cX4_addToRow 65 = .ok (.goto (-45), 3) := by decide +kernel
theorem dX4_addToRow_68 : decode cX4_addToRow 68 = .ok (.aload_n 0, 1) := by decide +kernel
theorem dX4_addToRow_69 : decode cX4_addToRow 69 = .ok (.aload_n 0, 1) := by decide +kernel
theorem dX4_addToRow_70 : decode cX4_addToRow 70 = .ok (.iload_n 1, 1) := by decide +kernel
theorem dX4_addToRow_71 : decode cX4_addToRow 71 = .ok (.invokevirtual 122, 3) := by decide +kernel
theorem dX4_addToRow_74 : decode cX4_addToRow 74 = .ok (.ifCond .ne 7, 3) := by decide +kernel
theorem dX4_addToRow_77 : decode cX4_addToRow 77 = .ok (.iconst 1, 1) := by decide +kernel
theorem dX4_addToRow_78 : decode cX4_addToRow 78 = .ok (.goto 30, 3) := by decide +kernel
theorem dX4_addToRow_81 : decode cX4_addToRow 81 = .ok (.iload_n 2, 1) := by decide +kernel
theorem dX4_addToRow_82 : decode cX4_addToRow 82 = .ok (.i2l, 1) := by decide +kernel
theorem dX4_addToRow_83 : decode cX4_addToRow 83 = .ok (.ldc2_w 138, 3) := by decide +kernel
theorem dX4_addToRow_86 : decode cX4_addToRow 86 = .ok (.ldc2_w 128, 3) := by decide +kernel
theorem dX4_addToRow_89 : decode cX4_addToRow 89 = .ok (.invokestatic 63, 3) := by decide +kernel
theorem dX4_addToRow_92 : decode cX4_addToRow 92 = .ok (.ifCond .ne 7, 3) := by decide +kernel
theorem dX4_addToRow_95 : decode cX4_addToRow 95 = .ok (.iconst 2, 1) := by decide +kernel
theorem dX4_addToRow_96 : decode cX4_addToRow 96 = .ok (.goto 12, 3) := by decide +kernel
theorem dX4_addToRow_99 : decode cX4_addToRow 99 = .ok (.iload_n 3, 1) := by decide +kernel
theorem dX4_addToRow_100 : decode cX4_addToRow 100 = .ok (.ifCond .ne 7, 3) := by decide +kernel
theorem dX4_addToRow_103 : decode cX4_addToRow 103 = .ok (.iconst 3, 1) := by decide +kernel
theorem dX4_addToRow_104 : decode cX4_addToRow 104 = .ok (.goto 4, 3) := by decide +kernel
theorem dX4_addToRow_107 : decode cX4_addToRow 107 = .ok (.iconst 0, 1) := by decide +kernel
theorem dX4_addToRow_108 : decode cX4_addToRow 108 = .ok (.invokevirtual 118, 3) := by decide +kernel
theorem dX4_addToRow_111 : decode cX4_addToRow 111 = .ok (.ifCond .eq 5, 3) := by decide +kernel
theorem dX4_addToRow_114 : decode cX4_addToRow 114 = .ok (.iconst 0, 1) := by decide +kernel
theorem dX4_addToRow_115 : decode cX4_addToRow 115 = .ok (.ireturn, 1) := by decide +kernel
theorem dX4_addToRow_116 : decode cX4_addToRow 116 = .ok (.iconst 0, 1) := by decide +kernel
theorem dX4_addToRow_117 : decode cX4_addToRow 117 = .ok (.istore 4, 2) := by decide +kernel
theorem dX4_addToRow_119 : decode cX4_addToRow 119 = .ok (.iload 4, 2) := by decide +kernel
theorem dX4_addToRow_121 : decode cX4_addToRow 121 = .ok (.aload_n 0, 1) := by decide +kernel
theorem dX4_addToRow_122 : decode cX4_addToRow 122 = .ok (.getfield 13, 3) := by decide +kernel
theorem dX4_addToRow_125 : decode cX4_addToRow 125 = .ok (.if_icmp .ge 25, 3) := by decide +kernel
theorem dX4_addToRow_128 : decode cX4_addToRow 128 = .ok (.aload_n 0, 1) := by decide +kernel
theorem dX4_addToRow_129 : decode cX4_addToRow 129 = .ok (.getfield 22, 3) := by decide +kernel
theorem dX4_addToRow_132 : decode cX4_addToRow 132 = .ok (.bipush 7, 2) := by decide +kernel
theorem dX4_addToRow_134 : decode cX4_addToRow 134 = .ok (.iload_n 1, 1) := by decide +kernel
theorem dX4_addToRow_135 : decode cX4_addToRow 135 = .ok (.imul, 1) := by decide +kernel
theorem dX4_addToRow_136 : decode cX4_addToRow 136 = .ok (.iload 4, 2) := by decide +kernel
theorem dX4_addToRow_138 : decode cX4_addToRow 138 = .ok (.iadd, 1) := by decide +kernel
theorem dX4_addToRow_139 : decode cX4_addToRow 139 = .ok (.dup2, 1) := by decide +kernel
theorem dX4_addToRow_140 : decode cX4_addToRow 140 = .ok (.iaload, 1) := by decide +kernel
theorem dX4_addToRow_141 : decode cX4_addToRow 141 = .ok (.iload_n 2, 1) := by decide +kernel
theorem dX4_addToRow_142 : decode cX4_addToRow 142 = .ok (.iadd, 1) := by decide +kernel
theorem dX4_addToRow_143 : decode cX4_addToRow 143 = .ok (.iastore, 1) := by decide +kernel
theorem dX4_addToRow_144 : decode cX4_addToRow 144 = .ok (.iinc 4 1, 3) := by decide +kernel
theorem dX4_addToRow_147 : decode cX4_addToRow 147 = .ok (.goto (-28), 3) := by decide +kernel
theorem dX4_addToRow_150 : decode cX4_addToRow 150 = .ok (.aload_n 0, 1) := by decide +kernel
theorem dX4_addToRow_151 : decode cX4_addToRow 151 = .ok (.iconst (-1), 1) := by decide +kernel
theorem dX4_addToRow_152 : decode cX4_addToRow 152 = .ok (.putfield 48, 3) := by decide +kernel
theorem dX4_addToRow_155 : decode cX4_addToRow 155 = .ok (.aload_n 0, 1) := by decide +kernel
theorem dX4_addToRow_156 : decode cX4_addToRow 156 = .ok (.iload_n 1, 1) := by decide +kernel
theorem dX4_addToRow_157 : decode cX4_addToRow 157 = .ok (.invokevirtual 144, 3) := by decide +kernel
theorem dX4_addToRow_160 : decode cX4_addToRow 160 = .ok (.ireturn, 1) := by decide +kernel
theorem dX4_addToColumn_0 : decode cX4_addToColumn 0 = .ok (.iconst 1, 1) := by decide +kernel
theorem dX4_addToColumn_1 : decode cX4_addToColumn 1 = .ok (.istore_n 3, 1) := by decide +kernel
theorem dX4_addToColumn_2 : decode cX4_addToColumn 2 = .ok (.iconst 0, 1) := by decide +kernel
theorem dX4_addToColumn_3 : decode cX4_addToColumn 3 = .ok (.istore 4, 2) := by decide +kernel
theorem dX4_addToColumn_5 : decode cX4_addToColumn 5 = .ok (.aload_n 0, 1) := by decide +kernel
theorem dX4_addToColumn_6 : decode cX4_addToColumn 6 = .ok (.iload_n 1, 1) := by decide +kernel
theorem dX4_addToColumn_7 : decode cX4_addToColumn 7 = .ok (.invokevirtual 125, 3) := by decide +kernel
theorem dX4_addToColumn_10 : decode cX4_addToColumn 10 = .ok (.ifCond .eq 43, 3) := by decide +kernel
theorem dX4_addToColumn_13 : decode cX4_addToColumn 13 = .ok (.iload_n 2, 1) := by decide +kernel
theorem dX4_addToColumn_14 : decode cX4_addToColumn 14 = .ok (.i2l, 1) := by decide +kernel
theorem dX4_addToColumn_15 : decode cX4_addToColumn 15 = .ok (.ldc2_w 138, 3) := by decide +kernel
theorem dX4_addToColumn_18 : decode cX4_addToColumn 18 = .ok (.ldc2_w 128, 3) := by decide +kernel
theorem dX4_addToColumn_21 : decode cX4_addToColumn 21 = .ok (.invokestatic 63, 3) := by decide +kernel
theorem dX4_addToColumn_24 : decode cX4_addToColumn 24 = .ok (.ifCond .eq 29, 3) := by decide +kernel
theorem dX4_addToColumn_27 : decode cX4_addToColumn 27 = .ok (.iload 4, 2) := by decide +kernel
theorem dX4_addToColumn_29 : decode cX4_addToColumn 29 = .ok (.aload_n 0, 1) := by decide +kernel
theorem dX4_addToColumn_30 : decode cX4_addToColumn 30 = .ok (.getfield 7, 3) := by decide +kernel
theorem dX4_addToColumn_33 : decode cX4_addToColumn 33 = .ok (.if_icmp .ge 20, 3) := by decide +kernel
theorem dX4_addToColumn_36 : decode cX4_addToColumn 36 = .ok (.iload_n 3, 1) := by decide +kernel
theorem dX4_addToColumn_37 : decode cX4_addToColumn 37 = .ok (.aload_n 0, 1) := by decide +kernel
theorem dX4_addToColumn_38 : decode cX4_addToColumn 38 = .ok (.iload 4, 2) := by decide +kernel
theorem dX4_addToColumn_40 : decode cX4_addToColumn 40 = .ok (.iload_n 1, 1) := by decide +kernel
theorem dX4_addToColumn_41 : decode cX4_addToColumn 41 = .ok (.iload_n 2, 1) := by decide +kernel
theorem dX4_addToColumn_42 : decode cX4_addToColumn 42 = .ok (.invokevirtual 140, 3) := by decide +kernel
theorem dX4_addToColumn_45 : decode cX4_addToColumn 45 = .ok (.iand, 1) := by decide +kernel
theorem dX4_addToColumn_46 : decode cX4_addToColumn 46 = .ok (.istore_n 3, 1) := by decide +kernel
theorem dX4_addToColumn_47 : decode cX4_addToColumn 47 = .ok (.iinc 4 1, 3) := by decide +kernel
theorem dX4_addToColumn_50 : decode cX4_addToColumn 50 = .ok (.goto (-45), 3) := by decide +kernel
theorem dX4_addToColumn_53 : decode cX4_addToColumn 53 = .ok (.aload_n 0, 1) := by decide +kernel
theorem dX4_addToColumn_54 : decode cX4_addToColumn 54 = .ok (.aload_n 0, 1) := by decide +kernel
theorem dX4_addToColumn_55 : decode cX4_addToColumn 55 = .ok (.iload_n 1, 1) := by decide +kernel
theorem dX4_addToColumn_56 : decode cX4_addToColumn 56 = .ok (.invokevirtual 125, 3) := by decide +kernel
theorem dX4_addToColumn_59 : decode cX4_addToColumn 59 = .ok (.ifCond .ne 7, 3) := by decide +kernel
theorem dX4_addToColumn_62 : decode cX4_addToColumn 62 = .ok (.iconst 1, 1) := by decide +kernel
theorem dX4_addToColumn_63 : decode cX4_addToColumn 63 = .ok (.goto 30, 3) := by decide +kernel
theorem dX4_addToColumn_66 : decode cX4_addToColumn 66 = .ok (.iload_n 2, 1) := by decide +kernel
theorem dX4_addToColumn_67 : decode cX4_addToColumn 67 = .ok (.i2l, 1) := by decide +kernel
theorem dX4_addToColumn_68 : decode cX4_addToColumn 68 = .ok (.ldc2_w 138, 3) := by decide +kernel
theorem dX4_addToColumn_71 : decode cX4_addToColumn 71 = .ok (.ldc2_w 128, 3) := by decide +kernel
theorem dX4_addToColumn_74 : decode cX4_addToColumn 74 = .ok (.invokestatic 63, 3) := by decide +kernel
theorem dX4_addToColumn_77 : decode cX4_addToColumn 77 = .ok (.ifCond .ne 7, 3) := by decide +kernel
theorem dX4_addToColumn_80 : decode cX4_addToColumn 80 = .ok (.iconst 2, 1) := by decide +kernel
theorem dX4_addToColumn_81 : decode cX4_addToColumn 81 = .ok (.goto 12, 3) := by decide +kernel
theorem dX4_addToColumn_84 : decode cX4_addToColumn 84 = .ok (.iload_n 3, 1) := by decide +kernel
theorem dX4_addToColumn_85 : decode cX4_addToColumn 85 = .ok (.ifCond .ne 7, 3) := by decide +kernel
theorem dX4_addToColumn_88 : decode cX4_addToColumn 88 = .ok (.iconst 3, 1) := by decide +kernel
theorem dX4_addToColumn_89 : decode cX4_addToColumn 89 = .ok (.goto 4, 3) := by decide +kernel
theorem dX4_addToColumn_92 : decode cX4_addToColumn 92 = .ok (.iconst 0, 1) := by decide +kernel
theorem dX4_addToColumn_93 : decode cX4_addToColumn 93 = .ok (.invokevirtual 118, 3) := by decide +kernel
theorem dX4_addToColumn_96 : decode cX4_addToColumn 96 = .ok (.ifCond .eq 5, 3) := by decide +kernel
theorem dX4_addToColumn_99 : decode cX4_addToColumn 99 = .ok (.iconst 0, 1) := by decide +kernel
theorem dX4_addToColumn_100 : decode cX4_addToColumn 100 = .ok (.ireturn, 1) := by decide +kernel
theorem dX4_addToColumn_101 : decode cX4_addToColumn 101 = .ok (.iconst 0, 1) := by decide +kernel
theorem dX4_addToColumn_102 : decode cX4_addToColumn 102 = .ok (.istore 4, 2) := by decide +kernel
theorem dX4_addToColumn_104 : decode cX4_addToColumn 104 = .ok (.iload 4, 2) := by decide +kernel
theorem dX4_addToColumn_106 : decode cX4_addToColumn 106 = .ok (.aload_n 0, 1) := by decide +kernel
theorem dX4_addToColumn_107 : decode cX4_addToColumn 107 = .ok (.getfield 7, 3) := by decide +kernel
theorem dX4_addToColumn_110 : decode cX4_addToColumn 110 = .ok (.if_icmp .ge 25, 3) := by decide +kernel
theorem dX4_addToColumn_113 : decode cX4_addToColumn 113 = .ok (.aload_n 0, 1) := by decide +kernel
theorem dX4_addToColumn_114 : decode cX4_addToColumn 114 = .ok (.getfield 22, 3) := by decide +kernel
theorem dX4_addToColumn_117 : decode cX4_addToColumn 117 = .ok (.bipush 7, 2) := by decide +kernel
theorem dX4_addToColumn_119 : decode cX4_addToColumn 119 = .ok (.iload 4, 2) := by decide +kernel
theorem dX4_addToColumn_121 : decode cX4_addToColumn 121 = .ok (.imul, 1) := by decide +kernel
theorem dX4_addToColumn_122 : decode cX4_addToColumn 122 = .ok (.iload_n 1, 1) := by decide +kernel
theorem dX4_addToColumn_123 : decode cX4_addToColumn 123 = .ok (.iadd, 1) := by decide +kernel
theorem dX4_addToColumn_124 : decode cX4_addToColumn 124 = .ok (.dup2, 1) := by decide +kernel
theorem dX4_addToColumn_125 : decode cX4_addToColumn 125 = .ok (.iaload, 1) := by decide +kernel
theorem dX4_addToColumn_126 : decode cX4_addToColumn 126 = .ok (.iload_n 2, 1) := by decide +kernel
theorem dX4_addToColumn_127 : decode cX4_addToColumn 127 = .ok (.iadd, 1) := by decide +kernel
theorem dX4_addToColumn_128 : decode cX4_addToColumn 128 = .ok (.iastore, 1) := by decide +kernel
theorem dX4_addToColumn_129 : decode cX4_addToColumn 129 = .ok (.iinc 4 1, 3) := by decide +kernel
theorem dX4_addToColumn_132 : decode cX4_addToColumn 132 = .ok (.goto (-28), 3) := by decide +kernel
theorem dX4_addToColumn_135 : decode cX4_addToColumn 135 = .ok (.aload_n 0, 1) := by decide +kernel
theorem dX4_addToColumn_136 : decode cX4_addToColumn 136 = .ok (.iconst (-1), 1) := by decide +kernel
theorem dX4_addToColumn_137 : decode cX4_addToColumn 137 = .ok (.putfield 48, 3) := by decide +kernel
theorem dX4_addToColumn_140 : decode cX4_addToColumn 140 = .ok (.aload_n 0, 1) := by decide +kernel
theorem dX4_addToColumn_141 : decode cX4_addToColumn 141 = .ok (.iload_n 1, 1) := by decide +kernel
theorem dX4_addToColumn_142 : decode cX4_addToColumn 142 = .ok (.invokevirtual 147, 3) := by decide +kernel
theorem dX4_addToColumn_145 : decode cX4_addToColumn 145 = .ok (.ireturn, 1) := by decide +kernel
theorem dX4_exchangeCells_0 : decode cX4_exchangeCells 0 = .ok (.aload_n 0, 1) := by decide +kernel
theorem dX4_exchangeCells_1 : decode cX4_exchangeCells 1 = .ok (.getfield 22, 3) := by decide +kernel
theorem dX4_exchangeCells_4 : decode cX4_exchangeCells 4 = .ok (.iload_n 1, 1) := by decide +kernel
theorem dX4_exchangeCells_5 : decode cX4_exchangeCells 5 = .ok (.iaload, 1) := by decide +kernel
theorem dX4_exchangeCells_6 : decode cX4_exchangeCells 6 = .ok (.istore_n 3, 1) := by decide +kernel
theorem dX4_exchangeCells_7 : decode cX4_exchangeCells 7 = .ok (.aload_n 0, 1) := by decide +kernel
theorem dX4_exchangeCells_8 : decode cX4_exchangeCells 8 = .ok (.getfield 29, 3) := by decide +kernel
theorem dX4_exchangeCells_11 : decode cX4_exchangeCells 11 = .ok (.iload_n 1, 1) := by decide +kernel
theorem dX4_exchangeCells_12 : decode cX4_exchangeCells 12 = .ok (.baload, 1) := by decide +kernel
theorem dX4_exchangeCells_13 : decode cX4_exchangeCells 13 = .ok (.istore 4, 2) := by decide +kernel
theorem dX4_exchangeCells_15 : decode cX4_exchangeCells 15 = .ok (.aload_n 0, 1) := by decide +kernel
theorem dX4_exchangeCells_16 : decode cX4_exchangeCells 16 = .ok (.getfield 22, 3) := by decide +kernel
theorem dX4_exchangeCells_19 : decode cX4_exchangeCells 19 = .ok (.iload_n 1, 1) := by decide +kernel
theorem dX4_exchangeCells_20 : decode cX4_exchangeCells 20 = .ok (.aload_n 0, 1) := by decide +kernel
theorem dX4_exchangeCells_21 : decode cX4_exchangeCells 21 = .ok (.getfield 22, 3) := by decide +kernel
theorem dX4_exchangeCells_24 : decode cX4_exchangeCells 24 = .ok (.iload_n 2, 1) := by decide +kernel
theorem dX4_exchangeCells_25 : decode cX4_exchangeCells 25 = .ok (.iaload, 1) := by decide +kernel
theorem dX4_exchangeCells_26 : decode cX4_exchangeCells 26 = .ok (.iastore, 1) := by decide +kernel
theorem dX4_exchangeCells_27 : decode cX4_exchangeCells 27 = .ok (.aload_n 0, 1) := by decide +kernel
theorem dX4_exchangeCells_28 : decode cX4_exchangeCells 28 = .ok (.getfield 29, 3) := by decide +kernel
theorem dX4_exchangeCells_31 : decode cX4_exchangeCells 31 = .ok (.iload_n 1, 1) := by decide +kernel
theorem dX4_exchangeCells_32 : decode cX4_exchangeCells 32 = .ok (.aload_n 0, 1) := by decide +kernel
theorem dX4_exchangeCells_33 : decode cX4_exchangeCells 33 = .ok (.getfield 29, 3) := by decide +kernel
theorem dX4_exchangeCells_36 : decode cX4_exchangeCells 36 = .ok (.iload_n 2, 1) := by decide +kernel
theorem dX4_exchangeCells_37 : decode cX4_exchangeCells 37 = .ok (.baload, 1) := by decide +kernel
theorem dX4_exchangeCells_38 : decode cX4_exchangeCells 38 = .ok (.bastore, 1) := by decide +kernel
theorem dX4_exchangeCells_39 : decode cX4_exchangeCells 39 = .ok (.aload_n 0, 1) := by decide +kernel
theorem dX4_exchangeCells_40 : decode cX4_exchangeCells 40 = .ok (.getfield 22, 3) := by decide +kernel
theorem dX4_exchangeCells_43 : decode cX4_exchangeCells 43 = .ok (.iload_n 2, 1) := by decide +kernel
theorem dX4_exchangeCells_44 : decode cX4_exchangeCells 44 = .ok (.iload_n 3, 1) := by decide +kernel
theorem dX4_exchangeCells_45 : decode cX4_exchangeCells 45 = .ok (.iastore, 1) := by decide +kernel
theorem dX4_exchangeCells_46 : decode cX4_exchangeCells 46 = .ok (.aload_n 0, 1) := by decide +kernel
theorem dX4_exchangeCells_47 : decode cX4_exchangeCells 47 = .ok (.getfield 29, 3) := by decide +kernel
theorem dX4_exchangeCells_50 : decode cX4_exchangeCells 50 = .ok (.iload_n 2, 1) := by decide +kernel
theorem dX4_exchangeCells_51 : decode cX4_exchangeCells 51 = .ok (.iload 4, 2) := by decide +kernel
theorem dX4_exchangeCells_53 : decode cX4_exchangeCells 53 = .ok (.bastore, 1) := by decide +kernel
theorem dX4_exchangeCells_54 : decode cX4_exchangeCells 54 = .ok (.return_, 1) := by decide +kernel
theorem dX4_swapRows_0 : decode cX4_swapRows 0 = .ok (.aload_n 0, 1) := by decide +kernel
theorem dX4_swapRows_1 : decode cX4_swapRows 1 = .ok (.aload_n 0, 1) := by decide +kernel
theorem dX4_swapRows_2 : decode cX4_swapRows 2 = .ok (.iload_n 1, 1) := by decide +kernel
theorem dX4_swapRows_3 : decode cX4_swapRows 3 = .ok (.invokevirtual 122, 3) := by decide +kernel
theorem dX4_swapRows_6 : decode cX4_swapRows 6 = .ok (.ifCond .eq 11, 3) := by decide +kernel
theorem dX4_swapRows_9 : decode cX4_swapRows 9 = .ok (.aload_n 0, 1) := by decide +kernel
theorem dX4_swapRows_10 : decode cX4_swapRows 10 = .ok (.iload_n 2, 1) := by decide +kernel
theorem dX4_swapRows_11 : decode cX4_swapRows 11 = .ok (.invokevirtual 122, 3) := by decide +kernel
theorem dX4_swapRows_14 : decode cX4_swapRows 14 = .ok (.ifCond .ne 7, 3) := by decide +kernel
theorem dX4_swapRows_17 : decode cX4_swapRows 17 = .ok (.iconst 1, 1) := by decide +kernel
theorem dX4_swapRows_18 : decode cX4_swapRows 18 = .ok (.goto 4, 3) := by decide +kernel
theorem dX4_swapRows_21 : decode cX4_swapRows 21 = .ok (.iconst 0, 1) := by decide +kernel
theorem dX4_swapRows_22 : decode cX4_swapRows 22 = .ok (.invokevirtual 118, 3) := by decide +kernel
theorem dX4_swapRows_25 : decode cX4_swapRows 25 = .ok (.ifCond .eq 5, 3) := by decide +kernel
theorem dX4_swapRows_28 : decode cX4_swapRows 28 = .ok (.iconst 0, 1) := by decide +kernel
theorem dX4_swapRows_29 : decode cX4_swapRows 29 = .ok (.ireturn, 1) := by decide +kernel
theorem dX4_swapRows_30 : decode cX4_swapRows 30 = .ok (.iconst 0, 1) := by decide +kernel
theorem dX4_swapRows_31 : decode cX4_swapRows 31 = .ok (.istore_n 3, 1) := by decide +kernel
theorem dX4_swapRows_32 : decode cX4_swapRows 32 = .ok (.iload_n 3, 1) := by decide +kernel
theorem dX4_swapRows_33 : decode cX4_swapRows 33 = .ok (.aload_n 0, 1) := by decide +kernel
theorem dX4_swapRows_34 : decode cX4_swapRows 34 = .ok (.getfield 13, 3) := by decide +kernel
theorem dX4_swapRows_37 : decode cX4_swapRows 37 = .ok (.if_icmp .ge 25, 3) := by decide +kernel
theorem dX4_swapRows_40 : decode cX4_swapRows 40 = .ok (.aload_n 0, 1) := by decide +kernel
theorem dX4_swapRows_41 : decode cX4_swapRows 41 = .ok (.bipush 7, 2) := by decide +kernel
theorem dX4_swapRows_43 : decode cX4_swapRows 43 = .ok (.iload_n 1, 1) := by decide +kernel
theorem dX4_swapRows_44 : decode cX4_swapRows 44 = .ok (.imul, 1) := by decide +kernel
theorem dX4_swapRows_45 : decode cX4_swapRows 45 = .ok (.iload_n 3, 1) := by decide +kernel
theorem dX4_swapRows_46 : decode cX4_swapRows 46 = .ok (.iadd, 1) := by decide +kernel
theorem dX4_swapRows_47 : decode cX4_swapRows 47 = .ok (.bipush 7, 2) := by decide +kernel
theorem dX4_swapRows_49 : decode cX4_swapRows 49 = .ok (.iload_n 2, 1) := by decide +kernel
theorem dX4_swapRows_50 : decode cX4_swapRows 50 = .ok (.imul, 1) := by decide +kernel
theorem dX4_swapRows_51 : decode cX4_swapRows 51 = .ok (.iload_n 3, 1) := by decide +kernel
theorem dX4_swapRows_52 : decode cX4_swapRows 52 = .ok (.iadd, 1) := by decide +kernel
theorem dX4_swapRows_53 : decode cX4_swapRows 53 = .ok (.invokevirtual 150, 3) := by decide +kernel
theorem dX4_swapRows_56 : decode cX4_swapRows 56 = .ok (.iinc 3 1, 3) := by decide +kernel
theorem dX4_swapRows_59 : decode cX4_swapRows 59 = .ok (.goto (-27), 3) := by decide +kernel
theorem dX4_swapRows_62 : decode cX4_swapRows 62 = .ok (.aload_n 0, 1) := by decide +kernel
theorem dX4_swapRows_63 : decode cX4_swapRows 63 = .ok (.iconst (-1), 1) := by decide +kernel
theorem dX4_swapRows_64 : decode cX4_swapRows 64 = .ok (.putfield 48, 3) := by decide +kernel
theorem dX4_swapRows_67 : decode cX4_swapRows 67 = .ok (.aload_n 0, 1) := by decide +kernel
theorem dX4_swapRows_68 : decode cX4_swapRows 68 = .ok (.iload_n 1, 1) := by decide +kernel
theorem dX4_swapRows_69 : decode cX4_swapRows 69 = .ok (.invokevirtual 144, 3) := by decide +kernel
theorem dX4_swapRows_72 : decode cX4_swapRows 72 = .ok (.ireturn, 1) := by decide +kernel
theorem dX4_swapColumns_0 : decode cX4_swapColumns 0 = .ok (.aload_n 0, 1) := by decide +kernel
theorem dX4_swapColumns_1 : decode cX4_swapColumns 1 = .ok (.aload_n 0, 1) := by decide +kernel
theorem dX4_swapColumns_2 : decode cX4_swapColumns 2 = .ok (.iload_n 1, 1) := by decide +kernel
theorem dX4_swapColumns_3 : decode cX4_swapColumns 3 = .ok (.invokevirtual 125, 3) := by decide +kernel
theorem dX4_swapColumns_6 : decode cX4_swapColumns 6 = .ok (.ifCond .eq 11, 3) := by decide +kernel
theorem dX4_swapColumns_9 : decode cX4_swapColumns 9 = .ok (.aload_n 0, 1) := by decide +kernel
theorem dX4_swapColumns_10 : decode cX4_swapColumns 10 = .ok (.iload_n 2, 1) := by decide +kernel
theorem dX4_swapColumns_11 : decode cX4_swapColumns 11 = .ok (.invokevirtual 125, 3) := by decide +kernel
theorem dX4_swapColumns_14 : decode cX4_swapColumns 14 = .ok (.ifCond .ne 7, 3) := by decide +kernel
theorem dX4_swapColumns_17 : decode cX4_swapColumns 17 = .ok (.iconst 1, 1) := by decide +kernel
theorem dX4_swapColumns_18 : decode cX4_swapColumns 18 = .ok (.goto 4, 3) := by decide +kernel
theorem dX4_swapColumns_21 : decode cX4_swapColumns 21 = .ok (.iconst 0, 1) := by decide +kernel
theorem dX4_swapColumns_22 : decode cX4_swapColumns 22 = .ok (.invokevirtual 118, 3) := by decide +kernel
theorem dX4_swapColumns_25 : decode cX4_swapColumns 25 = .ok (.ifCond .eq 5, 3) := by decide +kernel
theorem dX4_swapColumns_28 : decode cX4_swapColumns 28 = .ok (.iconst 0, 1) := by decide +kernel
theorem dX4_swapColumns_29 : decode cX4_swapColumns 29 = .ok (.ireturn, 1) := by decide +kernel
theorem dX4_swapColumns_30 : decode cX4_swapColumns 30 = .ok (.iconst 0, 1) := by decide +kernel
theorem dX4_swapColumns_31 : decode cX4_swapColumns 31 = .ok (.istore_n 3, 1) := by decide +kernel
theorem dX4_swapColumns_32 : decode cX4_swapColumns 32 = .ok (.iload_n 3, 1) := by decide +kernel
theorem dX4_swapColumns_33 : decode cX4_swapColumns 33 = .ok (.aload_n 0, 1) := by decide +kernel
theorem dX4_swapColumns_34 : decode cX4_swapColumns 34 = .ok (.getfield 7, 3) := by decide +kernel
theorem dX4_swapColumns_37 : decode cX4_swapColumns 37 = .ok (.if_icmp .ge 25, 3) := by decide +kernel
theorem dX4_swapColumns_40 : decode cX4_swapColumns 40 = .ok (.aload_n 0, 1) := by decide +kernel
theorem dX4_swapColumns_41 : decode cX4_swapColumns 41 = .ok (.bipush 7, 2) := by decide +kernel
theorem dX4_swapColumns_43 : decode cX4_swapColumns 43 = .ok (.iload_n 3, 1) := by decide +kernel
theorem dX4_swapColumns_44 : decode cX4_swapColumns 44 = .ok (.imul, 1) := by decide +kernel
theorem dX4_swapColumns_45 : decode cX4_swapColumns 45 = .ok (.iload_n 1, 1) := by decide +kernel
theorem dX4_swapColumns_46 : decode cX4_swapColumns 46 = .ok (.iadd, 1) := by decide +kernel
theorem dX4_swapColumns_47 : decode cX4_swapColumns 47 = .ok (.bipush 7, 2) := by decide +kernel
theorem dX4_swapColumns_49 : decode cX4_swapColumns 49 = .ok (.iload_n 3, 1) := by decide +kernel
theorem dX4_swapColumns_50 : decode cX4_swapColumns 50 = .ok (.imul, 1) := by decide +kernel
theorem dX4_swapColumns_51 : decode cX4_swapColumns 51 = .ok (.iload_n 2, 1) := by decide +kernel
theorem dX4_swapColumns_52 : decode cX4_swapColumns 52 = .ok (.iadd, 1) := by decide +kernel
theorem dX4_swapColumns_53 : decode cX4_swapColumns 53 = .ok (.invokevirtual 150, 3) := by decide +kernel
theorem dX4_swapColumns_56 : decode cX4_swapColumns 56 = .ok (.iinc 3 1, 3) := by decide +kernel
theorem dX4_swapColumns_59 : decode cX4_swapColumns 59 = .ok (.goto (-27), 3) := by decide +kernel
theorem dX4_swapColumns_62 : decode cX4_swapColumns 62 = .ok (.aload_n 0, 1) := by decide +kernel
theorem dX4_swapColumns_63 : decode cX4_swapColumns 63 = .ok (.iconst (-1), 1) := by decide +kernel
theorem dX4_swapColumns_64 : decode cX4_swapColumns 64 = .ok (.putfield 48, 3) := by decide +kernel
theorem dX4_swapColumns_67 : decode cX4_swapColumns 67 = .ok (.aload_n 0, 1) := by decide +kernel
theorem dX4_swapColumns_68 : decode cX4_swapColumns 68 = .ok (.iload_n 1, 1) := by decide +kernel
theorem dX4_swapColumns_69 : decode cX4_swapColumns 69 = .ok (.invokevirtual 147, 3) := by decide +kernel
theorem dX4_swapColumns_72 : decode cX4_swapColumns 72 = .ok (.ireturn, 1) := by decide +kernel
theorem dX4_transpose_0 : decode cX4_transpose 0 = .ok (.aload_n 0, 1) := by decide +kernel
theorem dX4_transpose_1 : decode cX4_transpose 1 = .ok (.aload_n 0, 1) := by decide +kernel
theorem dX4_transpose_2 : decode cX4_transpose 2 = .ok (.getfield 13, 3) := by decide +kernel
theorem dX4_transpose_5 : decode cX4_transpose 5 = .ok (.aload_n 0, 1) := by decide +kernel
theorem dX4_transpose_6 : decode cX4_transpose 6 = .ok (.getfield 7, 3) := by decide +kernel
theorem dX4_transpose_9 : decode cX4_transpose 9 = .ok (.if_icmp .ge 7, 3) := by decide +kernel
theorem dX4_transpose_12 : decode cX4_transpose 12 = .ok (.iconst 1, 1) := by decide +kernel
theorem dX4_transpose_13 : decode cX4_transpose 13 = .ok (.goto 4, 3) := by decide +kernel
theorem dX4_transpose_16 : decode cX4_transpose 16 = .ok (.iconst 0, 1) := by decide +kernel
theorem dX4_transpose_17 : decode cX4_transpose 17 = .ok (.invokevirtual 118, 3) := by decide +kernel
theorem dX4_transpose_20 : decode cX4_transpose 20 = .ok (.ifCond .eq 5, 3) := by decide +kernel
theorem dX4_transpose_23 : decode cX4_transpose 23 = .ok (.iconst 0, 1) := by decide +kernel
theorem dX4_transpose_24 : decode cX4_transpose 24 = .ok (.ireturn, 1) := by decide +kernel
theorem dX4_transpose_25 : decode cX4_transpose 25 = .ok (.iconst 0, 1) := by decide +kernel
theorem dX4_transpose_26 : decode cX4_transpose 26 = .ok (.istore_n 1, 1) := by decide +kernel
theorem dX4_transpose_27 : decode cX4_transpose 27 = .ok (.iload_n 1, 1) := by decide +kernel
theorem dX4_transpose_28 : decode cX4_transpose 28 = .ok (.aload_n 0, 1) := by decide +kernel
theorem dX4_transpose_29 : decode cX4_transpose 29 = .ok (.getfield 7, 3) := by decide +kernel
theorem dX4_transpose_32 : decode cX4_transpose 32 = .ok (.if_icmp .ge 38, 3) := by decide +kernel
theorem dX4_transpose_35 : decode cX4_transpose 35 = .ok (.iconst 0, 1) := by decide +kernel
theorem dX4_transpose_36 : decode cX4_transpose 36 = .ok (.istore_n 2, 1) := by decide +kernel
theorem dX4_transpose_37 : decode cX4_transpose 37 = .ok (.iload_n 2, 1) := by decide +kernel
theorem dX4_transpose_38 : decode cX4_transpose 38 = .ok (.iload_n 1, 1) := by decide +kernel
theorem dX4_transpose_39 : decode cX4_transpose 39 = .ok (.if_icmp .ge 25, 3) := by decide +kernel
theorem dX4_transpose_42 : decode cX4_transpose 42 = .ok (.aload_n 0, 1) := by decide +kernel
theorem dX4_transpose_43 : decode cX4_transpose 43 = .ok (.bipush 7, 2) := by decide +kernel
theorem dX4_transpose_45 : decode cX4_transpose 45 = .ok (.iload_n 1, 1) := by decide +kernel
theorem dX4_transpose_46 : decode cX4_transpose 46 = .ok (.imul, 1) := by decide +kernel
theorem dX4_transpose_47 : decode cX4_transpose 47 = .ok (.iload_n 2, 1) := by decide +kernel
theorem dX4_transpose_48 : decode cX4_transpose 48 = .ok (.iadd, 1) := by decide +kernel
theorem dX4_transpose_49 : decode cX4_transpose 49 = .ok (.bipush 7, 2) := by decide +kernel
theorem dX4_transpose_51 : decode cX4_transpose 51 = .ok (.iload_n 2, 1) := by decide +kernel
theorem dX4_transpose_52 : decode cX4_transpose 52 = .ok (.imul, 1) := by decide +kernel
theorem dX4_transpose_53 : decode cX4_transpose 53 = .ok (.iload_n 1, 1) := by decide +kernel
theorem dX4_transpose_54 : decode cX4_transpose 54 = .ok (.iadd, 1) := by decide +kernel
theorem dX4_transpose_55 : decode cX4_transpose 55 = .ok (.invokevirtual 150, 3) := by decide +kernel
theorem dX4_transpose_58 : decode cX4_transpose 58 = .ok (.iinc 2 1, 3) := by decide +kernel
theorem dX4_transpose_61 : decode cX4_transpose 61 = .ok (.goto (-24), 3) := by decide +kernel
theorem dX4_transpose_64 : decode cX4_transpose 64 = .ok (.iinc 1 1, 3) := by decide +kernel
theorem dX4_transpose_67 : decode cX4_transpose 67 = .ok (.goto (-40), 3) := by decide +kernel
theorem dX4_transpose_70 : decode cX4_transpose 70 = .ok (.aload_n 0, 1) := by decide +kernel
theorem dX4_transpose_71 : decode cX4_transpose 71 = .ok (.iconst (-1), 1) := by decide +kernel
theorem dX4_transpose_72 : decode cX4_transpose 72 = .ok (.putfield 48, 3) := by decide +kernel
theorem dX4_transpose_75 : decode cX4_transpose 75 = .ok (.aload_n 0, 1) := by decide +kernel
theorem dX4_transpose_76 : decode cX4_transpose 76 = .ok (.getfield 7, 3) := by decide +kernel
theorem dX4_transpose_79 : decode cX4_transpose 79 = .ok (.ireturn, 1) := by decide +kernel
theorem dX4_total_0 : decode cX4_total 0 = .ok (.iconst 0, 1) := by decide +kernel
theorem dX4_total_1 : decode cX4_total 1 = .ok (.istore_n 1, 1) := by decide +kernel
theorem dX4_total_2 : decode cX4_total 2 = .ok (.iconst 0, 1) := by decide +kernel
theorem dX4_total_3 : decode cX4_total 3 = .ok (.istore_n 2, 1) := by decide +kernel
theorem dX4_total_4 : decode cX4_total 4 = .ok (.iload_n 2, 1) := by decide +kernel
theorem dX4_total_5 : decode cX4_total 5 = .ok (.aload_n 0, 1) := by decide +kernel
theorem dX4_total_6 : decode cX4_total 6 = .ok (.getfield 7, 3) := by decide +kernel
theorem dX4_total_9 : decode cX4_total 9 = .ok (.if_icmp .ge 17, 3) := by decide +kernel
theorem dX4_total_12 : decode cX4_total 12 = .ok (.iload_n 1, 1) := by decide +kernel
theorem dX4_total_13 : decode cX4_total 13 = .ok (.aload_n 0, 1) := by decide +kernel
theorem dX4_total_14 : decode cX4_total 14 = .ok (.iload_n 2, 1) := by decide +kernel
theorem dX4_total_15 : decode cX4_total 15 = .ok (.invokevirtual 144, 3) := by decide +kernel
theorem dX4_total_18 : decode cX4_total 18 = .ok (.iadd, 1) := by decide +kernel
theorem dX4_total_19 : decode cX4_total 19 = .ok (.istore_n 1, 1) := by decide +kernel
theorem dX4_total_20 : decode cX4_total 20 = .ok (.iinc 2 1, 3) := by decide +kernel
theorem dX4_total_23 : decode cX4_total 23 = .ok (.goto (-19), 3) := by decide +kernel
theorem dX4_total_26 : decode cX4_total 26 = .ok (.iload_n 1, 1) := by decide +kernel
theorem dX4_total_27 : decode cX4_total 27 = .ok (.ireturn, 1) := by decide +kernel
theorem dX4_save_0 : decode cX4_save 0 = .ok (.aload_n 0, 1) := by decide +kernel
theorem dX4_save_1 : decode cX4_save 1 = .ok (.aload_n 0, 1) := by decide +kernel
theorem dX4_save_2 : decode cX4_save 2 = .ok (.getfield 7, 3) := by decide +kernel
theorem dX4_save_5 : decode cX4_save 5 = .ok (.putfield 16, 3) := by decide +kernel
theorem dX4_save_8 : decode cX4_save 8 = .ok (.aload_n 0, 1) := by decide +kernel
theorem dX4_save_9 : decode cX4_save 9 = .ok (.aload_n 0, 1) := by decide +kernel
theorem dX4_save_10 : decode cX4_save 10 = .ok (.getfield 13, 3) := by decide +kernel
theorem dX4_save_13 : decode cX4_save 13 = .ok (.putfield 19, 3) := by decide +kernel
theorem dX4_save_16 : decode cX4_save 16 = .ok (.iconst 0, 1) := by decide +kernel
theorem dX4_save_17 : decode cX4_save 17 = .ok (.istore_n 1, 1) := by decide +kernel
theorem dX4_save_18 : decode cX4_save 18 = .ok (.iload_n 1, 1) := by decide +kernel
theorem dX4_save_19 : decode cX4_save 19 = .ok (.bipush 49, 2) := by decide +kernel
theorem dX4_save_21 : decode cX4_save 21 = .ok (.if_icmp .ge 33, 3) := by decide +kernel
theorem dX4_save_24 : decode cX4_save 24 = .ok (.aload_n 0, 1) := by decide +kernel
theorem dX4_save_25 : decode cX4_save 25 = .ok (.getfield 26, 3) := by decide +kernel
theorem dX4_save_28 : decode cX4_save 28 = .ok (.iload_n 1, 1) := by decide +kernel
theorem dX4_save_29 : decode cX4_save 29 = .ok (.aload_n 0, 1) := by decide +kernel
theorem dX4_save_30 : decode cX4_save 30 = .ok (.getfield 22, 3) := by decide +kernel
theorem dX4_save_33 : decode cX4_save 33 = .ok (.iload_n 1, 1) := by decide +kernel
theorem dX4_save_34 : decode cX4_save 34 = .ok (.iaload, 1) := by decide +kernel
theorem dX4_save_35 : decode cX4_save 35 = .ok (.iastore, 1) := by decide +kernel
theorem dX4_save_36 : decode cX4_save 36 = .ok (.aload_n 0, 1) := by decide +kernel
theorem dX4_save_37 : decode cX4_save 37 = .ok (.getfield 33, 3) := by decide +kernel
theorem dX4_save_40 : decode cX4_save 40 = .ok (.iload_n 1, 1) := by decide +kernel
theorem dX4_save_41 : decode cX4_save 41 = .ok (.aload_n 0, 1) := by decide +kernel
theorem dX4_save_42 : decode cX4_save 42 = .ok (.getfield 29, 3) := by decide +kernel
theorem dX4_save_45 : decode cX4_save 45 = .ok (.iload_n 1, 1) := by decide +kernel
theorem dX4_save_46 : decode cX4_save 46 = .ok (.baload, 1) := by decide +kernel
theorem dX4_save_47 : decode cX4_save 47 = .ok (.bastore, 1) := by decide +kernel
theorem dX4_save_48 : decode cX4_save 48 = .ok (.iinc 1 1, 3) := by decide +kernel
theorem dX4_save_51 : decode cX4_save 51 = .ok (.goto (-33), 3) := by decide +kernel
theorem dX4_save_54 : decode cX4_save 54 = .ok (.aload_n 0, 1) := by decide +kernel
theorem dX4_save_55 : decode cX4_save 55 = .ok (.invokevirtual 153, 3) := by decide +kernel
theorem dX4_save_58 : decode cX4_save 58 = .ok (.ireturn, 1) := by decide +kernel
theorem dX4_restore_0 : decode cX4_restore 0 = .ok (.aload_n 0, 1) := by decide +kernel
theorem dX4_restore_1 : decode cX4_restore 1 = .ok (.aload_n 0, 1) := by decide +kernel
theorem dX4_restore_2 : decode cX4_restore 2 = .ok (.getfield 16, 3) := by decide +kernel
theorem dX4_restore_5 : decode cX4_restore 5 = .ok (.putfield 7, 3) := by decide +kernel
theorem dX4_restore_8 : decode cX4_restore 8 = .ok (.aload_n 0, 1) := by decide +kernel
theorem dX4_restore_9 : decode cX4_restore 9 = .ok (.aload_n 0, 1) := by decide +kernel
theorem dX4_restore_10 : decode cX4_restore 10 = .ok (.getfield 19, 3) := by decide +kernel
theorem dX4_restore_13 : decode cX4_restore 13 = .ok (.putfield 13, 3) := by decide +kernel
theorem dX4_restore_16 : decode cX4_restore 16 = .ok (.iconst 0, 1) := by decide +kernel
theorem dX4_restore_17 : decode cX4_restore 17 = .ok (.istore_n 1, 1) := by decide +kernel
theorem dX4_restore_18 : decode cX4_restore 18 = .ok (.iload_n 1, 1) := by decide +kernel
theorem dX4_restore_19 : decode cX4_restore 19 = .ok (.bipush 49, 2) := by decide +kernel
theorem dX4_restore_21 : decode cX4_restore 21 = .ok (.if_icmp .ge 33, 3) := by decide +kernel
theorem dX4_restore_24 : decode cX4_restore 24 = .ok (.aload_n 0, 1) := by decide +kernel
theorem dX4_restore_25 : decode cX4_restore 25 = .ok (.getfield 22, 3) := by decide +kernel
theorem dX4_restore_28 : decode cX4_restore 28 = .ok (.iload_n 1, 1) := by decide +kernel
theorem dX4_restore_29 : decode cX4_restore 29 = .ok (.aload_n 0, 1) := by decide +kernel
theorem dX4_restore_30 : decode cX4_restore 30 = .ok (.getfield 26, 3) := by decide +kernel
theorem dX4_restore_33 : decode cX4_restore 33 = .ok (.iload_n 1, 1) := by decide +kernel
theorem dX4_restore_34 : decode cX4_restore 34 = .ok (.iaload, 1) := by decide +kernel
theorem dX4_restore_35 : decode cX4_restore 35 = .ok (.iastore, 1) := by decide +kernel
theorem dX4_restore_36 : decode cX4_restore 36 = .ok (.aload_n 0, 1) := by decide +kernel
theorem dX4_restore_37 : decode cX4_restore 37 = .ok (.getfield 29, 3) := by decide +kernel
theorem dX4_restore_40 : decode cX4_restore 40 = .ok (.iload_n 1, 1) := by decide +kernel
theorem dX4_restore_41 : decode cX4_restore 41 = .ok (.aload_n 0, 1) := by decide +kernel
theorem dX4_restore_42 : decode cX4_restore 42 = .ok (.getfield 33, 3) := by decide +kernel
theorem dX4_restore_45 : decode cX4_restore 45 = .ok (.iload_n 1, 1) := by decide +kernel
theorem dX4_restore_46 : decode cX4_restore 46 = .ok (.baload, 1) := by decide +kernel
theorem dX4_restore_47 : decode cX4_restore 47 = .ok (.bastore, 1) := by decide +kernel
theorem dX4_restore_48 : decode cX4_restore 48 = .ok (.iinc 1 1, 3) := by decide +kernel
theorem dX4_restore_51 : decode cX4_restore 51 = .ok (.goto (-33), 3) := by decide +kernel
theorem dX4_restore_54 : decode cX4_restore 54 = .ok (.aload_n 0, 1) := by decide +kernel
theorem dX4_restore_55 : decode cX4_restore 55 = .ok (.iconst (-1), 1) := by decide +kernel
theorem dX4_restore_56 : decode cX4_restore 56 = .ok (.putfield 48, 3) := by decide +kernel
theorem dX4_restore_59 : decode cX4_restore 59 = .ok (.aload_n 0, 1) := by decide +kernel
theorem dX4_restore_60 : decode cX4_restore 60 = .ok (.getfield 7, 3) := by decide +kernel
theorem dX4_restore_63 : decode cX4_restore 63 = .ok (.ireturn, 1) := by decide +kernel
theorem dX4_distance_0 : decode cX4_distance 0 = .ok (.aload_n 0, 1) := by decide +kernel
theorem dX4_distance_1 : decode cX4_distance 1 = .ok (.getfield 7, 3) := by decide +kernel
theorem dX4_distance_4 : decode cX4_distance 4 = .ok (.aload_n 0, 1) := by decide +kernel
theorem dX4_distance_5 : decode cX4_distance 5 = .ok (.getfield 16, 3) := by decide +kernel
theorem dX4_distance_8 : decode cX4_distance 8 = .ok (.if_icmp .ne 14, 3) := by decide +kernel
theorem dX4_distance_11 : decode cX4_distance 11 = .ok (.aload_n 0, 1) := by decide +kernel
theorem dX4_distance_12 : decode cX4_distance 12 = .ok (.getfield 13, 3) := by decide +kernel
theorem dX4_distance_15 : decode cX4_distance 15 = .ok (.aload_n 0, 1) := by decide +kernel
theorem dX4_distance_16 : decode cX4_distance 16 = .ok (.getfield 19, 3) := by decide +kernel
theorem dX4_distance_19 : decode cX4_distance 19 = .ok (.if_icmp .eq 5, 3) := by decide +kernel
theorem dX4_distance_22 : decode cX4_distance 22 = .ok (.iconst (-1), 1) := by decide +kernel
theorem dX4_distance_23 : decode cX4_distance 23 = .ok (.ireturn, 1) := by decide +kernel
theorem dX4_distance_24 : decode cX4_distance 24 = .ok (.iconst 0, 1) := by decide +kernel
theorem dX4_distance_25 : decode cX4_distance 25 = .ok (.istore_n 1, 1) := by decide +kernel
theorem dX4_distance_26 : decode cX4_distance 26 = .ok (.iconst 0, 1) := by decide +kernel
theorem dX4_distance_27 : decode cX4_distance 27 = .ok (.istore_n 2, 1) := by decide +kernel
theorem dX4_distance_28 : decode cX4_distance 28 = .ok (.iload_n 2, 1) := by decide +kernel
theorem dX4_distance_29 : decode cX4_distance 29 = .ok (.aload_n 0, 1) := by decide +kernel
theorem dX4_distance_30 : decode cX4_distance 30 = .ok (.getfield 7, 3) := by decide +kernel
theorem dX4_distance_33 : decode cX4_distance 33 = .ok (.if_icmp .ge 56, 3) := by decide +kernel
theorem dX4_distance_36 : decode cX4_distance 36 = .ok (.iconst 0, 1) := by decide +kernel
theorem dX4_distance_37 : decode cX4_distance 37 = .ok (.istore_n 3, 1) := by decide +kernel
theorem dX4_distance_38 : decode cX4_distance 38 = .ok (.iload_n 3, 1) := by decide +kernel
theorem dX4_distance_39 : decode cX4_distance 39 = .ok (.aload_n 0, 1) := by decide +kernel
theorem dX4_distance_40 : decode cX4_distance 40 = .ok (.getfield 7, 3) := by decide +kernel
theorem dX4_distance_43 : decode cX4_distance 43 = .ok (.if_icmp .ge 40, 3) := by decide +kernel
theorem dX4_distance_46 : decode cX4_distance 46 = .ok (.aload_n 0, 1) := by decide +kernel
theorem dX4_distance_47 : decode cX4_distance 47 = .ok (.iload_n 2, 1) := by decide +kernel
theorem dX4_distance_48 : decode cX4_distance 48 = .ok (.iload_n 3, 1) := by decide +kernel
theorem dX4_distance_49 : decode cX4_distance 49 = .ok (.invokevirtual 75, 3) := by decide +kernel
theorem dX4_distance_52 : decode cX4_distance 52 = .ok (.aload_n 0, 1) := by decide +kernel
theorem dX4_distance_53 : decode cX4_distance 53 = .ok (.iload_n 2, 1) := by decide +kernel
theorem dX4_distance_54 : decode cX4_distance 54 = .ok (.iload_n 3, 1) := by decide +kernel
theorem dX4_distance_55 : decode cX4_distance 55 = .ok (.invokevirtual 156, 3) := by decide +kernel
theorem dX4_distance_58 : decode cX4_distance 58 = .ok (.isub, 1) := by decide +kernel
theorem dX4_distance_59 : decode cX4_distance 59 = .ok (.istore 4, 2) := by decide +kernel
theorem dX4_distance_61 : decode cX4_distance 61 = .ok (.iload_n 1, 1) := by decide +kernel
theorem dX4_distance_62 : decode cX4_distance 62 = .ok (.iload 4, 2) := by decide +kernel
theorem dX4_distance_64 : decode cX4_distance 64 = .ok (.ifCond .ge 9, 3) := by decide +kernel
theorem dX4_distance_67 : decode cX4_distance 67 = .ok (.iload 4, 2) := by decide +kernel
theorem dX4_distance_69 : decode cX4_distance 69 = .ok (.ineg, 1) := by decide +kernel
theorem dX4_distance_70 : decode cX4_distance 70 = .ok (.goto 5, 3) := by decide +kernel
theorem dX4_distance_73 : decode cX4_distance 73 = .ok (.iload 4, 2) := by decide +kernel
theorem dX4_distance_75 : decode cX4_distance 75 = .ok (.iadd, 1) := by decide +kernel
theorem dX4_distance_76 : decode cX4_distance 76 = .ok (.istore_n 1, 1) := by decide +kernel
theorem dX4_distance_77 : decode cX4_distance 77 = .ok (.iinc 3 1, 3) := by decide +kernel
theorem dX4_distance_80 : decode cX4_distance 80 = .ok (.goto (-42), 3) := by decide +kernel
theorem dX4_distance_83 : decode cX4_distance 83 = .ok (.iinc 2 1, 3) := by decide +kernel
theorem dX4_distance_86 : decode cX4_distance 86 = .ok (.goto (-58), 3) := by decide +kernel
theorem dX4_distance_89 : decode cX4_distance 89 = .ok (.iload_n 1, 1) := by decide +kernel
theorem dX4_distance_90 : decode cX4_distance 90 = .ok (.ireturn, 1) := by decide +kernel
theorem dX4_rows_0 : decode cX4_rows 0 = .ok (.aload_n 0, 1) := by decide +kernel
theorem dX4_rows_1 : decode cX4_rows 1 = .ok (.getfield 7, 3) := by decide +kernel
theorem dX4_rows_4 : decode cX4_rows 4 = .ok (.ireturn, 1) := by decide +kernel
theorem dX4_columns_0 : decode cX4_columns 0 = .ok (.aload_n 0, 1) := by decide +kernel
theorem dX4_columns_1 : decode cX4_columns 1 = .ok (.getfield 13, 3) := by decide +kernel
theorem dX4_columns_4 : decode cX4_columns 4 = .ok (.ireturn, 1) := by decide +kernel
theorem dX4_forbiddenCount_0 : decode cX4_forbiddenCount 0 = .ok (.aload_n 0, 1) := by decide +kernel
theorem dX4_forbiddenCount_1 : decode cX4_forbiddenCount 1 = .ok (.invokevirtual 134, 3) := by decide +kernel
theorem dX4_forbiddenCount_4 : decode cX4_forbiddenCount 4 = .ok (.ireturn, 1) := by decide +kernel
theorem dX4_totalCost_0 : decode cX4_totalCost 0 = .ok (.aload_n 0, 1) := by decide +kernel
theorem dX4_totalCost_1 : decode cX4_totalCost 1 = .ok (.invokevirtual 153, 3) := by decide +kernel
theorem dX4_totalCost_4 : decode cX4_totalCost 4 = .ok (.ireturn, 1) := by decide +kernel
theorem dX4_minimum_0 : decode cX4_minimum 0 = .ok (.aload_n 0, 1) := by decide +kernel
theorem dX4_minimum_1 : decode cX4_minimum 1 = .ok (.invokevirtual 114, 3) := by decide +kernel
theorem dX4_minimum_4 : decode cX4_minimum 4 = .ok (.aload_n 0, 1) := by decide +kernel
theorem dX4_minimum_5 : decode cX4_minimum 5 = .ok (.getfield 80, 3) := by decide +kernel
theorem dX4_minimum_8 : decode cX4_minimum 8 = .ok (.ireturn, 1) := by decide +kernel
theorem dX4_savedMinimum_0 : decode cX4_savedMinimum 0 = .ok (.iconst 0, 1) := by decide +kernel
theorem dX4_savedMinimum_1 : decode cX4_savedMinimum 1 = .ok (.istore_n 1, 1) := by decide +kernel
theorem dX4_savedMinimum_2 : decode cX4_savedMinimum 2 = .ok (.iload_n 1, 1) := by decide +kernel
theorem dX4_savedMinimum_3 : decode cX4_savedMinimum 3 = .ok (.aload_n 0, 1) := by decide +kernel
theorem dX4_savedMinimum_4 : decode cX4_savedMinimum 4 = .ok (.getfield 16, 3) := by decide +kernel
theorem dX4_savedMinimum_7 : decode cX4_savedMinimum 7 = .ok (.if_icmp .ge 42, 3) := by decide +kernel
theorem dX4_savedMinimum_10 : decode cX4_savedMinimum 10 = .ok (.iconst 0, 1) := by decide +kernel
theorem dX4_savedMinimum_11 : decode cX4_savedMinimum 11 = .ok (.istore_n 2, 1) := by decide +kernel
theorem dX4_savedMinimum_12 : decode cX4_savedMinimum 12 = .ok (.iload_n 2, 1) := by decide +kernel
theorem dX4_savedMinimum_13 : decode cX4_savedMinimum 13 = .ok (.aload_n 0, 1) := by decide +kernel
theorem dX4_savedMinimum_14 : decode cX4_savedMinimum 14 = .ok (.getfield 16, 3) := by decide +kernel
theorem dX4_savedMinimum_17 : decode cX4_savedMinimum 17 = .ok (.if_icmp .ge 26, 3) := by decide +kernel
theorem dX4_savedMinimum_20 : decode cX4_savedMinimum 20 = .ok (.aload_n 0, 1) := by decide +kernel
theorem dX4_savedMinimum_21 : decode cX4_savedMinimum 21 = .ok (.getfield 36, 3) := by decide +kernel
theorem dX4_savedMinimum_24 : decode cX4_savedMinimum 24 = .ok (.bipush 7, 2) := by decide +kernel
theorem dX4_savedMinimum_26 : decode cX4_savedMinimum 26 = .ok (.iload_n 1, 1) := by decide +kernel
theorem dX4_savedMinimum_27 : decode cX4_savedMinimum 27 = .ok (.imul, 1) := by decide +kernel
theorem dX4_savedMinimum_28 : decode cX4_savedMinimum 28 = .ok (.iload_n 2, 1) := by decide +kernel
theorem dX4_savedMinimum_29 : decode cX4_savedMinimum 29 = .ok (.iadd, 1) := by decide +kernel
theorem dX4_savedMinimum_30 : decode cX4_savedMinimum 30 = .ok (.aload_n 0, 1) := by decide +kernel
theorem dX4_savedMinimum_31 : decode cX4_savedMinimum 31 = .ok (.iload_n 1, 1) := by decide +kernel
theorem dX4_savedMinimum_32 : decode cX4_savedMinimum 32 = .ok (.iload_n 2, 1) := by decide +kernel
theorem dX4_savedMinimum_33 : decode cX4_savedMinimum 33 = .ok (.invokevirtual 156, 3) := by decide +kernel
theorem dX4_savedMinimum_36 : decode cX4_savedMinimum 36 = .ok (.iastore, 1) := by decide +kernel
theorem dX4_savedMinimum_37 : decode cX4_savedMinimum 37 = .ok (.iinc 2 1, 3) := by decide +kernel
theorem dX4_savedMinimum_40 : decode cX4_savedMinimum 40 = .ok (.goto (-28), 3) := by decide +kernel
theorem dX4_savedMinimum_43 : decode cX4_savedMinimum 43 = .ok (.iinc 1 1, 3) := by decide +kernel
theorem dX4_savedMinimum_46 : decode cX4_savedMinimum 46 = .ok (.goto (-44), 3) := by decide +kernel
theorem dX4_savedMinimum_49 : decode cX4_savedMinimum 49 = .ok (.aload_n 0, 1) := by decide +kernel
theorem dX4_savedMinimum_50 : decode cX4_savedMinimum 50 = .ok (.aload_n 0, 1) := by decide +kernel
theorem dX4_savedMinimum_51 : decode cX4_savedMinimum 51 = .ok (.getfield 16, 3) := by decide +kernel
theorem dX4_savedMinimum_54 : decode cX4_savedMinimum 54 = .ok (.invokevirtual 111, 3) := by decide +kernel
theorem dX4_savedMinimum_57 : decode cX4_savedMinimum 57 = .ok (.aload_n 0, 1) := by decide +kernel
theorem dX4_savedMinimum_58 : decode cX4_savedMinimum 58 = .ok (.getfield 80, 3) := by decide +kernel
theorem dX4_savedMinimum_61 : decode cX4_savedMinimum 61 = .ok (.ireturn, 1) := by decide +kernel
theorem dX4_assigned_0 : decode cX4_assigned 0 = .ok (.aload_n 0, 1) := by decide +kernel
theorem dX4_assigned_1 : decode cX4_assigned 1 = .ok (.aload_n 0, 1) := by decide +kernel
theorem dX4_assigned_2 : decode cX4_assigned 2 = .ok (.iload_n 1, 1) := by decide +kernel
theorem dX4_assigned_3 : decode cX4_assigned 3 = .ok (.invokevirtual 122, 3) := by decide +kernel
theorem dX4_assigned_6 : decode cX4_assigned 6 = .ok (.ifCond .eq 7, 3) := by decide +kernel
theorem dX4_assigned_9 : decode cX4_assigned 9 = .ok (.iconst 0, 1) := by decide +kernel
theorem dX4_assigned_10 : decode cX4_assigned 10 = .ok (.goto 4, 3) := by decide +kernel
theorem dX4_assigned_13 : decode cX4_assigned 13 = .ok (.iconst 1, 1) := by decide +kernel
theorem dX4_assigned_14 : decode cX4_assigned 14 = .ok (.invokevirtual 118, 3) := by decide +kernel
theorem dX4_assigned_17 : decode cX4_assigned 17 = .ok (.ifCond .eq 5, 3) := by decide +kernel
theorem dX4_assigned_20 : decode cX4_assigned 20 = .ok (.iconst 0, 1) := by decide +kernel
theorem dX4_assigned_21 : decode cX4_assigned 21 = .ok (.ireturn, 1) := by decide +kernel
theorem dX4_assigned_22 : decode cX4_assigned 22 = .ok (.aload_n 0, 1) := by decide +kernel
theorem dX4_assigned_23 : decode cX4_assigned 23 = .ok (.invokevirtual 114, 3) := by decide +kernel
theorem dX4_assigned_26 : decode cX4_assigned 26 = .ok (.aload_n 0, 1) := by decide +kernel
theorem dX4_assigned_27 : decode cX4_assigned 27 = .ok (.getfield 45, 3) := by decide +kernel
theorem dX4_assigned_30 : decode cX4_assigned 30 = .ok (.iload_n 1, 1) := by decide +kernel
theorem dX4_assigned_31 : decode cX4_assigned 31 = .ok (.iaload, 1) := by decide +kernel
theorem dX4_assigned_32 : decode cX4_assigned 32 = .ok (.ireturn, 1) := by decide +kernel
theorem dX4_optimalCount_0 : decode cX4_optimalCount 0 = .ok (.aload_n 0, 1) := by decide +kernel
theorem dX4_optimalCount_1 : decode cX4_optimalCount 1 = .ok (.invokevirtual 114, 3) := by decide +kernel
theorem dX4_optimalCount_4 : decode cX4_optimalCount 4 = .ok (.aload_n 0, 1) := by decide +kernel
theorem dX4_optimalCount_5 : decode cX4_optimalCount 5 = .ok (.getfield 83, 3) := by decide +kernel
theorem dX4_optimalCount_8 : decode cX4_optimalCount 8 = .ok (.ireturn, 1) := by decide +kernel
theorem dX4_rowPotential_0 : decode cX4_rowPotential 0 = .ok (.aload_n 0, 1) := by decide +kernel
theorem dX4_rowPotential_1 : decode cX4_rowPotential 1 = .ok (.aload_n 0, 1) := by decide +kernel
theorem dX4_rowPotential_2 : decode cX4_rowPotential 2 = .ok (.iload_n 1, 1) := by decide +kernel
theorem dX4_rowPotential_3 : decode cX4_rowPotential 3 = .ok (.invokevirtual 122, 3) := by decide +kernel
theorem dX4_rowPotential_6 : decode cX4_rowPotential 6 = .ok (.ifCond .eq 7, 3) := by decide +kernel
theorem dX4_rowPotential_9 : decode cX4_rowPotential 9 = .ok (.iconst 0, 1) := by decide +kernel
theorem dX4_rowPotential_10 : decode cX4_rowPotential 10 = .ok (.goto 4, 3) := by decide +kernel
theorem dX4_rowPotential_13 : decode cX4_rowPotential 13 = .ok (.iconst 1, 1) := by decide +kernel
theorem dX4_rowPotential_14 : decode cX4_rowPotential 14 = .ok (.invokevirtual 118, 3) := by decide +kernel
theorem dX4_rowPotential_17 : decode cX4_rowPotential 17 = .ok (.ifCond .eq 5, 3) := by decide +kernel
theorem dX4_rowPotential_20 : decode cX4_rowPotential 20 = .ok (.iconst 0, 1) := by decide +kernel
theorem dX4_rowPotential_21 : decode cX4_rowPotential 21 = .ok (.ireturn, 1) := by decide +kernel
theorem dX4_rowPotential_22 : decode cX4_rowPotential 22 = .ok (.aload_n 0, 1) := by decide +kernel
theorem dX4_rowPotential_23 : decode cX4_rowPotential 23 = .ok (.invokevirtual 159, 3) := by decide +kernel
theorem dX4_rowPotential_26 : decode cX4_rowPotential 26 = .ok (.aload_n 0, 1) := by decide +kernel
theorem dX4_rowPotential_27 : decode cX4_rowPotential 27 = .ok (.getfield 54, 3) := by decide +kernel
theorem dX4_rowPotential_30 : decode cX4_rowPotential 30 = .ok (.iload_n 1, 1) := by decide +kernel
theorem dX4_rowPotential_31 : decode cX4_rowPotential 31 = .ok (.iaload, 1) := by decide +kernel
theorem dX4_rowPotential_32 : decode cX4_rowPotential 32 = .ok (.ireturn, 1) := by decide +kernel
theorem dX4_columnPotential_0 : decode cX4_columnPotential 0 = .ok (.aload_n 0, 1) := by decide +kernel
theorem dX4_columnPotential_1 : decode cX4_columnPotential 1 = .ok (.aload_n 0, 1) := by decide +kernel
theorem dX4_columnPotential_2 : decode cX4_columnPotential 2 = .ok (.iload_n 1, 1) := by decide +kernel
theorem dX4_columnPotential_3 : decode cX4_columnPotential 3 = .ok (.invokevirtual 122, 3) := by decide +kernel
theorem dX4_columnPotential_6 : decode cX4_columnPotential 6 = .ok (.ifCond .eq 7, 3) := by decide +kernel
theorem dX4_columnPotential_9 : decode cX4_columnPotential 9 = .ok (.iconst 0, 1) := by decide +kernel
theorem dX4_columnPotential_10 : decode cX4_columnPotential 10 = .ok (.goto 4, 3) := by decide +kernel
theorem dX4_columnPotential_13 : decode cX4_columnPotential 13 = .ok (.iconst 1, 1) := by decide +kernel
theorem dX4_columnPotential_14 : decode cX4_columnPotential 14 = .ok (.invokevirtual 118, 3) := by decide +kernel
theorem dX4_columnPotential_17 : decode cX4_columnPotential 17 = .ok (.ifCond .eq 5, 3) := by decide +kernel
theorem dX4_columnPotential_20 : decode cX4_columnPotential 20 = .ok (.iconst 0, 1) := by decide +kernel
theorem dX4_columnPotential_21 : decode cX4_columnPotential 21 = .ok (.ireturn, 1) := by decide +kernel
theorem dX4_columnPotential_22 : decode cX4_columnPotential 22 = .ok (.aload_n 0, 1) := by decide +kernel
theorem dX4_columnPotential_23 : decode cX4_columnPotential 23 = .ok (.invokevirtual 159, 3) := by decide +kernel
theorem dX4_columnPotential_26 : decode cX4_columnPotential 26 = .ok (.aload_n 0, 1) := by decide +kernel
theorem dX4_columnPotential_27 : decode cX4_columnPotential 27 = .ok (.getfield 57, 3) := by decide +kernel
theorem dX4_columnPotential_30 : decode cX4_columnPotential 30 = .ok (.iload_n 1, 1) := by decide +kernel
theorem dX4_columnPotential_31 : decode cX4_columnPotential 31 = .ok (.iaload, 1) := by decide +kernel
theorem dX4_columnPotential_32 : decode cX4_columnPotential 32 = .ok (.ireturn, 1) := by decide +kernel
theorem dX4_reducedCost_0 : decode cX4_reducedCost 0 = .ok (.aload_n 0, 1) := by decide +kernel
theorem dX4_reducedCost_1 : decode cX4_reducedCost 1 = .ok (.aload_n 0, 1) := by decide +kernel
theorem dX4_reducedCost_2 : decode cX4_reducedCost 2 = .ok (.iload_n 1, 1) := by decide +kernel
theorem dX4_reducedCost_3 : decode cX4_reducedCost 3 = .ok (.invokevirtual 122, 3) := by decide +kernel
theorem dX4_reducedCost_6 : decode cX4_reducedCost 6 = .ok (.ifCond .eq 11, 3) := by decide +kernel
theorem dX4_reducedCost_9 : decode cX4_reducedCost 9 = .ok (.aload_n 0, 1) := by decide +kernel
theorem dX4_reducedCost_10 : decode cX4_reducedCost 10 = .ok (.iload_n 2, 1) := by decide +kernel
theorem dX4_reducedCost_11 : decode cX4_reducedCost 11 = .ok (.invokevirtual 122, 3) := by decide +kernel
theorem dX4_reducedCost_14 : decode cX4_reducedCost 14 = .ok (.ifCond .ne 7, 3) := by decide +kernel
theorem dX4_reducedCost_17 : decode cX4_reducedCost 17 = .ok (.iconst 1, 1) := by decide +kernel
theorem dX4_reducedCost_18 : decode cX4_reducedCost 18 = .ok (.goto 4, 3) := by decide +kernel
theorem dX4_reducedCost_21 : decode cX4_reducedCost 21 = .ok (.iconst 0, 1) := by decide +kernel
theorem dX4_reducedCost_22 : decode cX4_reducedCost 22 = .ok (.invokevirtual 118, 3) := by decide +kernel
theorem dX4_reducedCost_25 : decode cX4_reducedCost 25 = .ok (.ifCond .eq 5, 3) := by decide +kernel
theorem dX4_reducedCost_28 : decode cX4_reducedCost 28 = .ok (.iconst 0, 1) := by decide +kernel
theorem dX4_reducedCost_29 : decode cX4_reducedCost 29 = .ok (.ireturn, 1) := by decide +kernel
theorem dX4_reducedCost_30 : decode cX4_reducedCost 30 = .ok (.aload_n 0, 1) := by decide +kernel
theorem dX4_reducedCost_31 : decode cX4_reducedCost 31 = .ok (.invokevirtual 159, 3) := by decide +kernel
theorem dX4_reducedCost_34 : decode cX4_reducedCost 34 = .ok (.aload_n 0, 1) := by decide +kernel
theorem dX4_reducedCost_35 : decode cX4_reducedCost 35 = .ok (.iload_n 1, 1) := by decide +kernel
theorem dX4_reducedCost_36 : decode cX4_reducedCost 36 = .ok (.iload_n 2, 1) := by decide +kernel
theorem dX4_reducedCost_37 : decode cX4_reducedCost 37 = .ok (.invokevirtual 162, 3) := by decide +kernel
theorem dX4_reducedCost_40 : decode cX4_reducedCost 40 = .ok (.ireturn, 1) := by decide +kernel
theorem dX4_minimumWith_0 : decode cX4_minimumWith 0 = .ok (.aload_n 0, 1) := by decide +kernel
theorem dX4_minimumWith_1 : decode cX4_minimumWith 1 = .ok (.aload_n 0, 1) := by decide +kernel
theorem dX4_minimumWith_2 : decode cX4_minimumWith 2 = .ok (.iload_n 1, 1) := by decide +kernel
theorem dX4_minimumWith_3 : decode cX4_minimumWith 3 = .ok (.invokevirtual 122, 3) := by decide +kernel
theorem dX4_minimumWith_6 : decode cX4_minimumWith 6 = .ok (.ifCond .eq 11, 3) := by decide +kernel
theorem dX4_minimumWith_9 : decode cX4_minimumWith 9 = .ok (.aload_n 0, 1) := by decide +kernel
theorem dX4_minimumWith_10 : decode cX4_minimumWith 10 = .ok (.iload_n 2, 1) := by decide +kernel
theorem dX4_minimumWith_11 : decode cX4_minimumWith 11 = .ok (.invokevirtual 122, 3) := by decide +kernel
theorem dX4_minimumWith_14 : decode cX4_minimumWith 14 = .ok (.ifCond .ne 7, 3) := by decide +kernel
theorem dX4_minimumWith_17 : decode cX4_minimumWith 17 = .ok (.iconst 1, 1) := by decide +kernel
theorem dX4_minimumWith_18 : decode cX4_minimumWith 18 = .ok (.goto 4, 3) := by decide +kernel
theorem dX4_minimumWith_21 : decode cX4_minimumWith 21 = .ok (.iconst 0, 1) := by decide +kernel
theorem dX4_minimumWith_22 : decode cX4_minimumWith 22 = .ok (.invokevirtual 118, 3) := by decide +kernel
theorem dX4_minimumWith_25 : decode cX4_minimumWith 25 = .ok (.ifCond .eq 5, 3) := by decide +kernel
theorem dX4_minimumWith_28 : decode cX4_minimumWith 28 = .ok (.iconst 0, 1) := by decide +kernel
theorem dX4_minimumWith_29 : decode cX4_minimumWith 29 = .ok (.ireturn, 1) := by decide +kernel
theorem dX4_minimumWith_30 : decode cX4_minimumWith 30 = .ok (.aload_n 0, 1) := by decide +kernel
theorem dX4_minimumWith_31 : decode cX4_minimumWith 31 = .ok (.invokevirtual 114, 3) := by decide +kernel
theorem dX4_minimumWith_34 : decode cX4_minimumWith 34 = .ok (.aload_n 0, 1) := by decide +kernel
theorem dX4_minimumWith_35 : decode cX4_minimumWith 35 = .ok (.getfield 39, 3) := by decide +kernel
theorem dX4_minimumWith_38 : decode cX4_minimumWith 38 = .ok (.bipush 7, 2) := by decide +kernel
theorem dX4_minimumWith_40 : decode cX4_minimumWith 40 = .ok (.iload_n 1, 1) := by decide +kernel
theorem dX4_minimumWith_41 : decode cX4_minimumWith 41 = .ok (.imul, 1) := by decide +kernel
theorem dX4_minimumWith_42 : decode cX4_minimumWith 42 = .ok (.iload_n 2, 1) := by decide +kernel
theorem dX4_minimumWith_43 : decode cX4_minimumWith 43 = .ok (.iadd, 1) := by decide +kernel
theorem dX4_minimumWith_44 : decode cX4_minimumWith 44 = .ok (.iaload, 1) := by decide +kernel
theorem dX4_minimumWith_45 : decode cX4_minimumWith 45 = .ok (.ireturn, 1) := by decide +kernel
theorem dX4_minimumWithout_0 : decode cX4_minimumWithout 0 = .ok (.aload_n 0, 1) := by decide +kernel
theorem dX4_minimumWithout_1 : decode cX4_minimumWithout 1 = .ok (.aload_n 0, 1) := by decide +kernel
theorem dX4_minimumWithout_2 : decode cX4_minimumWithout 2 = .ok (.iload_n 1, 1) := by decide +kernel
theorem dX4_minimumWithout_3 : decode cX4_minimumWithout 3 = .ok (.invokevirtual 122, 3) := by decide +kernel
theorem dX4_minimumWithout_6 : decode cX4_minimumWithout 6 = .ok (.ifCond .eq 11, 3) := by decide +kernel
theorem dX4_minimumWithout_9 : decode cX4_minimumWithout 9 = .ok (.aload_n 0, 1) := by decide +kernel
theorem dX4_minimumWithout_10 : decode cX4_minimumWithout 10 = .ok (.iload_n 2, 1) := by decide +kernel
theorem dX4_minimumWithout_11 : decode cX4_minimumWithout 11 = .ok (.invokevirtual 122, 3) := by decide +kernel
theorem dX4_minimumWithout_14 : decode cX4_minimumWithout 14 = .ok (.ifCond .ne 7, 3) := by decide +kernel
theorem dX4_minimumWithout_17 : decode cX4_minimumWithout 17 = .ok (.iconst 1, 1) := by decide +kernel
theorem dX4_minimumWithout_18 : decode cX4_minimumWithout 18 = .ok (.goto 4, 3) := by decide +kernel
theorem dX4_minimumWithout_21 : decode cX4_minimumWithout 21 = .ok (.iconst 0, 1) := by decide +kernel
theorem dX4_minimumWithout_22 : decode cX4_minimumWithout 22 = .ok (.invokevirtual 118, 3) := by decide +kernel
theorem dX4_minimumWithout_25 : decode cX4_minimumWithout 25 = .ok (.ifCond .eq 5, 3) := by decide +kernel
theorem dX4_minimumWithout_28 : decode cX4_minimumWithout 28 = .ok (.iconst 0, 1) := by decide +kernel
theorem dX4_minimumWithout_29 : decode cX4_minimumWithout 29 = .ok (.ireturn, 1) := by decide +kernel
theorem dX4_minimumWithout_30 : decode cX4_minimumWithout 30 = .ok (.aload_n 0, 1) := by decide +kernel
theorem dX4_minimumWithout_31 : decode cX4_minimumWithout 31 = .ok (.invokevirtual 114, 3) := by decide +kernel
theorem dX4_minimumWithout_34 : decode cX4_minimumWithout 34 = .ok (.aload_n 0, 1) := by decide +kernel
theorem dX4_minimumWithout_35 : decode cX4_minimumWithout 35 = .ok (.getfield 7, 3) := by decide +kernel
theorem dX4_minimumWithout_38 : decode cX4_minimumWithout 38 = .ok (.iconst 1, 1) := by decide +kernel
theorem dX4_minimumWithout_39 : decode cX4_minimumWithout 39 = .ok (.if_icmp .ne 7, 3) := by decide +kernel
theorem dX4_minimumWithout_42 : decode cX4_minimumWithout 42 = .ok (.iconst (-1), 1) := by decide +kernel
theorem dX4_minimumWithout_43 : decode cX4_minimumWithout 43 = .ok (.goto 9, 3) := by decide +kernel
theorem dX4_minimumWithout_46 : decode cX4_minimumWithout 46 = .ok (.aload_n 0, 1) := by decide +kernel
theorem dX4_minimumWithout_47 : decode cX4_minimumWithout 47 = .ok (.iload_n 1, 1) := by decide +kernel
theorem dX4_minimumWithout_48 : decode cX4_minimumWithout 48 = .ok (.iload_n 2, 1) := by decide +kernel
theorem dX4_minimumWithout_49 : decode cX4_minimumWithout 49 = .ok (.invokevirtual 165, 3) := by decide +kernel
theorem dX4_minimumWithout_52 : decode cX4_minimumWithout 52 = .ok (.ireturn, 1) := by decide +kernel
theorem dX4_minimumIfCost_0 : decode cX4_minimumIfCost 0 = .ok (.aload_n 0, 1) := by decide +kernel
theorem dX4_minimumIfCost_1 : decode cX4_minimumIfCost 1 = .ok (.aload_n 0, 1) := by decide +kernel
theorem dX4_minimumIfCost_2 : decode cX4_minimumIfCost 2 = .ok (.iload_n 1, 1) := by decide +kernel
theorem dX4_minimumIfCost_3 : decode cX4_minimumIfCost 3 = .ok (.invokevirtual 122, 3) := by decide +kernel
theorem dX4_minimumIfCost_6 : decode cX4_minimumIfCost 6 = .ok (.ifCond .eq 11, 3) := by decide +kernel
theorem dX4_minimumIfCost_9 : decode cX4_minimumIfCost 9 = .ok (.aload_n 0, 1) := by decide +kernel
theorem dX4_minimumIfCost_10 : decode cX4_minimumIfCost 10 = .ok (.iload_n 2, 1) := by decide +kernel
theorem dX4_minimumIfCost_11 : decode cX4_minimumIfCost 11 = .ok (.invokevirtual 125, 3) := by decide +kernel
theorem dX4_minimumIfCost_14 : decode cX4_minimumIfCost 14 = .ok (.ifCond .ne 7, 3) := by decide +kernel
theorem dX4_minimumIfCost_17 : decode cX4_minimumIfCost 17 = .ok (.iconst 1, 1) := by decide +kernel
theorem dX4_minimumIfCost_18 : decode cX4_minimumIfCost 18 = .ok (.goto 27, 3) := by decide +kernel
theorem dX4_minimumIfCost_21 : decode cX4_minimumIfCost 21 = .ok (.iload_n 3, 1) := by decide +kernel
theorem dX4_minimumIfCost_22 : decode cX4_minimumIfCost 22 = .ok (.i2l, 1) := by decide +kernel
theorem dX4_minimumIfCost_23 : decode cX4_minimumIfCost 23 = .ok (.lconst 0, 1) := by decide +kernel
theorem dX4_minimumIfCost_24 : decode cX4_minimumIfCost 24 = .ok (.ldc2_w 128, 3) := by decide +kernel
theorem dX4_minimumIfCost_27 : decode cX4_minimumIfCost 27 = .ok (.invokestatic 63, 3) := by decide +kernel
theorem dX4_minimumIfCost_30 : decode cX4_minimumIfCost 30 = .ok (.ifCond .ne 14, 3) := by decide +kernel
theorem dX4_minimumIfCost_33 : decode cX4_minimumIfCost 33 = .ok (.iload_n 3, 1) := by decide +kernel
theorem dX4_minimumIfCost_34 : decode cX4_minimumIfCost 34 = .ok (.sipush 1000, 3) := by decide +kernel
theorem dX4_minimumIfCost_37 : decode cX4_minimumIfCost 37 = .ok (.if_icmp .eq 7, 3) := by decide +kernel
theorem dX4_minimumIfCost_40 : decode cX4_minimumIfCost 40 = .ok (.iconst 2, 1) := by decide +kernel
theorem dX4_minimumIfCost_41 : decode cX4_minimumIfCost 41 = .ok (.goto 4, 3) := by decide +kernel
theorem dX4_minimumIfCost_44 : decode cX4_minimumIfCost 44 = .ok (.iconst 0, 1) := by decide +kernel
theorem dX4_minimumIfCost_45 : decode cX4_minimumIfCost 45 = .ok (.invokevirtual 118, 3) := by decide +kernel
theorem dX4_minimumIfCost_48 : decode cX4_minimumIfCost 48 = .ok (.ifCond .eq 5, 3) := by decide +kernel
theorem dX4_minimumIfCost_51 : decode cX4_minimumIfCost 51 = .ok (.iconst 0, 1) := by decide +kernel
theorem dX4_minimumIfCost_52 : decode cX4_minimumIfCost 52 = .ok (.ireturn, 1) := by decide +kernel
theorem dX4_minimumIfCost_53 : decode cX4_minimumIfCost 53 = .ok (.aload_n 0, 1) := by decide +kernel
theorem dX4_minimumIfCost_54 : decode cX4_minimumIfCost 54 = .ok (.invokevirtual 108, 3) := by decide +kernel
theorem dX4_minimumIfCost_57 : decode cX4_minimumIfCost 57 = .ok (.aload_n 0, 1) := by decide +kernel
theorem dX4_minimumIfCost_58 : decode cX4_minimumIfCost 58 = .ok (.getfield 36, 3) := by decide +kernel
theorem dX4_minimumIfCost_61 : decode cX4_minimumIfCost 61 = .ok (.bipush 7, 2) := by decide +kernel
theorem dX4_minimumIfCost_63 : decode cX4_minimumIfCost 63 = .ok (.iload_n 1, 1) := by decide +kernel
theorem dX4_minimumIfCost_64 : decode cX4_minimumIfCost 64 = .ok (.imul, 1) := by decide +kernel
theorem dX4_minimumIfCost_65 : decode cX4_minimumIfCost 65 = .ok (.iload_n 2, 1) := by decide +kernel
theorem dX4_minimumIfCost_66 : decode cX4_minimumIfCost 66 = .ok (.iadd, 1) := by decide +kernel
theorem dX4_minimumIfCost_67 : decode cX4_minimumIfCost 67 = .ok (.iload_n 3, 1) := by decide +kernel
theorem dX4_minimumIfCost_68 : decode cX4_minimumIfCost 68 = .ok (.iastore, 1) := by decide +kernel
theorem dX4_minimumIfCost_69 : decode cX4_minimumIfCost 69 = .ok (.aload_n 0, 1) := by decide +kernel
theorem dX4_minimumIfCost_70 : decode cX4_minimumIfCost 70 = .ok (.aload_n 0, 1) := by decide +kernel
theorem dX4_minimumIfCost_71 : decode cX4_minimumIfCost 71 = .ok (.getfield 7, 3) := by decide +kernel
theorem dX4_minimumIfCost_74 : decode cX4_minimumIfCost 74 = .ok (.invokevirtual 111, 3) := by decide +kernel
theorem dX4_minimumIfCost_77 : decode cX4_minimumIfCost 77 = .ok (.aload_n 0, 1) := by decide +kernel
theorem dX4_minimumIfCost_78 : decode cX4_minimumIfCost 78 = .ok (.getfield 80, 3) := by decide +kernel
theorem dX4_minimumIfCost_81 : decode cX4_minimumIfCost 81 = .ok (.ireturn, 1) := by decide +kernel
theorem dX4_secondBest_0 : decode cX4_secondBest 0 = .ok (.aload_n 0, 1) := by decide +kernel
theorem dX4_secondBest_1 : decode cX4_secondBest 1 = .ok (.invokevirtual 114, 3) := by decide +kernel
theorem dX4_secondBest_4 : decode cX4_secondBest 4 = .ok (.aload_n 0, 1) := by decide +kernel
theorem dX4_secondBest_5 : decode cX4_secondBest 5 = .ok (.getfield 7, 3) := by decide +kernel
theorem dX4_secondBest_8 : decode cX4_secondBest 8 = .ok (.iconst 1, 1) := by decide +kernel
theorem dX4_secondBest_9 : decode cX4_secondBest 9 = .ok (.if_icmp .ne 7, 3) := by decide +kernel
theorem dX4_secondBest_12 : decode cX4_secondBest 12 = .ok (.iconst (-1), 1) := by decide +kernel
theorem dX4_secondBest_13 : decode cX4_secondBest 13 = .ok (.goto 7, 3) := by decide +kernel
theorem dX4_secondBest_16 : decode cX4_secondBest 16 = .ok (.aload_n 0, 1) := by decide +kernel
theorem dX4_secondBest_17 : decode cX4_secondBest 17 = .ok (.getfield 86, 3) := by decide +kernel
theorem dX4_secondBest_20 : decode cX4_secondBest 20 = .ok (.ireturn, 1) := by decide +kernel
theorem dX4_maximum_0 : decode cX4_maximum 0 = .ok (.aload_n 0, 1) := by decide +kernel
theorem dX4_maximum_1 : decode cX4_maximum 1 = .ok (.invokevirtual 114, 3) := by decide +kernel
theorem dX4_maximum_4 : decode cX4_maximum 4 = .ok (.aload_n 0, 1) := by decide +kernel
theorem dX4_maximum_5 : decode cX4_maximum 5 = .ok (.getfield 89, 3) := by decide +kernel
theorem dX4_maximum_8 : decode cX4_maximum 8 = .ok (.ireturn, 1) := by decide +kernel
theorem dX4_bottleneck_0 : decode cX4_bottleneck 0 = .ok (.aload_n 0, 1) := by decide +kernel
theorem dX4_bottleneck_1 : decode cX4_bottleneck 1 = .ok (.invokevirtual 114, 3) := by decide +kernel
theorem dX4_bottleneck_4 : decode cX4_bottleneck 4 = .ok (.aload_n 0, 1) := by decide +kernel
theorem dX4_bottleneck_5 : decode cX4_bottleneck 5 = .ok (.getfield 92, 3) := by decide +kernel
theorem dX4_bottleneck_8 : decode cX4_bottleneck 8 = .ok (.ireturn, 1) := by decide +kernel
theorem dX4_fits_0 : decode cX4_fits 0 = .ok (.aload_n 0, 1) := by decide +kernel
theorem dX4_fits_1 : decode cX4_fits 1 = .ok (.iload_n 1, 1) := by decide +kernel
theorem dX4_fits_2 : decode cX4_fits 2 = .ok (.i2l, 1) := by decide +kernel
theorem dX4_fits_3 : decode cX4_fits 3 = .ok (.lconst 0, 1) := by decide +kernel
theorem dX4_fits_4 : decode cX4_fits 4 = .ok (.ldc2_w 168, 3) := by decide +kernel
theorem dX4_fits_7 : decode cX4_fits 7 = .ok (.invokestatic 63, 3) := by decide +kernel
theorem dX4_fits_10 : decode cX4_fits 10 = .ok (.ifCond .eq 7, 3) := by decide +kernel
theorem dX4_fits_13 : decode cX4_fits 13 = .ok (.iconst 0, 1) := by decide +kernel
theorem dX4_fits_14 : decode cX4_fits 14 = .ok (.goto 4, 3) := by decide +kernel
theorem dX4_fits_17 : decode cX4_fits 17 = .ok (.iconst 1, 1) := by decide +kernel
theorem dX4_fits_18 : decode cX4_fits 18 = .ok (.invokevirtual 118, 3) := by decide +kernel
theorem dX4_fits_21 : decode cX4_fits 21 = .ok (.ifCond .eq 5, 3) := by decide +kernel
theorem dX4_fits_24 : decode cX4_fits 24 = .ok (.iconst 0, 1) := by decide +kernel
theorem dX4_fits_25 : decode cX4_fits 25 = .ok (.ireturn, 1) := by decide +kernel
theorem dX4_fits_26 : decode cX4_fits 26 = .ok (.aload_n 0, 1) := by decide +kernel
theorem dX4_fits_27 : decode cX4_fits 27 = .ok (.invokevirtual 114, 3) := by decide +kernel
theorem dX4_fits_30 : decode cX4_fits 30 = .ok (.aload_n 0, 1) := by decide +kernel
theorem dX4_fits_31 : decode cX4_fits 31 = .ok (.getfield 92, 3) := by decide +kernel
theorem dX4_fits_34 : decode cX4_fits 34 = .ok (.iload_n 1, 1) := by decide +kernel
theorem dX4_fits_35 : decode cX4_fits 35 = .ok (.if_icmp .gt 7, 3) := by decide +kernel
theorem dX4_fits_38 : decode cX4_fits 38 = .ok (.iconst 1, 1) := by decide +kernel
theorem dX4_fits_39 : decode cX4_fits 39 = .ok (.goto 4, 3) := by decide +kernel
theorem dX4_fits_42 : decode cX4_fits 42 = .ok (.iconst 0, 1) := by decide +kernel
theorem dX4_fits_43 : decode cX4_fits 43 = .ok (.ireturn, 1) := by decide +kernel
theorem dX4_countWithin_0 : decode cX4_countWithin 0 = .ok (.aload_n 0, 1) := by decide +kernel
theorem dX4_countWithin_1 : decode cX4_countWithin 1 = .ok (.iload_n 1, 1) := by decide +kernel
theorem dX4_countWithin_2 : decode cX4_countWithin 2 = .ok (.i2l, 1) := by decide +kernel
theorem dX4_countWithin_3 : decode cX4_countWithin 3 = .ok (.lconst 0, 1) := by decide +kernel
theorem dX4_countWithin_4 : decode cX4_countWithin 4 = .ok (.ldc2_w 170, 3) := by decide +kernel
theorem dX4_countWithin_7 : decode cX4_countWithin 7 = .ok (.invokestatic 63, 3) := by decide +kernel
theorem dX4_countWithin_10 : decode cX4_countWithin 10 = .ok (.ifCond .eq 7, 3) := by decide +kernel
theorem dX4_countWithin_13 : decode cX4_countWithin 13 = .ok (.iconst 0, 1) := by decide +kernel
theorem dX4_countWithin_14 : decode cX4_countWithin 14 = .ok (.goto 4, 3) := by decide +kernel
theorem dX4_countWithin_17 : decode cX4_countWithin 17 = .ok (.iconst 1, 1) := by decide +kernel
theorem dX4_countWithin_18 : decode cX4_countWithin 18 = .ok (.invokevirtual 118, 3) := by decide +kernel
theorem dX4_countWithin_21 : decode cX4_countWithin 21 = .ok (.ifCond .eq 5, 3) := by decide +kernel
theorem dX4_countWithin_24 : decode cX4_countWithin 24 = .ok (.iconst 0, 1) := by decide +kernel
theorem dX4_countWithin_25 : decode cX4_countWithin 25 = .ok (.ireturn, 1) := by decide +kernel
theorem dX4_countWithin_26 : decode cX4_countWithin 26 = .ok (.aload_n 0, 1) := by decide +kernel
theorem dX4_countWithin_27 : decode cX4_countWithin 27 = .ok (.invokevirtual 108, 3) := by decide +kernel
theorem dX4_countWithin_30 : decode cX4_countWithin 30 = .ok (.aload_n 0, 1) := by decide +kernel
theorem dX4_countWithin_31 : decode cX4_countWithin 31 = .ok (.invokevirtual 95, 3) := by decide +kernel
theorem dX4_countWithin_34 : decode cX4_countWithin 34 = .ok (.iconst 0, 1) := by decide +kernel
theorem dX4_countWithin_35 : decode cX4_countWithin 35 = .ok (.istore_n 2, 1) := by decide +kernel
theorem dX4_countWithin_36 : decode cX4_countWithin 36 = .ok (.aload_n 0, 1) := by decide +kernel
theorem dX4_countWithin_37 : decode cX4_countWithin 37 = .ok (.getfield 7, 3) := by decide +kernel
theorem dX4_countWithin_40 : decode cX4_countWithin 40 = .ok (.invokestatic 67, 3) := by decide +kernel
theorem dX4_countWithin_43 : decode cX4_countWithin 43 = .ok (.istore_n 3, 1) := by decide +kernel
theorem dX4_countWithin_44 : decode cX4_countWithin 44 = .ok (.iload_n 3, 1) := by decide +kernel
theorem dX4_countWithin_45 : decode cX4_countWithin 45 = .ok (.ifCond .le 37, 3) := by decide +kernel
theorem dX4_countWithin_48 : decode cX4_countWithin 48 = .ok (.iload_n 2, 1) := by decide +kernel
theorem dX4_countWithin_49 : decode cX4_countWithin 49 = .ok (.aload_n 0, 1) := by decide +kernel
theorem dX4_countWithin_50 : decode cX4_countWithin 50 = .ok (.aload_n 0, 1) := by decide +kernel
theorem dX4_countWithin_51 : decode cX4_countWithin 51 = .ok (.getfield 7, 3) := by decide +kernel
theorem dX4_countWithin_54 : decode cX4_countWithin 54 = .ok (.invokevirtual 98, 3) := by decide +kernel
theorem dX4_countWithin_57 : decode cX4_countWithin 57 = .ok (.iload_n 1, 1) := by decide +kernel
theorem dX4_countWithin_58 : decode cX4_countWithin 58 = .ok (.if_icmp .gt 7, 3) := by decide +kernel
theorem dX4_countWithin_61 : decode cX4_countWithin 61 = .ok (.iconst 1, 1) := by decide +kernel
theorem dX4_countWithin_62 : decode cX4_countWithin 62 = .ok (.goto 4, 3) := by decide +kernel
theorem dX4_countWithin_65 : decode cX4_countWithin 65 = .ok (.iconst 0, 1) := by decide +kernel
theorem dX4_countWithin_66 : decode cX4_countWithin 66 = .ok (.iadd, 1) := by decide +kernel
theorem dX4_countWithin_67 : decode cX4_countWithin 67 = .ok (.istore_n 2, 1) := by decide +kernel
theorem dX4_countWithin_68 : decode cX4_countWithin 68 = .ok (.aload_n 0, 1) := by decide +kernel
theorem dX4_countWithin_69 : decode cX4_countWithin 69 = .ok (.aload_n 0, 1) := by decide +kernel
theorem dX4_countWithin_70 : decode cX4_countWithin 70 = .ok (.getfield 7, 3) := by decide +kernel
theorem dX4_countWithin_73 : decode cX4_countWithin 73 = .ok (.invokevirtual 104, 3) := by decide +kernel
theorem dX4_countWithin_76 : decode cX4_countWithin 76 = .ok (.iinc 3 (-1), 3) := by decide +kernel
theorem dX4_countWithin_79 : decode cX4_countWithin 79 = .ok (.goto (-35), 3) := by decide +kernel
theorem dX4_countWithin_82 : decode cX4_countWithin 82 = .ok (.iload_n 2, 1) := by decide +kernel
theorem dX4_countWithin_83 : decode cX4_countWithin 83 = .ok (.ireturn, 1) := by decide +kernel
theorem dX4_sumOf_0 : decode cX4_sumOf 0 = .ok (.iload_n 1, 1) := by decide +kernel
theorem dX4_sumOf_1 : decode cX4_sumOf 1 = .ok (.istore_n 2, 1) := by decide +kernel
theorem dX4_sumOf_2 : decode cX4_sumOf 2 = .ok (.iconst 0, 1) := by decide +kernel
theorem dX4_sumOf_3 : decode cX4_sumOf 3 = .ok (.istore_n 3, 1) := by decide +kernel
theorem dX4_sumOf_4 : decode cX4_sumOf 4 = .ok (.iconst 0, 1) := by decide +kernel
theorem dX4_sumOf_5 : decode cX4_sumOf 5 = .ok (.istore 4, 2) := by decide +kernel
theorem dX4_sumOf_7 : decode cX4_sumOf 7 = .ok (.aload_n 0, 1) := by decide +kernel
theorem dX4_sumOf_8 : decode cX4_sumOf 8 = .ok (.getfield 7, 3) := by decide +kernel
theorem dX4_sumOf_11 : decode cX4_sumOf 11 = .ok (.iconst 1, 1) := by decide +kernel
theorem dX4_sumOf_12 : decode cX4_sumOf 12 = .ok (.isub, 1) := by decide +kernel
theorem dX4_sumOf_13 : decode cX4_sumOf 13 = .ok (.istore 5, 2) := by decide +kernel
theorem dX4_sumOf_15 : decode cX4_sumOf 15 = .ok (.iload 5, 2) := by decide +kernel
theorem dX4_sumOf_17 : decode cX4_sumOf 17 = .ok (.ifCond .lt 70, 3) := by decide +kernel
theorem dX4_sumOf_20 : decode cX4_sumOf 20 = .ok (.iload_n 2, 1) := by decide +kernel
theorem dX4_sumOf_21 : decode cX4_sumOf 21 = .ok (.bipush 10, 2) := by decide +kernel
theorem dX4_sumOf_23 : decode cX4_sumOf 23 = .ok (.irem, 1) := by decide +kernel
theorem dX4_sumOf_24 : decode cX4_sumOf 24 = .ok (.iconst 1, 1) := by decide +kernel
theorem dX4_sumOf_25 : decode cX4_sumOf 25 = .ok (.isub, 1) := by decide +kernel
theorem dX4_sumOf_26 : decode cX4_sumOf 26 = .ok (.istore 6, 2) := by decide +kernel
theorem dX4_sumOf_28 : decode cX4_sumOf 28 = .ok (.iload_n 2, 1) := by decide +kernel
theorem dX4_sumOf_29 : decode cX4_sumOf 29 = .ok (.bipush 10, 2) := by decide +kernel
theorem dX4_sumOf_31 : decode cX4_sumOf 31 = .ok (.idiv, 1) := by decide +kernel
theorem dX4_sumOf_32 : decode cX4_sumOf 32 = .ok (.istore_n 2, 1) := by decide +kernel
theorem dX4_sumOf_33 : decode cX4_sumOf 33 = .ok (.aload_n 0, 1) := by decide +kernel
theorem dX4_sumOf_34 : decode cX4_sumOf 34 = .ok (.iload 6, 2) := by decide +kernel
theorem dX4_sumOf_36 : decode cX4_sumOf 36 = .ok (.invokevirtual 122, 3) := by decide +kernel
theorem dX4_sumOf_39 : decode cX4_sumOf 39 = .ok (.ifCond .eq 13, 3) := by decide +kernel
theorem dX4_sumOf_42 : decode cX4_sumOf 42 = .ok (.iload_n 3, 1) := by decide +kernel
theorem dX4_sumOf_43 : decode cX4_sumOf 43 = .ok (.iload 6, 2) := by decide +kernel
theorem dX4_sumOf_45 : decode cX4_sumOf 45 = .ok (.ishr, 1) := by decide +kernel
theorem dX4_sumOf_46 : decode cX4_sumOf 46 = .ok (.iconst 1, 1) := by decide +kernel
theorem dX4_sumOf_47 : decode cX4_sumOf 47 = .ok (.iand, 1) := by decide +kernel
theorem dX4_sumOf_48 : decode cX4_sumOf 48 = .ok (.iconst 1, 1) := by decide +kernel
theorem dX4_sumOf_49 : decode cX4_sumOf 49 = .ok (.if_icmp .ne 5, 3) := by decide +kernel
theorem dX4_sumOf_52 : decode cX4_sumOf 52 = .ok (.iconst (-1), 1) := by decide +kernel
theorem dX4_sumOf_53 : decode cX4_sumOf 53 = .ok (.istore_n 2, 1) := by decide +kernel
theorem dX4_sumOf_54 : decode cX4_sumOf 54 = .ok (.iload_n 2, 1) := by decide +kernel
theorem dX4_sumOf_55 : decode cX4_sumOf 55 = .ok (.ifCond .ge 6, 3) := by decide +kernel
theorem dX4_sumOf_58 : decode cX4_sumOf 58 = .ok (.goto 29, 3) := by decide +kernel
theorem dX4_sumOf_61 : decode cX4_sumOf 61 = .ok (.iload_n 3, 1) := by decide +kernel
theorem dX4_sumOf_62 : decode cX4_sumOf 62 = .ok (.iconst 1, 1) := by decide +kernel
theorem dX4_sumOf_63 : decode cX4_sumOf 63 = .ok (.iload 6, 2) := by decide +kernel
theorem dX4_sumOf_65 : decode cX4_sumOf 65 = .ok (.ishl, 1) := by decide +kernel
theorem dX4_sumOf_66 : decode cX4_sumOf 66 = .ok (.ior, 1) := by decide +kernel
