theorem dX4_sumOf_67 : decode cX4_sumOf 67 = .ok (.istore_n 3, 1) := by decide +kernel
theorem dX4_sumOf_68 : decode cX4_sumOf 68 = .ok (.iload 4, 2) := by decide +kernel
theorem dX4_sumOf_70 : decode cX4_sumOf 70 = .ok (.aload_n 0, 1) := by decide +kernel
theorem dX4_sumOf_71 : decode cX4_sumOf 71 = .ok (.iload 5, 2) := by decide +kernel
theorem dX4_sumOf_73 : decode cX4_sumOf 73 = .ok (.iload 6, 2) := by decide +kernel
theorem dX4_sumOf_75 : decode cX4_sumOf 75 = .ok (.invokevirtual 75, 3) := by decide +kernel
theorem dX4_sumOf_78 : decode cX4_sumOf 78 = .ok (.iadd, 1) := by decide +kernel
theorem dX4_sumOf_79 : decode cX4_sumOf 79 = .ok (.istore 4, 2) := by decide +kernel
theorem dX4_sumOf_81 : decode cX4_sumOf 81 = .ok (.iinc 5 (-1), 3) := by decide +kernel
theorem dX4_sumOf_84 : decode cX4_sumOf 84 = .ok (.goto (-69), 3) := by decide +kernel
theorem dX4_sumOf_87 : decode cX4_sumOf 87 = .ok (.aload_n 0, 1) := by decide +kernel
theorem dX4_sumOf_88 : decode cX4_sumOf 88 = .ok (.iload_n 2, 1) := by decide +kernel
theorem dX4_sumOf_89 : decode cX4_sumOf 89 = .ok (.ifCond .eq 7, 3) := by decide +kernel
theorem dX4_sumOf_92 : decode cX4_sumOf 92 = .ok (.iconst 1, 1) := by decide +kernel
theorem dX4_sumOf_93 : decode cX4_sumOf 93 = .ok (.goto 4, 3) := by decide +kernel
theorem dX4_sumOf_96 : decode cX4_sumOf 96 = .ok (.iconst 0, 1) := by decide +kernel
theorem dX4_sumOf_97 : decode cX4_sumOf 97 = .ok (.invokevirtual 118, 3) := by decide +kernel
theorem dX4_sumOf_100 : decode cX4_sumOf 100 = .ok (.ifCond .eq 7, 3) := by decide +kernel
theorem dX4_sumOf_103 : decode cX4_sumOf 103 = .ok (.iconst 0, 1) := by decide +kernel
theorem dX4_sumOf_104 : decode cX4_sumOf 104 = .ok (.goto 5, 3) := by decide +kernel
theorem dX4_sumOf_107 : decode cX4_sumOf 107 = .ok (.iload 4, 2) := by decide +kernel
theorem dX4_sumOf_109 : decode cX4_sumOf 109 = .ok (.ireturn, 1) := by decide +kernel
theorem dX4_startEnumeration_0 : decode cX4_startEnumeration 0 = .ok (.aload_n 0, 1) := by decide +kernel
theorem dX4_startEnumeration_1 : decode cX4_startEnumeration 1 = .ok (.aload_n 0, 1) := by decide +kernel
theorem dX4_startEnumeration_2 : decode cX4_startEnumeration 2 = .ok (.getfield 7, 3) := by decide +kernel
theorem dX4_startEnumeration_5 : decode cX4_startEnumeration 5 = .ok (.bipush 6, 2) := by decide +kernel
theorem dX4_startEnumeration_7 : decode cX4_startEnumeration 7 = .ok (.if_icmp .le 7, 3) := by decide +kernel
theorem dX4_startEnumeration_10 : decode cX4_startEnumeration 10 = .ok (.iconst 1, 1) := by decide +kernel
theorem dX4_startEnumeration_11 : decode cX4_startEnumeration 11 = .ok (.goto 4, 3) := by decide +kernel
theorem dX4_startEnumeration_14 : decode cX4_startEnumeration 14 = .ok (.iconst 0, 1) := by decide +kernel
theorem dX4_startEnumeration_15 : decode cX4_startEnumeration 15 = .ok (.invokevirtual 118, 3) := by decide +kernel
theorem dX4_startEnumeration_18 : decode cX4_startEnumeration 18 = .ok (.ifCond .eq 5, 3) := by decide +kernel
theorem dX4_startEnumeration_21 : decode cX4_startEnumeration 21 = .ok (.iconst 0, 1) := by decide +kernel
theorem dX4_startEnumeration_22 : decode cX4_startEnumeration 22 = .ok (.ireturn, 1) := by decide +kernel
theorem dX4_startEnumeration_23 : decode cX4_startEnumeration 23 = .ok (.aload_n 0, 1) := by decide +kernel
theorem dX4_startEnumeration_24 : decode cX4_startEnumeration 24 = .ok (.iconst 0, 1) := by decide +kernel
theorem dX4_startEnumeration_25 : decode cX4_startEnumeration 25 = .ok (.putfield 48, 3) := by decide +kernel
theorem dX4_startEnumeration_28 : decode cX4_startEnumeration 28 = .ok (.aload_n 0, 1) := by decide +kernel
theorem dX4_startEnumeration_29 : decode cX4_startEnumeration 29 = .ok (.iconst (-1), 1) := by decide +kernel
theorem dX4_startEnumeration_30 : decode cX4_startEnumeration 30 = .ok (.putfield 172, 3) := by decide +kernel
theorem dX4_startEnumeration_33 : decode cX4_startEnumeration 33 = .ok (.aload_n 0, 1) := by decide +kernel
theorem dX4_startEnumeration_34 : decode cX4_startEnumeration 34 = .ok (.iconst 0, 1) := by decide +kernel
theorem dX4_startEnumeration_35 : decode cX4_startEnumeration 35 = .ok (.putfield 175, 3) := by decide +kernel
theorem dX4_startEnumeration_38 : decode cX4_startEnumeration 38 = .ok (.aload_n 0, 1) := by decide +kernel
theorem dX4_startEnumeration_39 : decode cX4_startEnumeration 39 = .ok (.getfield 7, 3) := by decide +kernel
theorem dX4_startEnumeration_42 : decode cX4_startEnumeration 42 = .ok (.invokestatic 67, 3) := by decide +kernel
theorem dX4_startEnumeration_45 : decode cX4_startEnumeration 45 = .ok (.ireturn, 1) := by decide +kernel
theorem dX4_nextSum_0 : decode cX4_nextSum 0 = .ok (.aload_n 0, 1) := by decide +kernel
theorem dX4_nextSum_1 : decode cX4_nextSum 1 = .ok (.aload_n 0, 1) := by decide +kernel
theorem dX4_nextSum_2 : decode cX4_nextSum 2 = .ok (.getfield 48, 3) := by decide +kernel
theorem dX4_nextSum_5 : decode cX4_nextSum 5 = .ok (.ifCond .ge 7, 3) := by decide +kernel
theorem dX4_nextSum_8 : decode cX4_nextSum 8 = .ok (.iconst 1, 1) := by decide +kernel
theorem dX4_nextSum_9 : decode cX4_nextSum 9 = .ok (.goto 22, 3) := by decide +kernel
theorem dX4_nextSum_12 : decode cX4_nextSum 12 = .ok (.aload_n 0, 1) := by decide +kernel
theorem dX4_nextSum_13 : decode cX4_nextSum 13 = .ok (.getfield 48, 3) := by decide +kernel
theorem dX4_nextSum_16 : decode cX4_nextSum 16 = .ok (.aload_n 0, 1) := by decide +kernel
theorem dX4_nextSum_17 : decode cX4_nextSum 17 = .ok (.getfield 7, 3) := by decide +kernel
theorem dX4_nextSum_20 : decode cX4_nextSum 20 = .ok (.invokestatic 67, 3) := by decide +kernel
theorem dX4_nextSum_23 : decode cX4_nextSum 23 = .ok (.if_icmp .ne 7, 3) := by decide +kernel
theorem dX4_nextSum_26 : decode cX4_nextSum 26 = .ok (.iconst 2, 1) := by decide +kernel
theorem dX4_nextSum_27 : decode cX4_nextSum 27 = .ok (.goto 4, 3) := by decide +kernel
theorem dX4_nextSum_30 : decode cX4_nextSum 30 = .ok (.iconst 0, 1) := by decide +kernel
theorem dX4_nextSum_31 : decode cX4_nextSum 31 = .ok (.invokevirtual 118, 3) := by decide +kernel
theorem dX4_nextSum_34 : decode cX4_nextSum 34 = .ok (.ifCond .eq 5, 3) := by decide +kernel
theorem dX4_nextSum_37 : decode cX4_nextSum 37 = .ok (.iconst 0, 1) := by decide +kernel
theorem dX4_nextSum_38 : decode cX4_nextSum 38 = .ok (.ireturn, 1) := by decide +kernel
theorem dX4_nextSum_39 : decode cX4_nextSum 39 = .ok (.ldc 79, 2) := by decide +kernel
theorem dX4_nextSum_41 : decode cX4_nextSum 41 = .ok (.istore_n 1, 1) := by decide +kernel
theorem dX4_nextSum_42 : decode cX4_nextSum 42 = .ok (.iconst 0, 1) := by decide +kernel
theorem dX4_nextSum_43 : decode cX4_nextSum 43 = .ok (.istore_n 2, 1) := by decide +kernel
theorem dX4_nextSum_44 : decode cX4_nextSum 44 = .ok (.aload_n 0, 1) := by decide +kernel
theorem dX4_nextSum_45 : decode cX4_nextSum 45 = .ok (.invokevirtual 108, 3) := by decide +kernel
theorem dX4_nextSum_48 : decode cX4_nextSum 48 = .ok (.aload_n 0, 1) := by decide +kernel
theorem dX4_nextSum_49 : decode cX4_nextSum 49 = .ok (.invokevirtual 95, 3) := by decide +kernel
theorem dX4_nextSum_52 : decode cX4_nextSum 52 = .ok (.iconst 0, 1) := by decide +kernel
theorem dX4_nextSum_53 : decode cX4_nextSum 53 = .ok (.istore_n 3, 1) := by decide +kernel
theorem dX4_nextSum_54 : decode cX4_nextSum 54 = .ok (.iload_n 3, 1) := by decide +kernel
theorem dX4_nextSum_55 : decode cX4_nextSum 55 = .ok (.aload_n 0, 1) := by decide +kernel
theorem dX4_nextSum_56 : decode cX4_nextSum 56 = .ok (.getfield 7, 3) := by decide +kernel
theorem dX4_nextSum_59 : decode cX4_nextSum 59 = .ok (.invokestatic 67, 3) := by decide +kernel
theorem dX4_nextSum_62 : decode cX4_nextSum 62 = .ok (.if_icmp .ge 108, 3) := by decide +kernel
theorem dX4_nextSum_65 : decode cX4_nextSum 65 = .ok (.aload_n 0, 1) := by decide +kernel
theorem dX4_nextSum_66 : decode cX4_nextSum 66 = .ok (.aload_n 0, 1) := by decide +kernel
theorem dX4_nextSum_67 : decode cX4_nextSum 67 = .ok (.getfield 7, 3) := by decide +kernel
theorem dX4_nextSum_70 : decode cX4_nextSum 70 = .ok (.invokevirtual 98, 3) := by decide +kernel
theorem dX4_nextSum_73 : decode cX4_nextSum 73 = .ok (.istore 4, 2) := by decide +kernel
theorem dX4_nextSum_75 : decode cX4_nextSum 75 = .ok (.iload 4, 2) := by decide +kernel
theorem dX4_nextSum_77 : decode cX4_nextSum 77 = .ok (.aload_n 0, 1) := by decide +kernel
theorem dX4_nextSum_78 : decode cX4_nextSum 78 = .ok (.getfield 172, 3) := by decide +kernel
theorem dX4_nextSum_81 : decode cX4_nextSum 81 = .ok (.if_icmp .gt 20, 3) := by decide +kernel
theorem dX4_nextSum_84 : decode cX4_nextSum 84 = .ok (.iload 4, 2) := by decide +kernel
theorem dX4_nextSum_86 : decode cX4_nextSum 86 = .ok (.aload_n 0, 1) := by decide +kernel
theorem dX4_nextSum_87 : decode cX4_nextSum 87 = .ok (.getfield 172, 3) := by decide +kernel
theorem dX4_nextSum_90 : decode cX4_nextSum 90 = .ok (.if_icmp .ne 15, 3) := by decide +kernel
theorem dX4_nextSum_93 : decode cX4_nextSum 93 = .ok (.iload_n 3, 1) := by decide +kernel
theorem dX4_nextSum_94 : decode cX4_nextSum 94 = .ok (.aload_n 0, 1) := by decide +kernel
theorem dX4_nextSum_95 : decode cX4_nextSum 95 = .ok (.getfield 175, 3) := by decide +kernel
theorem dX4_nextSum_98 : decode cX4_nextSum 98 = .ok (.if_icmp .le 7, 3) := by decide +kernel
theorem dX4_nextSum_101 : decode cX4_nextSum 101 = .ok (.iconst 1, 1) := by decide +kernel
theorem dX4_nextSum_102 : decode cX4_nextSum 102 = .ok (.goto 4, 3) := by decide +kernel
theorem dX4_nextSum_105 : decode cX4_nextSum 105 = .ok (.iconst 0, 1) := by decide +kernel
theorem dX4_nextSum_106 : decode cX4_nextSum 106 = .ok (.istore 5, 2) := by decide +kernel
theorem dX4_nextSum_108 : decode cX4_nextSum 108 = .ok (.iload 5, 2) := by decide +kernel
theorem dX4_nextSum_110 : decode cX4_nextSum 110 = .ok (.ifCond .eq 46, 3) := by decide +kernel
theorem dX4_nextSum_113 : decode cX4_nextSum 113 = .ok (.iload 4, 2) := by decide +kernel
theorem dX4_nextSum_115 : decode cX4_nextSum 115 = .ok (.iload_n 1, 1) := by decide +kernel
theorem dX4_nextSum_116 : decode cX4_nextSum 116 = .ok (.if_icmp .ge 40, 3) := by decide +kernel
theorem dX4_nextSum_119 : decode cX4_nextSum 119 = .ok (.iload 4, 2) := by decide +kernel
theorem dX4_nextSum_121 : decode cX4_nextSum 121 = .ok (.istore_n 1, 1) := by decide +kernel
theorem dX4_nextSum_122 : decode cX4_nextSum 122 = .ok (.iload_n 3, 1) := by decide +kernel
theorem dX4_nextSum_123 : decode cX4_nextSum 123 = .ok (.istore_n 2, 1) := by decide +kernel
theorem dX4_nextSum_124 : decode cX4_nextSum 124 = .ok (.iconst 0, 1) := by decide +kernel
theorem dX4_nextSum_125 : decode cX4_nextSum 125 = .ok (.istore 6, 2) := by decide +kernel
theorem dX4_nextSum_127 : decode cX4_nextSum 127 = .ok (.iload 6, 2) := by decide +kernel
theorem dX4_nextSum_129 : decode cX4_nextSum 129 = .ok (.aload_n 0, 1) := by decide +kernel
theorem dX4_nextSum_130 : decode cX4_nextSum 130 = .ok (.getfield 7, 3) := by decide +kernel
theorem dX4_nextSum_133 : decode cX4_nextSum 133 = .ok (.if_icmp .ge 23, 3) := by decide +kernel
theorem dX4_nextSum_136 : decode cX4_nextSum 136 = .ok (.aload_n 0, 1) := by decide +kernel
theorem dX4_nextSum_137 : decode cX4_nextSum 137 = .ok (.getfield 51, 3) := by decide +kernel
theorem dX4_nextSum_140 : decode cX4_nextSum 140 = .ok (.iload 6, 2) := by decide +kernel
theorem dX4_nextSum_142 : decode cX4_nextSum 142 = .ok (.aload_n 0, 1) := by decide +kernel
theorem dX4_nextSum_143 : decode cX4_nextSum 143 = .ok (.getfield 42, 3) := by decide +kernel
theorem dX4_nextSum_146 : decode cX4_nextSum 146 = .ok (.iload 6, 2) := by decide +kernel
theorem dX4_nextSum_148 : decode cX4_nextSum 148 = .ok (.iaload, 1) := by decide +kernel
theorem dX4_nextSum_149 : decode cX4_nextSum 149 = .ok (.iastore, 1) := by decide +kernel
theorem dX4_nextSum_150 : decode cX4_nextSum 150 = .ok (.iinc 6 1, 3) := by decide +kernel
theorem dX4_nextSum_153 : decode cX4_nextSum 153 = .ok (.goto (-26), 3) := by decide +kernel
theorem dX4_nextSum_156 : decode cX4_nextSum 156 = .ok (.aload_n 0, 1) := by decide +kernel
theorem dX4_nextSum_157 : decode cX4_nextSum 157 = .ok (.aload_n 0, 1) := by decide +kernel
theorem dX4_nextSum_158 : decode cX4_nextSum 158 = .ok (.getfield 7, 3) := by decide +kernel
theorem dX4_nextSum_161 : decode cX4_nextSum 161 = .ok (.invokevirtual 104, 3) := by decide +kernel
theorem dX4_nextSum_164 : decode cX4_nextSum 164 = .ok (.iinc 3 1, 3) := by decide +kernel
theorem dX4_nextSum_167 : decode cX4_nextSum 167 = .ok (.goto (-113), 3) := by decide +kernel
theorem dX4_nextSum_170 : decode cX4_nextSum 170 = .ok (.aload_n 0, 1) := by decide +kernel
theorem dX4_nextSum_171 : decode cX4_nextSum 171 = .ok (.iload_n 1, 1) := by decide +kernel
theorem dX4_nextSum_172 : decode cX4_nextSum 172 = .ok (.putfield 172, 3) := by decide +kernel
theorem dX4_nextSum_175 : decode cX4_nextSum 175 = .ok (.aload_n 0, 1) := by decide +kernel
theorem dX4_nextSum_176 : decode cX4_nextSum 176 = .ok (.iload_n 2, 1) := by decide +kernel
theorem dX4_nextSum_177 : decode cX4_nextSum 177 = .ok (.putfield 175, 3) := by decide +kernel
theorem dX4_nextSum_180 : decode cX4_nextSum 180 = .ok (.aload_n 0, 1) := by decide +kernel
theorem dX4_nextSum_181 : decode cX4_nextSum 181 = .ok (.dup, 1) := by decide +kernel
theorem dX4_nextSum_182 : decode cX4_nextSum 182 = .ok (.getfield 48, 3) := by decide +kernel
theorem dX4_nextSum_185 : decode cX4_nextSum 185 = .ok (.iconst 1, 1) := by decide +kernel
theorem dX4_nextSum_186 : decode cX4_nextSum 186 = .ok (.iadd, 1) := by decide +kernel
theorem dX4_nextSum_187 : decode cX4_nextSum 187 = .ok (.putfield 48, 3) := by decide +kernel
theorem dX4_nextSum_190 : decode cX4_nextSum 190 = .ok (.iload_n 1, 1) := by decide +kernel
theorem dX4_nextSum_191 : decode cX4_nextSum 191 = .ok (.ireturn, 1) := by decide +kernel
theorem dX4_currentColumn_0 : decode cX4_currentColumn 0 = .ok (.aload_n 0, 1) := by decide +kernel
theorem dX4_currentColumn_1 : decode cX4_currentColumn 1 = .ok (.aload_n 0, 1) := by decide +kernel
theorem dX4_currentColumn_2 : decode cX4_currentColumn 2 = .ok (.iload_n 1, 1) := by decide +kernel
theorem dX4_currentColumn_3 : decode cX4_currentColumn 3 = .ok (.invokevirtual 122, 3) := by decide +kernel
theorem dX4_currentColumn_6 : decode cX4_currentColumn 6 = .ok (.ifCond .ne 7, 3) := by decide +kernel
theorem dX4_currentColumn_9 : decode cX4_currentColumn 9 = .ok (.iconst 1, 1) := by decide +kernel
theorem dX4_currentColumn_10 : decode cX4_currentColumn 10 = .ok (.goto 16, 3) := by decide +kernel
theorem dX4_currentColumn_13 : decode cX4_currentColumn 13 = .ok (.aload_n 0, 1) := by decide +kernel
theorem dX4_currentColumn_14 : decode cX4_currentColumn 14 = .ok (.getfield 48, 3) := by decide +kernel
theorem dX4_currentColumn_17 : decode cX4_currentColumn 17 = .ok (.iconst 1, 1) := by decide +kernel
theorem dX4_currentColumn_18 : decode cX4_currentColumn 18 = .ok (.if_icmp .ge 7, 3) := by decide +kernel
theorem dX4_currentColumn_21 : decode cX4_currentColumn 21 = .ok (.iconst 2, 1) := by decide +kernel
theorem dX4_currentColumn_22 : decode cX4_currentColumn 22 = .ok (.goto 4, 3) := by decide +kernel
theorem dX4_currentColumn_25 : decode cX4_currentColumn 25 = .ok (.iconst 0, 1) := by decide +kernel
theorem dX4_currentColumn_26 : decode cX4_currentColumn 26 = .ok (.invokevirtual 118, 3) := by decide +kernel
theorem dX4_currentColumn_29 : decode cX4_currentColumn 29 = .ok (.ifCond .eq 7, 3) := by decide +kernel
theorem dX4_currentColumn_32 : decode cX4_currentColumn 32 = .ok (.iconst 0, 1) := by decide +kernel
theorem dX4_currentColumn_33 : decode cX4_currentColumn 33 = .ok (.goto 9, 3) := by decide +kernel
theorem dX4_currentColumn_36 : decode cX4_currentColumn 36 = .ok (.aload_n 0, 1) := by decide +kernel
theorem dX4_currentColumn_37 : decode cX4_currentColumn 37 = .ok (.getfield 51, 3) := by decide +kernel
theorem dX4_currentColumn_40 : decode cX4_currentColumn 40 = .ok (.iload_n 1, 1) := by decide +kernel
theorem dX4_currentColumn_41 : decode cX4_currentColumn 41 = .ok (.iaload, 1) := by decide +kernel
theorem dX4_currentColumn_42 : decode cX4_currentColumn 42 = .ok (.ireturn, 1) := by decide +kernel
theorem dX4_stepsMade_0 : decode cX4_stepsMade 0 = .ok (.aload_n 0, 1) := by decide +kernel
theorem dX4_stepsMade_1 : decode cX4_stepsMade 1 = .ok (.getfield 48, 3) := by decide +kernel
theorem dX4_stepsMade_4 : decode cX4_stepsMade 4 = .ok (.ireturn, 1) := by decide +kernel
theorem dX4_meanCost_0 : decode cX4_meanCost 0 = .ok (.aload_n 0, 1) := by decide +kernel
theorem dX4_meanCost_1 : decode cX4_meanCost 1 = .ok (.invokevirtual 153, 3) := by decide +kernel
theorem dX4_meanCost_4 : decode cX4_meanCost 4 = .ok (.i2d, 1) := by decide +kernel
theorem dX4_meanCost_5 : decode cX4_meanCost 5 = .ok (.aload_n 0, 1) := by decide +kernel
theorem dX4_meanCost_6 : decode cX4_meanCost 6 = .ok (.getfield 7, 3) := by decide +kernel
theorem dX4_meanCost_9 : decode cX4_meanCost 9 = .ok (.aload_n 0, 1) := by decide +kernel
theorem dX4_meanCost_10 : decode cX4_meanCost 10 = .ok (.getfield 7, 3) := by decide +kernel
theorem dX4_meanCost_13 : decode cX4_meanCost 13 = .ok (.imul, 1) := by decide +kernel
theorem dX4_meanCost_14 : decode cX4_meanCost 14 = .ok (.i2d, 1) := by decide +kernel
theorem dX4_meanCost_15 : decode cX4_meanCost 15 = .ok (.ddiv, 1) := by decide +kernel
theorem dX4_meanCost_16 : decode cX4_meanCost 16 = .ok (.dreturn, 1) := by decide +kernel
theorem dX4_shareOf_0 : decode cX4_shareOf 0 = .ok (.aload_n 0, 1) := by decide +kernel
theorem dX4_shareOf_1 : decode cX4_shareOf 1 = .ok (.aload_n 0, 1) := by decide +kernel
theorem dX4_shareOf_2 : decode cX4_shareOf 2 = .ok (.iload_n 1, 1) := by decide +kernel
theorem dX4_shareOf_3 : decode cX4_shareOf 3 = .ok (.invokevirtual 122, 3) := by decide +kernel
theorem dX4_shareOf_6 : decode cX4_shareOf 6 = .ok (.ifCond .eq 7, 3) := by decide +kernel
theorem dX4_shareOf_9 : decode cX4_shareOf 9 = .ok (.iconst 0, 1) := by decide +kernel
theorem dX4_shareOf_10 : decode cX4_shareOf 10 = .ok (.goto 4, 3) := by decide +kernel
theorem dX4_shareOf_13 : decode cX4_shareOf 13 = .ok (.iconst 1, 1) := by decide +kernel
theorem dX4_shareOf_14 : decode cX4_shareOf 14 = .ok (.invokevirtual 118, 3) := by decide +kernel
theorem dX4_shareOf_17 : decode cX4_shareOf 17 = .ok (.ifCond .eq 5, 3) := by decide +kernel
theorem dX4_shareOf_20 : decode cX4_shareOf 20 = .ok (.fconst 0, 1) := by decide +kernel
theorem dX4_shareOf_21 : decode cX4_shareOf 21 = .ok (.freturn, 1) := by decide +kernel
theorem dX4_shareOf_22 : decode cX4_shareOf 22 = .ok (.aload_n 0, 1) := by decide +kernel
theorem dX4_shareOf_23 : decode cX4_shareOf 23 = .ok (.invokevirtual 114, 3) := by decide +kernel
theorem dX4_shareOf_26 : decode cX4_shareOf 26 = .ok (.aload_n 0, 1) := by decide +kernel
theorem dX4_shareOf_27 : decode cX4_shareOf 27 = .ok (.getfield 80, 3) := by decide +kernel
theorem dX4_shareOf_30 : decode cX4_shareOf 30 = .ok (.ifCond .ne 7, 3) := by decide +kernel
theorem dX4_shareOf_33 : decode cX4_shareOf 33 = .ok (.fconst 0, 1) := by decide +kernel
theorem dX4_shareOf_34 : decode cX4_shareOf 34 = .ok (.goto 26, 3) := by decide +kernel
theorem dX4_shareOf_37 : decode cX4_shareOf 37 = .ok (.aload_n 0, 1) := by decide +kernel
theorem dX4_shareOf_38 : decode cX4_shareOf 38 = .ok (.getfield 36, 3) := by decide +kernel
theorem dX4_shareOf_41 : decode cX4_shareOf 41 = .ok (.bipush 7, 2) := by decide +kernel
theorem dX4_shareOf_43 : decode cX4_shareOf 43 = .ok (.iload_n 1, 1) := by decide +kernel
theorem dX4_shareOf_44 : decode cX4_shareOf 44 = .ok (.imul, 1) := by decide +kernel
theorem dX4_shareOf_45 : decode cX4_shareOf 45 = .ok (.aload_n 0, 1) := by decide +kernel
theorem dX4_shareOf_46 : decode cX4_shareOf 46 = .ok (.getfield 45, 3) := by decide +kernel
theorem dX4_shareOf_49 : decode cX4_shareOf 49 = .ok (.iload_n 1, 1) := by decide +kernel
theorem dX4_shareOf_50 : decode cX4_shareOf 50 = .ok (.iaload, 1) := by decide +kernel
theorem dX4_shareOf_51 : decode cX4_shareOf 51 = .ok (.iadd, 1) := by decide +kernel
theorem dX4_shareOf_52 : decode cX4_shareOf 52 = .ok (.iaload, 1) := by decide +kernel
theorem dX4_shareOf_53 : decode cX4_shareOf 53 = .ok (.i2f, 1) := by decide +kernel
theorem dX4_shareOf_54 : decode cX4_shareOf 54 = .ok (.aload_n 0, 1) := by decide +kernel
theorem dX4_shareOf_55 : decode cX4_shareOf 55 = .ok (.getfield 80, 3) := by decide +kernel
theorem dX4_shareOf_58 : decode cX4_shareOf 58 = .ok (.i2f, 1) := by decide +kernel
theorem dX4_shareOf_59 : decode cX4_shareOf 59 = .ok (.fdiv, 1) := by decide +kernel
theorem dX4_shareOf_60 : decode cX4_shareOf 60 = .ok (.freturn, 1) := by decide +kernel
theorem dX4_checksum_0 : decode cX4_checksum 0 = .ok (.aload_n 0, 1) := by decide +kernel
theorem dX4_checksum_1 : decode cX4_checksum 1 = .ok (.invokevirtual 114, 3) := by decide +kernel
theorem dX4_checksum_4 : decode cX4_checksum 4 = .ok (.ldc2_w 178, 3) := by decide +kernel
theorem dX4_checksum_7 : decode cX4_checksum 7 = .ok (.aload_n 0, 1) := by decide +kernel
theorem dX4_checksum_8 : decode cX4_checksum 8 = .ok (.getfield 7, 3) := by decide +kernel
theorem dX4_checksum_11 : decode cX4_checksum 11 = .ok (.i2l, 1) := by decide +kernel
theorem dX4_checksum_12 : decode cX4_checksum 12 = .ok (.ladd, 1) := by decide +kernel
theorem dX4_checksum_13 : decode cX4_checksum 13 = .ok (.lstore_n 1, 1) := by decide +kernel
theorem dX4_checksum_14 : decode cX4_checksum 14 = .ok (.ldc2_w 180, 3) := by decide +kernel
theorem dX4_checksum_17 : decode cX4_checksum 17 = .ok (.ldc2_w 180, 3) := by decide +kernel
theorem dX4_checksum_20 : decode cX4_checksum 20 = .ok (.lload_n 1, 1) := by decide +kernel
theorem dX4_checksum_21 : decode cX4_checksum 21 = .ok (.lmul, 1) := by decide +kernel
theorem dX4_checksum_22 : decode cX4_checksum 22 = .ok (.aload_n 0, 1) := by decide +kernel
theorem dX4_checksum_23 : decode cX4_checksum 23 = .ok (.getfield 13, 3) := by decide +kernel
theorem dX4_checksum_26 : decode cX4_checksum 26 = .ok (.i2l, 1) := by decide +kernel
theorem dX4_checksum_27 : decode cX4_checksum 27 = .ok (.ladd, 1) := by decide +kernel
theorem dX4_checksum_28 : decode cX4_checksum 28 = .ok (.lmul, 1) := by decide +kernel
theorem dX4_checksum_29 : decode cX4_checksum 29 = .ok (.aload_n 0, 1) := by decide +kernel
theorem dX4_checksum_30 : decode cX4_checksum 30 = .ok (.invokevirtual 134, 3) := by decide +kernel
theorem dX4_checksum_33 : decode cX4_checksum 33 = .ok (.i2l, 1) := by decide +kernel
theorem dX4_checksum_34 : decode cX4_checksum 34 = .ok (.ladd, 1) := by decide +kernel
theorem dX4_checksum_35 : decode cX4_checksum 35 = .ok (.lstore_n 1, 1) := by decide +kernel
theorem dX4_checksum_36 : decode cX4_checksum 36 = .ok (.ldc2_w 180, 3) := by decide +kernel
theorem dX4_checksum_39 : decode cX4_checksum 39 = .ok (.ldc2_w 180, 3) := by decide +kernel
theorem dX4_checksum_42 : decode cX4_checksum 42 = .ok (.lload_n 1, 1) := by decide +kernel
theorem dX4_checksum_43 : decode cX4_checksum 43 = .ok (.lmul, 1) := by decide +kernel
theorem dX4_checksum_44 : decode cX4_checksum 44 = .ok (.aload_n 0, 1) := by decide +kernel
theorem dX4_checksum_45 : decode cX4_checksum 45 = .ok (.invokevirtual 153, 3) := by decide +kernel
theorem dX4_checksum_48 : decode cX4_checksum 48 = .ok (.i2l, 1) := by decide +kernel
theorem dX4_checksum_49 : decode cX4_checksum 49 = .ok (.ladd, 1) := by decide +kernel
theorem dX4_checksum_50 : decode cX4_checksum 50 = .ok (.lmul, 1) := by decide +kernel
theorem dX4_checksum_51 : decode cX4_checksum 51 = .ok (.aload_n 0, 1) := by decide +kernel
theorem dX4_checksum_52 : decode cX4_checksum 52 = .ok (.getfield 48, 3) := by decide +kernel
theorem dX4_checksum_55 : decode cX4_checksum 55 = .ok (.i2l, 1) := by decide +kernel
theorem dX4_checksum_56 : decode cX4_checksum 56 = .ok (.ladd, 1) := by decide +kernel
theorem dX4_checksum_57 : decode cX4_checksum 57 = .ok (.lstore_n 1, 1) := by decide +kernel
theorem dX4_checksum_58 : decode cX4_checksum 58 = .ok (.iconst 0, 1) := by decide +kernel
theorem dX4_checksum_59 : decode cX4_checksum 59 = .ok (.istore_n 3, 1) := by decide +kernel
theorem dX4_checksum_60 : decode cX4_checksum 60 = .ok (.iload_n 3, 1) := by decide +kernel
theorem dX4_checksum_61 : decode cX4_checksum 61 = .ok (.aload_n 0, 1) := by decide +kernel
theorem dX4_checksum_62 : decode cX4_checksum 62 = .ok (.getfield 7, 3) := by decide +kernel
theorem dX4_checksum_65 : decode cX4_checksum 65 = .ok (.if_icmp .ge 42, 3) := by decide +kernel
theorem dX4_checksum_68 : decode cX4_checksum 68 = .ok (.iconst 0, 1) := by decide +kernel
theorem dX4_checksum_69 : decode cX4_checksum 69 = .ok (.istore 4, 2) := by decide +kernel
theorem dX4_checksum_71 : decode cX4_checksum 71 = .ok (.iload 4, 2) := by decide +kernel
theorem dX4_checksum_73 : decode cX4_checksum 73 = .ok (.aload_n 0, 1) := by decide +kernel
theorem dX4_checksum_74 : decode cX4_checksum 74 = .ok (.getfield 7, 3) := by decide +kernel
theorem dX4_checksum_77 : decode cX4_checksum 77 = .ok (.if_icmp .ge 24, 3) := by decide +kernel
theorem dX4_checksum_80 : decode cX4_checksum 80 = .ok (.ldc2_w 180, 3) := by decide +kernel
theorem dX4_checksum_83 : decode cX4_checksum 83 = .ok (.lload_n 1, 1) := by decide +kernel
theorem dX4_checksum_84 : decode cX4_checksum 84 = .ok (.lmul, 1) := by decide +kernel
theorem dX4_checksum_85 : decode cX4_checksum 85 = .ok (.aload_n 0, 1) := by decide +kernel
theorem dX4_checksum_86 : decode cX4_checksum 86 = .ok (.iload_n 3, 1) := by decide +kernel
theorem dX4_checksum_87 : decode cX4_checksum 87 = .ok (.iload 4, 2) := by decide +kernel
theorem dX4_checksum_89 : decode cX4_checksum 89 = .ok (.invokevirtual 75, 3) := by decide +kernel
theorem dX4_checksum_92 : decode cX4_checksum 92 = .ok (.i2l, 1) := by decide +kernel
theorem dX4_checksum_93 : decode cX4_checksum 93 = .ok (.ladd, 1) := by decide +kernel
theorem dX4_checksum_94 : decode cX4_checksum 94 = .ok (.lstore_n 1, 1) := by decide +kernel
theorem dX4_checksum_95 : decode cX4_checksum 95 = .ok (.iinc 4 1, 3) := by decide +kernel
theorem dX4_checksum_98 : decode cX4_checksum 98 = .ok (.goto (-27), 3) := by decide +kernel
theorem dX4_checksum_101 : decode cX4_checksum 101 = .ok (.iinc 3 1, 3) := by decide +kernel
theorem dX4_checksum_104 : decode cX4_checksum 104 = .ok (.goto (-44), 3) := by decide +kernel
theorem dX4_checksum_107 : decode cX4_checksum 107 = .ok (.ldc2_w 180, 3) := by decide +kernel
theorem dX4_checksum_110 : decode cX4_checksum 110 = .ok (.lload_n 1, 1) := by decide +kernel
theorem dX4_checksum_111 : decode cX4_checksum 111 = .ok (.lmul, 1) := by decide +kernel
theorem dX4_checksum_112 : decode cX4_checksum 112 = .ok (.aload_n 0, 1) := by decide +kernel
theorem dX4_checksum_113 : decode cX4_checksum 113 = .ok (.getfield 80, 3) := by decide +kernel
theorem dX4_checksum_116 : decode cX4_checksum 116 = .ok (.i2l, 1) := by decide +kernel
theorem dX4_checksum_117 : decode cX4_checksum 117 = .ok (.ladd, 1) := by decide +kernel
theorem dX4_checksum_118 : decode cX4_checksum 118 = .ok (.lstore_n 1, 1) := by decide +kernel
theorem dX4_checksum_119 : decode cX4_checksum 119 = .ok (.iconst 0, 1) := by decide +kernel
theorem dX4_checksum_120 : decode cX4_checksum 120 = .ok (.istore_n 3, 1) := by decide +kernel
theorem dX4_checksum_121 : decode cX4_checksum 121 = .ok (.iload_n 3, 1) := by decide +kernel
theorem dX4_checksum_122 : decode cX4_checksum 122 = .ok (.aload_n 0, 1) := by decide +kernel
theorem dX4_checksum_123 : decode cX4_checksum 123 = .ok (.getfield 7, 3) := by decide +kernel
theorem dX4_checksum_126 : decode cX4_checksum 126 = .ok (.if_icmp .ge 23, 3) := by decide +kernel
theorem dX4_checksum_129 : decode cX4_checksum 129 = .ok (.ldc2_w 180, 3) := by decide +kernel
theorem dX4_checksum_132 : decode cX4_checksum 132 = .ok (.lload_n 1, 1) := by decide +kernel
theorem dX4_checksum_133 : decode cX4_checksum 133 = .ok (.lmul, 1) := by decide +kernel
theorem dX4_checksum_134 : decode cX4_checksum 134 = .ok (.aload_n 0, 1) := by decide +kernel
theorem dX4_checksum_135 : decode cX4_checksum 135 = .ok (.getfield 45, 3) := by decide +kernel
theorem dX4_checksum_138 : decode cX4_checksum 138 = .ok (.iload_n 3, 1) := by decide +kernel
theorem dX4_checksum_139 : decode cX4_checksum 139 = .ok (.iaload, 1) := by decide +kernel
theorem dX4_checksum_140 : decode cX4_checksum 140 = .ok (.i2l, 1) := by decide +kernel
theorem dX4_checksum_141 : decode cX4_checksum 141 = .ok (.ladd, 1) := by decide +kernel
theorem dX4_checksum_142 : decode cX4_checksum 142 = .ok (.lstore_n 1, 1) := by decide +kernel
theorem dX4_checksum_143 : decode cX4_checksum 143 = .ok (.iinc 3 1, 3) := by decide +kernel
theorem dX4_checksum_146 : decode cX4_checksum 146 = .ok (.goto (-25), 3) := by decide +kernel
theorem dX4_checksum_149 : decode cX4_checksum 149 = .ok (.ldc2_w 180, 3) := by decide +kernel
theorem dX4_checksum_152 : decode cX4_checksum 152 = .ok (.ldc2_w 180, 3) := by decide +kernel
theorem dX4_checksum_155 : decode cX4_checksum 155 = .ok (.lload_n 1, 1) := by decide +kernel
theorem dX4_checksum_156 : decode cX4_checksum 156 = .ok (.lmul, 1) := by decide +kernel
theorem dX4_checksum_157 : decode cX4_checksum 157 = .ok (.aload_n 0, 1) := by decide +kernel
theorem dX4_checksum_158 : decode cX4_checksum 158 = .ok (.getfield 16, 3) := by decide +kernel
theorem dX4_checksum_161 : decode cX4_checksum 161 = .ok (.i2l, 1) := by decide +kernel
theorem dX4_checksum_162 : decode cX4_checksum 162 = .ok (.ladd, 1) := by decide +kernel
theorem dX4_checksum_163 : decode cX4_checksum 163 = .ok (.lmul, 1) := by decide +kernel
theorem dX4_checksum_164 : decode cX4_checksum 164 = .ok (.aload_n 0, 1) := by decide +kernel
theorem dX4_checksum_165 : decode cX4_checksum 165 = .ok (.getfield 19, 3) := by decide +kernel
theorem dX4_checksum_168 : decode cX4_checksum 168 = .ok (.i2l, 1) := by decide +kernel
theorem dX4_checksum_169 : decode cX4_checksum 169 = .ok (.ladd, 1) := by decide +kernel
theorem dX4_checksum_170 : decode cX4_checksum 170 = .ok (.lstore_n 1, 1) := by decide +kernel
theorem dX4_checksum_171 : decode cX4_checksum 171 = .ok (.iconst 0, 1) := by decide +kernel
theorem dX4_checksum_172 : decode cX4_checksum 172 = .ok (.istore_n 3, 1) := by decide +kernel
theorem dX4_checksum_173 : decode cX4_checksum 173 = .ok (.iload_n 3, 1) := by decide +kernel
theorem dX4_checksum_174 : decode cX4_checksum 174 = .ok (.aload_n 0, 1) := by decide +kernel
theorem dX4_checksum_175 : decode cX4_checksum 175 = .ok (.getfield 16, 3) := by decide +kernel
theorem dX4_checksum_178 : decode cX4_checksum 178 = .ok (.if_icmp .ge 42, 3) := by decide +kernel
theorem dX4_checksum_181 : decode cX4_checksum 181 = .ok (.iconst 0, 1) := by decide +kernel
theorem dX4_checksum_182 : decode cX4_checksum 182 = .ok (.istore 4, 2) := by decide +kernel
theorem dX4_checksum_184 : decode cX4_checksum 184 = .ok (.iload 4, 2) := by decide +kernel
theorem dX4_checksum_186 : decode cX4_checksum 186 = .ok (.aload_n 0, 1) := by decide +kernel
theorem dX4_checksum_187 : decode cX4_checksum 187 = .ok (.getfield 16, 3) := by decide +kernel
theorem dX4_checksum_190 : decode cX4_checksum 190 = .ok (.if_icmp .ge 24, 3) := by decide +kernel
theorem dX4_checksum_193 : decode cX4_checksum 193 = .ok (.ldc2_w 180, 3) := by decide +kernel
theorem dX4_checksum_196 : decode cX4_checksum 196 = .ok (.lload_n 1, 1) := by decide +kernel
theorem dX4_checksum_197 : decode cX4_checksum 197 = .ok (.lmul, 1) := by decide +kernel
theorem dX4_checksum_198 : decode cX4_checksum 198 = .ok (.aload_n 0, 1) := by decide +kernel
theorem dX4_checksum_199 : decode cX4_checksum 199 = .ok (.iload_n 3, 1) := by decide +kernel
theorem dX4_checksum_200 : decode cX4_checksum 200 = .ok (.iload 4, 2) := by decide +kernel
theorem dX4_checksum_202 : decode cX4_checksum 202 = .ok (.invokevirtual 156, 3) := by decide +kernel
theorem dX4_checksum_205 : decode cX4_checksum 205 = .ok (.i2l, 1) := by decide +kernel
theorem dX4_checksum_206 : decode cX4_checksum 206 = .ok (.ladd, 1) := by decide +kernel
theorem dX4_checksum_207 : decode cX4_checksum 207 = .ok (.lstore_n 1, 1) := by decide +kernel
theorem dX4_checksum_208 : decode cX4_checksum 208 = .ok (.iinc 4 1, 3) := by decide +kernel
theorem dX4_checksum_211 : decode cX4_checksum 211 = .ok (.goto (-27), 3) := by decide +kernel
theorem dX4_checksum_214 : decode cX4_checksum 214 = .ok (.iinc 3 1, 3) := by decide +kernel
theorem dX4_checksum_217 : decode cX4_checksum 217 = .ok (.goto (-44), 3) := by decide +kernel
theorem dX4_checksum_220 : decode cX4_checksum 220 = .ok (.lload_n 1, 1) := by decide +kernel
theorem dX4_checksum_221 : decode cX4_checksum 221 = .ok (.lreturn, 1) := by decide +kernel
theorem dX4_isSound_0 : decode cX4_isSound 0 = .ok (.aload_n 0, 1) := by decide +kernel
theorem dX4_isSound_1 : decode cX4_isSound 1 = .ok (.invokevirtual 159, 3) := by decide +kernel
theorem dX4_isSound_4 : decode cX4_isSound 4 = .ok (.iconst 0, 1) := by decide +kernel
theorem dX4_isSound_5 : decode cX4_isSound 5 = .ok (.istore_n 1, 1) := by decide +kernel
theorem dX4_isSound_6 : decode cX4_isSound 6 = .ok (.iconst 1, 1) := by decide +kernel
theorem dX4_isSound_7 : decode cX4_isSound 7 = .ok (.istore_n 2, 1) := by decide +kernel
theorem dX4_isSound_8 : decode cX4_isSound 8 = .ok (.iconst 0, 1) := by decide +kernel
theorem dX4_isSound_9 : decode cX4_isSound 9 = .ok (.istore_n 3, 1) := by decide +kernel
theorem dX4_isSound_10 : decode cX4_isSound 10 = .ok (.iload_n 3, 1) := by decide +kernel
theorem dX4_isSound_11 : decode cX4_isSound 11 = .ok (.aload_n 0, 1) := by decide +kernel
theorem dX4_isSound_12 : decode cX4_isSound 12 = .ok (.getfield 7, 3) := by decide +kernel
theorem dX4_isSound_15 : decode cX4_isSound 15 = .ok (.if_icmp .ge 83, 3) := by decide +kernel
theorem dX4_isSound_18 : decode cX4_isSound 18 = .ok (.iload_n 1, 1) := by decide +kernel
theorem dX4_isSound_19 : decode cX4_isSound 19 = .ok (.aload_n 0, 1) := by decide +kernel
theorem dX4_isSound_20 : decode cX4_isSound 20 = .ok (.getfield 54, 3) := by decide +kernel
theorem dX4_isSound_23 : decode cX4_isSound 23 = .ok (.iload_n 3, 1) := by decide +kernel
theorem dX4_isSound_24 : decode cX4_isSound 24 = .ok (.iaload, 1) := by decide +kernel
theorem dX4_isSound_25 : decode cX4_isSound 25 = .ok (.aload_n 0, 1) := by decide +kernel
theorem dX4_isSound_26 : decode cX4_isSound 26 = .ok (.getfield 57, 3) := by decide +kernel
theorem dX4_isSound_29 : decode cX4_isSound 29 = .ok (.iload_n 3, 1) := by decide +kernel
theorem dX4_isSound_30 : decode cX4_isSound 30 = .ok (.iaload, 1) := by decide +kernel
theorem dX4_isSound_31 : decode cX4_isSound 31 = .ok (.iadd, 1) := by decide +kernel
theorem dX4_isSound_32 : decode cX4_isSound 32 = .ok (.iadd, 1) := by decide +kernel
theorem dX4_isSound_33 : decode cX4_isSound 33 = .ok (.istore_n 1, 1) := by decide +kernel
theorem dX4_isSound_34 : decode cX4_isSound 34 = .ok (.iload_n 2, 1) := by decide +kernel
theorem dX4_isSound_35 : decode cX4_isSound 35 = .ok (.aload_n 0, 1) := by decide +kernel
theorem dX4_isSound_36 : decode cX4_isSound 36 = .ok (.iload_n 3, 1) := by decide +kernel
theorem dX4_isSound_37 : decode cX4_isSound 37 = .ok (.aload_n 0, 1) := by decide +kernel
theorem dX4_isSound_38 : decode cX4_isSound 38 = .ok (.getfield 45, 3) := by decide +kernel
theorem dX4_isSound_41 : decode cX4_isSound 41 = .ok (.iload_n 3, 1) := by decide +kernel
theorem dX4_isSound_42 : decode cX4_isSound 42 = .ok (.iaload, 1) := by decide +kernel
theorem dX4_isSound_43 : decode cX4_isSound 43 = .ok (.invokevirtual 162, 3) := by decide +kernel
theorem dX4_isSound_46 : decode cX4_isSound 46 = .ok (.ifCond .ne 7, 3) := by decide +kernel
theorem dX4_isSound_49 : decode cX4_isSound 49 = .ok (.iconst 1, 1) := by decide +kernel
theorem dX4_isSound_50 : decode cX4_isSound 50 = .ok (.goto 4, 3) := by decide +kernel
theorem dX4_isSound_53 : decode cX4_isSound 53 = .ok (.iconst 0, 1) := by decide +kernel
theorem dX4_isSound_54 : decode cX4_isSound 54 = .ok (.iand, 1) := by decide +kernel
theorem dX4_isSound_55 : decode cX4_isSound 55 = .ok (.istore_n 2, 1) := by decide +kernel
theorem dX4_isSound_56 : decode cX4_isSound 56 = .ok (.iconst 0, 1) := by decide +kernel
theorem dX4_isSound_57 : decode cX4_isSound 57 = .ok (.istore 4, 2) := by decide +kernel
theorem dX4_isSound_59 : decode cX4_isSound 59 = .ok (.iload 4, 2) := by decide +kernel
theorem dX4_isSound_61 : decode cX4_isSound 61 = .ok (.aload_n 0, 1) := by decide +kernel
theorem dX4_isSound_62 : decode cX4_isSound 62 = .ok (.getfield 7, 3) := by decide +kernel
theorem dX4_isSound_65 : decode cX4_isSound 65 = .ok (.if_icmp .ge 27, 3) := by decide +kernel
theorem dX4_isSound_68 : decode cX4_isSound 68 = .ok (.iload_n 2, 1) := by decide +kernel
theorem dX4_isSound_69 : decode cX4_isSound 69 = .ok (.aload_n 0, 1) := by decide +kernel
theorem dX4_isSound_70 : decode cX4_isSound 70 = .ok (.iload_n 3, 1) := by decide +kernel
theorem dX4_isSound_71 : decode cX4_isSound 71 = .ok (.iload 4, 2) := by decide +kernel
theorem dX4_isSound_73 : decode cX4_isSound 73 = .ok (.invokevirtual 162, 3) := by decide +kernel
theorem dX4_isSound_76 : decode cX4_isSound 76 = .ok (.ifCond .lt 7, 3) := by decide +kernel
theorem dX4_isSound_79 : decode cX4_isSound 79 = .ok (.iconst 1, 1) := by decide +kernel
theorem dX4_isSound_80 : decode cX4_isSound 80 = .ok (.goto 4, 3) := by decide +kernel
theorem dX4_isSound_83 : decode cX4_isSound 83 = .ok (.iconst 0, 1) := by decide +kernel
theorem dX4_isSound_84 : decode cX4_isSound 84 = .ok (.iand, 1) := by decide +kernel
theorem dX4_isSound_85 : decode cX4_isSound 85 = .ok (.istore_n 2, 1) := by decide +kernel
theorem dX4_isSound_86 : decode cX4_isSound 86 = .ok (.iinc 4 1, 3) := by decide +kernel
theorem dX4_isSound_89 : decode cX4_isSound 89 = .ok (.goto (-30), 3) := by decide +kernel
theorem dX4_isSound_92 : decode cX4_isSound 92 = .ok (.iinc 3 1, 3) := by decide +kernel
theorem dX4_isSound_95 : decode cX4_isSound 95 = .ok (.goto (-85), 3) := by decide +kernel
theorem dX4_isSound_98 : decode cX4_isSound 98 = .ok (.aload_n 0, 1) := by decide +kernel
theorem dX4_isSound_99 : decode cX4_isSound 99 = .ok (.getfield 39, 3) := by decide +kernel
theorem dX4_isSound_102 : decode cX4_isSound 102 = .ok (.iconst 0, 1) := by decide +kernel
theorem dX4_isSound_103 : decode cX4_isSound 103 = .ok (.iaload, 1) := by decide +kernel
theorem dX4_isSound_104 : decode cX4_isSound 104 = .ok (.aload_n 0, 1) := by decide +kernel
theorem dX4_isSound_105 : decode cX4_isSound 105 = .ok (.iconst 0, 1) := by decide +kernel
theorem dX4_isSound_106 : decode cX4_isSound 106 = .ok (.iconst 0, 1) := by decide +kernel
theorem dX4_isSound_107 : decode cX4_isSound 107 = .ok (.invokevirtual 165, 3) := by decide +kernel
theorem dX4_isSound_110 : decode cX4_isSound 110 = .ok (.if_icmp .ge 12, 3) := by decide +kernel
theorem dX4_isSound_113 : decode cX4_isSound 113 = .ok (.aload_n 0, 1) := by decide +kernel
theorem dX4_isSound_114 : decode cX4_isSound 114 = .ok (.getfield 39, 3) := by decide +kernel
theorem dX4_isSound_117 : decode cX4_isSound 117 = .ok (.iconst 0, 1) := by decide +kernel
theorem dX4_isSound_118 : decode cX4_isSound 118 = .ok (.iaload, 1) := by decide +kernel
theorem dX4_isSound_119 : decode cX4_isSound 119 = .ok (.goto 9, 3) := by decide +kernel
theorem dX4_isSound_122 : decode cX4_isSound 122 = .ok (.aload_n 0, 1) := by decide +kernel
theorem dX4_isSound_123 : decode cX4_isSound 123 = .ok (.iconst 0, 1) := by decide +kernel
theorem dX4_isSound_124 : decode cX4_isSound 124 = .ok (.iconst 0, 1) := by decide +kernel
theorem dX4_isSound_125 : decode cX4_isSound 125 = .ok (.invokevirtual 165, 3) := by decide +kernel
theorem dX4_isSound_128 : decode cX4_isSound 128 = .ok (.istore_n 3, 1) := by decide +kernel
theorem dX4_isSound_129 : decode cX4_isSound 129 = .ok (.iload_n 2, 1) := by decide +kernel
theorem dX4_isSound_130 : decode cX4_isSound 130 = .ok (.ifCond .eq 54, 3) := by decide +kernel
theorem dX4_isSound_133 : decode cX4_isSound 133 = .ok (.iload_n 1, 1) := by decide +kernel
theorem dX4_isSound_134 : decode cX4_isSound 134 = .ok (.aload_n 0, 1) := by decide +kernel
theorem dX4_isSound_135 : decode cX4_isSound 135 = .ok (.getfield 80, 3) := by decide +kernel
theorem dX4_isSound_138 : decode cX4_isSound 138 = .ok (.if_icmp .ne 46, 3) := by decide +kernel
theorem dX4_isSound_141 : decode cX4_isSound 141 = .ok (.iload_n 3, 1) := by decide +kernel
theorem dX4_isSound_142 : decode cX4_isSound 142 = .ok (.aload_n 0, 1) := by decide +kernel
theorem dX4_isSound_143 : decode cX4_isSound 143 = .ok (.getfield 80, 3) := by decide +kernel
theorem dX4_isSound_146 : decode cX4_isSound 146 = .ok (.if_icmp .ne 38, 3) := by decide +kernel
theorem dX4_isSound_149 : decode cX4_isSound 149 = .ok (.aload_n 0, 1) := by decide +kernel
theorem dX4_isSound_150 : decode cX4_isSound 150 = .ok (.aload_n 0, 1) := by decide +kernel
theorem dX4_isSound_151 : decode cX4_isSound 151 = .ok (.getfield 92, 3) := by decide +kernel
theorem dX4_isSound_154 : decode cX4_isSound 154 = .ok (.invokevirtual 182, 3) := by decide +kernel
theorem dX4_isSound_157 : decode cX4_isSound 157 = .ok (.ifCond .eq 27, 3) := by decide +kernel
theorem dX4_isSound_160 : decode cX4_isSound 160 = .ok (.aload_n 0, 1) := by decide +kernel
theorem dX4_isSound_161 : decode cX4_isSound 161 = .ok (.getfield 92, 3) := by decide +kernel
theorem dX4_isSound_164 : decode cX4_isSound 164 = .ok (.ifCond .eq 16, 3) := by decide +kernel
theorem dX4_isSound_167 : decode cX4_isSound 167 = .ok (.aload_n 0, 1) := by decide +kernel
theorem dX4_isSound_168 : decode cX4_isSound 168 = .ok (.aload_n 0, 1) := by decide +kernel
theorem dX4_isSound_169 : decode cX4_isSound 169 = .ok (.getfield 92, 3) := by decide +kernel
theorem dX4_isSound_172 : decode cX4_isSound 172 = .ok (.iconst 1, 1) := by decide +kernel
theorem dX4_isSound_173 : decode cX4_isSound 173 = .ok (.isub, 1) := by decide +kernel
theorem dX4_isSound_174 : decode cX4_isSound 174 = .ok (.invokevirtual 182, 3) := by decide +kernel
theorem dX4_isSound_177 : decode cX4_isSound 177 = .ok (.ifCond .ne 7, 3) := by decide +kernel
theorem dX4_isSound_180 : decode cX4_isSound 180 = .ok (.iconst 1, 1) := by decide +kernel
theorem dX4_isSound_181 : decode cX4_isSound 181 = .ok (.goto 4, 3) := by decide +kernel
theorem dX4_isSound_184 : decode cX4_isSound 184 = .ok (.iconst 0, 1) := by decide +kernel
theorem dX4_isSound_185 : decode cX4_isSound 185 = .ok (.ireturn, 1) := by decide +kernel
theorem dJ6_bitCount_0f7a4_0 : decode cJ6_bitCount_0f7a4 0 = .ok (.iload_n 0, 1) := by decide +kernel
theorem dJ6_bitCount_0f7a4_1 : decode cJ6_bitCount_0f7a4 1 = .ok (.iload_n 0, 1) := by decide +kernel
theorem dJ6_bitCount_0f7a4_2 : decode cJ6_bitCount_0f7a4 2 = .ok (.iconst 1, 1) := by decide +kernel
theorem dJ6_bitCount_0f7a4_3 : decode cJ6_bitCount_0f7a4 3 = .ok (.iushr, 1) := by decide +kernel
theorem dJ6_bitCount_0f7a4_4 : decode cJ6_bitCount_0f7a4 4 = .ok (.ldc_w 265, 3) := by decide +kernel
theorem dJ6_bitCount_0f7a4_7 : decode cJ6_bitCount_0f7a4 7 = .ok (.iand, 1) := by decide +kernel
theorem dJ6_bitCount_0f7a4_8 : decode cJ6_bitCount_0f7a4 8 = .ok (.isub, 1) := by decide +kernel
theorem dJ6_bitCount_0f7a4_9 : decode cJ6_bitCount_0f7a4 9 = .ok (.istore_n 0, 1) := by decide +kernel
theorem dJ6_bitCount_0f7a4_10 : decode cJ6_bitCount_0f7a4 10 = .ok (.iload_n 0, 1) := by decide +kernel
theorem dJ6_bitCount_0f7a4_11 : decode cJ6_bitCount_0f7a4 11 = .ok (.ldc_w 266, 3) := by decide +kernel
theorem dJ6_bitCount_0f7a4_14 : decode cJ6_bitCount_0f7a4 14 = .ok (.iand, 1) := by decide +kernel
theorem dJ6_bitCount_0f7a4_15 : decode cJ6_bitCount_0f7a4 15 = .ok (.iload_n 0, 1) := by decide +kernel
theorem dJ6_bitCount_0f7a4_16 : decode cJ6_bitCount_0f7a4 16 = .ok (.iconst 2, 1) := by decide +kernel
theorem dJ6_bitCount_0f7a4_17 : decode cJ6_bitCount_0f7a4 17 = .ok (.iushr, 1) := by decide +kernel
theorem dJ6_bitCount_0f7a4_18 : decode cJ6_bitCount_0f7a4 18 = .ok (.ldc_w 266, 3) := by decide +kernel
theorem dJ6_bitCount_0f7a4_21 : decode cJ6_bitCount_0f7a4 21 = .ok (.iand, 1) := by decide +kernel
theorem dJ6_bitCount_0f7a4_22 : decode cJ6_bitCount_0f7a4 22 = .ok (.iadd, 1) := by decide +kernel
theorem dJ6_bitCount_0f7a4_23 : decode cJ6_bitCount_0f7a4 23 = .ok (.istore_n 0, 1) := by decide +kernel
theorem dJ6_bitCount_0f7a4_24 : decode cJ6_bitCount_0f7a4 24 = .ok (.iload_n 0, 1) := by decide +kernel
theorem dJ6_bitCount_0f7a4_25 : decode cJ6_bitCount_0f7a4 25 = .ok (.iload_n 0, 1) := by decide +kernel
theorem dJ6_bitCount_0f7a4_26 : decode cJ6_bitCount_0f7a4 26 = .ok (.iconst 4, 1) := by decide +kernel
theorem dJ6_bitCount_0f7a4_27 : decode cJ6_bitCount_0f7a4 27 = .ok (.iushr, 1) := by decide +kernel
theorem dJ6_bitCount_0f7a4_28 : decode cJ6_bitCount_0f7a4 28 = .ok (.iadd, 1) := by decide +kernel
theorem dJ6_bitCount_0f7a4_29 : decode cJ6_bitCount_0f7a4 29 = .ok (.ldc_w 267, 3) := by decide +kernel
theorem dJ6_bitCount_0f7a4_32 : decode cJ6_bitCount_0f7a4 32 = .ok (.iand, 1) := by decide +kernel
theorem dJ6_bitCount_0f7a4_33 : decode cJ6_bitCount_0f7a4 33 = .ok (.istore_n 0, 1) := by decide +kernel
theorem dJ6_bitCount_0f7a4_34 : decode cJ6_bitCount_0f7a4 34 = .ok (.iload_n 0, 1) := by decide +kernel
theorem dJ6_bitCount_0f7a4_35 : decode cJ6_bitCount_0f7a4 35 = .ok (.iload_n 0, 1) := by decide +kernel
theorem dJ6_bitCount_0f7a4_36 : decode cJ6_bitCount_0f7a4 36 = .ok (.bipush 8, 2) := by decide +kernel
theorem dJ6_bitCount_0f7a4_38 : decode cJ6_bitCount_0f7a4 38 = .ok (.iushr, 1) := by decide +kernel
theorem dJ6_bitCount_0f7a4_39 : decode cJ6_bitCount_0f7a4 39 = .ok (.iadd, 1) := by decide +kernel
theorem dJ6_bitCount_0f7a4_40 : decode cJ6_bitCount_0f7a4 40 = .ok (.istore_n 0, 1) := by decide +kernel
theorem dJ6_bitCount_0f7a4_41 : decode cJ6_bitCount_0f7a4 41 = .ok (.iload_n 0, 1) := by decide +kernel
theorem dJ6_bitCount_0f7a4_42 : decode cJ6_bitCount_0f7a4 42 = .ok (.iload_n 0, 1) := by decide +kernel
theorem dJ6_bitCount_0f7a4_43 : decode cJ6_bitCount_0f7a4 43 = .ok (.bipush 16, 2) := by decide +kernel
theorem dJ6_bitCount_0f7a4_45 : decode cJ6_bitCount_0f7a4 45 = .ok (.iushr, 1) := by decide +kernel
theorem dJ6_bitCount_0f7a4_46 : decode cJ6_bitCount_0f7a4 46 = .ok (.iadd, 1) := by decide +kernel
theorem dJ6_bitCount_0f7a4_47 : decode cJ6_bitCount_0f7a4 47 = .ok (.istore_n 0, 1) := by decide +kernel
theorem dJ6_bitCount_0f7a4_48 : decode cJ6_bitCount_0f7a4 48 = .ok (.iload_n 0, 1) := by decide +kernel
theorem dJ6_bitCount_0f7a4_49 : decode cJ6_bitCount_0f7a4 49 = .ok (.bipush 63, 2) := by decide +kernel
theorem dJ6_bitCount_0f7a4_51 : decode cJ6_bitCount_0f7a4 51 = .ok (.iand, 1) := by decide +kernel
theorem dJ6_bitCount_0f7a4_52 : decode cJ6_bitCount_0f7a4 52 = .ok (.ireturn, 1) := by decide +kernel
theorem dJ9_abs_0f7a4_0 : decode cJ9_abs_0f7a4 0 = .ok (.iload_n 0, 1) := by decide +kernel
theorem dJ9_abs_0f7a4_1 : decode cJ9_abs_0f7a4 1 = .ok (.ifCond .ge 8, 3) := by decide +kernel
theorem dJ9_abs_0f7a4_4 : decode cJ9_abs_0f7a4 4 = .ok (.iload_n 0, 1) := by decide +kernel
theorem dJ9_abs_0f7a4_5 : decode cJ9_abs_0f7a4 5 = .ok (.ineg, 1) := by decide +kernel
theorem dJ9_abs_0f7a4_6 : decode cJ9_abs_0f7a4 6 = .ok (.goto 4, 3) := by decide +kernel
theorem dJ9_abs_0f7a4_9 : decode cJ9_abs_0f7a4 9 = .ok (.iload_n 0, 1) := by decide +kernel
theorem dJ9_abs_0f7a4_10 : decode cJ9_abs_0f7a4 10 = .ok (.ireturn, 1) := by decide +kernel
theorem dJ9_max_7cf53_0 : decode cJ9_max_7cf53 0 = .ok (.iload_n 0, 1) := by decide +kernel
theorem dJ9_max_7cf53_1 : decode cJ9_max_7cf53 1 = .ok (.iload_n 1, 1) := by decide +kernel
theorem dJ9_max_7cf53_2 : decode cJ9_max_7cf53 2 = .ok (.if_icmp .lt 7, 3) := by decide +kernel
theorem dJ9_max_7cf53_5 : decode cJ9_max_7cf53 5 = .ok (.iload_n 0, 1) := by decide +kernel
theorem dJ9_max_7cf53_6 : decode cJ9_max_7cf53 6 = .ok (.goto 4, 3) := by decide +kernel
theorem dJ9_max_7cf53_9 : decode cJ9_max_7cf53 9 = .ok (.iload_n 1, 1) := by decide +kernel
theorem dJ9_max_7cf53_10 : decode cJ9_max_7cf53 10 = .ok (.ireturn, 1) := by decide +kernel
theorem dJ9_min_7cf53_0 : decode cJ9_min_7cf53 0 = .ok (.iload_n 0, 1) := by decide +kernel
theorem dJ9_min_7cf53_1 : decode cJ9_min_7cf53 1 = .ok (.iload_n 1, 1) := by decide +kernel
theorem dJ9_min_7cf53_2 : decode cJ9_min_7cf53 2 = .ok (.if_icmp .gt 7, 3) := by decide +kernel
theorem dJ9_min_7cf53_5 : decode cJ9_min_7cf53 5 = .ok (.iload_n 0, 1) := by decide +kernel
theorem dJ9_min_7cf53_6 : decode cJ9_min_7cf53 6 = .ok (.goto 4, 3) := by decide +kernel
theorem dJ9_min_7cf53_9 : decode cJ9_min_7cf53 9 = .ok (.iload_n 1, 1) := by decide +kernel
theorem dJ9_min_7cf53_10 : decode cJ9_min_7cf53 10 = .ok (.ireturn, 1) := by decide +kernel
theorem dL_resize_0 : decode cL_resize 0 = .ok (.aload_n 3, 1) := by decide +kernel
theorem dL_resize_1 : decode cL_resize 1 = .ok (.iconst 0, 1) := by decide +kernel
theorem dL_resize_2 : decode cL_resize 2 = .ok (.aload_n 0, 1) := by decide +kernel
theorem dL_resize_3 : decode cL_resize 3 = .ok (.iload_n 1, 1) := by decide +kernel
theorem dL_resize_4 : decode cL_resize 4 = .ok (.iload_n 2, 1) := by decide +kernel
theorem dL_resize_5 : decode cL_resize 5 = .ok (.invokevirtual 7, 3) := by decide +kernel
theorem dL_resize_8 : decode cL_resize 8 = .ok (.i2l, 1) := by decide +kernel
theorem dL_resize_9 : decode cL_resize 9 = .ok (.lastore, 1) := by decide +kernel
theorem dL_resize_10 : decode cL_resize 10 = .ok (.goto 7, 3) := by decide +kernel
theorem dL_resize_13 : decode cL_resize 13 = .ok (.astore 4, 2) := by decide +kernel
theorem dL_resize_15 : decode cL_resize 15 = .ok (.iconst 1, 1) := by decide +kernel
theorem dL_resize_16 : decode cL_resize 16 = .ok (.ireturn, 1) := by decide +kernel
theorem dL_resize_17 : decode cL_resize 17 = .ok (.iconst 0, 1) := by decide +kernel
theorem dL_resize_18 : decode cL_resize 18 = .ok (.ireturn, 1) := by decide +kernel
theorem dL_setCost_0 : decode cL_setCost 0 = .ok (.aload 4, 2) := by decide +kernel
theorem dL_setCost_2 : decode cL_setCost 2 = .ok (.iconst 0, 1) := by decide +kernel
theorem dL_setCost_3 : decode cL_setCost 3 = .ok (.aload_n 0, 1) := by decide +kernel
theorem dL_setCost_4 : decode cL_setCost 4 = .ok (.iload_n 1, 1) := by decide +kernel
theorem dL_setCost_5 : decode cL_setCost 5 = .ok (.iload_n 2, 1) := by decide +kernel
theorem dL_setCost_6 : decode cL_setCost 6 = .ok (.iload_n 3, 1) := by decide +kernel
theorem dL_setCost_7 : decode cL_setCost 7 = .ok (.invokevirtual 15, 3) := by decide +kernel
theorem dL_setCost_10 : decode cL_setCost 10 = .ok (.i2l, 1) := by decide +kernel
theorem dL_setCost_11 : decode cL_setCost 11 = .ok (.lastore, 1) := by decide +kernel
theorem dL_setCost_12 : decode cL_setCost 12 = .ok (.goto 11, 3) := by decide +kernel
theorem dL_setCost_15 : decode cL_setCost 15 = .ok (.astore 5, 2) := by decide +kernel
theorem dL_setCost_17 : decode cL_setCost 17 = .ok (.iconst 1, 1) := by decide +kernel
theorem dL_setCost_18 : decode cL_setCost 18 = .ok (.ireturn, 1) := by decide +kernel
theorem dL_setCost_19 : decode cL_setCost 19 = .ok (.astore 5, 2) := by decide +kernel
theorem dL_setCost_21 : decode cL_setCost 21 = .ok (.iconst 2, 1) := by decide +kernel
theorem dL_setCost_22 : decode cL_setCost 22 = .ok (.ireturn, 1) := by decide +kernel
theorem dL_setCost_23 : decode cL_setCost 23 = .ok (.iconst 0, 1) := by decide +kernel
theorem dL_setCost_24 : decode cL_setCost 24 = .ok (.ireturn, 1) := by decide +kernel
theorem dL_setRow_0 : decode cL_setRow 0 = .ok (.aload 4, 2) := by decide +kernel
theorem dL_setRow_2 : decode cL_setRow 2 = .ok (.iconst 0, 1) := by decide +kernel
theorem dL_setRow_3 : decode cL_setRow 3 = .ok (.aload_n 0, 1) := by decide +kernel
theorem dL_setRow_4 : decode cL_setRow 4 = .ok (.iload_n 1, 1) := by decide +kernel
theorem dL_setRow_5 : decode cL_setRow 5 = .ok (.lload_n 2, 1) := by decide +kernel
theorem dL_setRow_6 : decode cL_setRow 6 = .ok (.invokevirtual 21, 3) := by decide +kernel
theorem dL_setRow_9 : decode cL_setRow 9 = .ok (.i2l, 1) := by decide +kernel
theorem dL_setRow_10 : decode cL_setRow 10 = .ok (.lastore, 1) := by decide +kernel
theorem dL_setRow_11 : decode cL_setRow 11 = .ok (.goto 11, 3) := by decide +kernel
theorem dL_setRow_14 : decode cL_setRow 14 = .ok (.astore 5, 2) := by decide +kernel
theorem dL_setRow_16 : decode cL_setRow 16 = .ok (.iconst 1, 1) := by decide +kernel
theorem dL_setRow_17 : decode cL_setRow 17 = .ok (.ireturn, 1) := by decide +kernel
theorem dL_setRow_18 : decode cL_setRow 18 = .ok (.astore 5, 2) := by decide +kernel
theorem dL_setRow_20 : decode cL_setRow 20 = .ok (.iconst 2, 1) := by decide +kernel
theorem dL_setRow_21 : decode cL_setRow 21 = .ok (.ireturn, 1) := by decide +kernel
theorem dL_setRow_22 : decode cL_setRow 22 = .ok (.iconst 0, 1) := by decide +kernel
theorem dL_setRow_23 : decode cL_setRow 23 = .ok (.ireturn, 1) := by decide +kernel
theorem dL_fill_0 : decode cL_fill 0 = .ok (.aload_n 3, 1) := by decide +kernel
theorem dL_fill_1 : decode cL_fill 1 = .ok (.iconst 0, 1) := by decide +kernel
theorem dL_fill_2 : decode cL_fill 2 = .ok (.aload_n 0, 1) := by decide +kernel
theorem dL_fill_3 : decode cL_fill 3 = .ok (.iload_n 1, 1) := by decide +kernel
theorem dL_fill_4 : decode cL_fill 4 = .ok (.iload_n 2, 1) := by decide +kernel
theorem dL_fill_5 : decode cL_fill 5 = .ok (.invokevirtual 25, 3) := by decide +kernel
theorem dL_fill_8 : decode cL_fill 8 = .ok (.i2l, 1) := by decide +kernel
theorem dL_fill_9 : decode cL_fill 9 = .ok (.lastore, 1) := by decide +kernel
theorem dL_fill_10 : decode cL_fill 10 = .ok (.goto 7, 3) := by decide +kernel
theorem dL_fill_13 : decode cL_fill 13 = .ok (.astore 4, 2) := by decide +kernel
theorem dL_fill_15 : decode cL_fill 15 = .ok (.iconst 1, 1) := by decide +kernel
theorem dL_fill_16 : decode cL_fill 16 = .ok (.ireturn, 1) := by decide +kernel
theorem dL_fill_17 : decode cL_fill 17 = .ok (.iconst 0, 1) := by decide +kernel
theorem dL_fill_18 : decode cL_fill 18 = .ok (.ireturn, 1) := by decide +kernel
theorem dL_setForbidden_0 : decode cL_setForbidden 0 = .ok (.aload 4, 2) := by decide +kernel
theorem dL_setForbidden_2 : decode cL_setForbidden 2 = .ok (.iconst 0, 1) := by decide +kernel
theorem dL_setForbidden_3 : decode cL_setForbidden 3 = .ok (.aload_n 0, 1) := by decide +kernel
theorem dL_setForbidden_4 : decode cL_setForbidden 4 = .ok (.iload_n 1, 1) := by decide +kernel
theorem dL_setForbidden_5 : decode cL_setForbidden 5 = .ok (.iload_n 2, 1) := by decide +kernel
theorem dL_setForbidden_6 : decode cL_setForbidden 6 = .ok (.iload_n 3, 1) := by decide +kernel
theorem dL_setForbidden_7 : decode cL_setForbidden 7 = .ok (.invokevirtual 28, 3) := by decide +kernel
theorem dL_setForbidden_10 : decode cL_setForbidden 10 = .ok (.i2l, 1) := by decide +kernel
theorem dL_setForbidden_11 : decode cL_setForbidden 11 = .ok (.lastore, 1) := by decide +kernel
theorem dL_setForbidden_12 : decode cL_setForbidden 12 = .ok (.goto 7, 3) := by decide +kernel
theorem dL_setForbidden_15 : decode cL_setForbidden 15 = .ok (.astore 5, 2) := by decide +kernel
theorem dL_setForbidden_17 : decode cL_setForbidden 17 = .ok (.iconst 1, 1) := by decide +kernel
theorem dL_setForbidden_18 : decode cL_setForbidden 18 = .ok (.ireturn, 1) := by decide +kernel
theorem dL_setForbidden_19 : decode cL_setForbidden 19 = .ok (.iconst 0, 1) := by decide +kernel
theorem dL_setForbidden_20 : decode cL_setForbidden 20 = .ok (.ireturn, 1) := by decide +kernel
theorem dL_costAt_0 : decode cL_costAt 0 = .ok (.aload_n 3, 1) := by decide +kernel
theorem dL_costAt_1 : decode cL_costAt 1 = .ok (.iconst 0, 1) := by decide +kernel
theorem dL_costAt_2 : decode cL_costAt 2 = .ok (.aload_n 0, 1) := by decide +kernel
theorem dL_costAt_3 : decode cL_costAt 3 = .ok (.iload_n 1, 1) := by decide +kernel
theorem dL_costAt_4 : decode cL_costAt 4 = .ok (.iload_n 2, 1) := by decide +kernel
theorem dL_costAt_5 : decode cL_costAt 5 = .ok (.invokevirtual 32, 3) := by decide +kernel
theorem dL_costAt_8 : decode cL_costAt 8 = .ok (.i2l, 1) := by decide +kernel
theorem dL_costAt_9 : decode cL_costAt 9 = .ok (.lastore, 1) := by decide +kernel
theorem dL_costAt_10 : decode cL_costAt 10 = .ok (.goto 7, 3) := by decide +kernel
theorem dL_costAt_13 : decode cL_costAt 13 = .ok (.astore 4, 2) := by decide +kernel
theorem dL_costAt_15 : decode cL_costAt 15 = .ok (.iconst 1, 1) := by decide +kernel
theorem dL_costAt_16 : decode cL_costAt 16 = .ok (.ireturn, 1) := by decide +kernel
theorem dL_costAt_17 : decode cL_costAt 17 = .ok (.iconst 0, 1) := by decide +kernel
theorem dL_costAt_18 : decode cL_costAt 18 = .ok (.ireturn, 1) := by decide +kernel
theorem dL_addToRow_0 : decode cL_addToRow 0 = .ok (.aload_n 3, 1) := by decide +kernel
theorem dL_addToRow_1 : decode cL_addToRow 1 = .ok (.iconst 0, 1) := by decide +kernel
theorem dL_addToRow_2 : decode cL_addToRow 2 = .ok (.aload_n 0, 1) := by decide +kernel
theorem dL_addToRow_3 : decode cL_addToRow 3 = .ok (.iload_n 1, 1) := by decide +kernel
theorem dL_addToRow_4 : decode cL_addToRow 4 = .ok (.iload_n 2, 1) := by decide +kernel
theorem dL_addToRow_5 : decode cL_addToRow 5 = .ok (.invokevirtual 35, 3) := by decide +kernel
theorem dL_addToRow_8 : decode cL_addToRow 8 = .ok (.i2l, 1) := by decide +kernel
theorem dL_addToRow_9 : decode cL_addToRow 9 = .ok (.lastore, 1) := by decide +kernel
theorem dL_addToRow_10 : decode cL_addToRow 10 = .ok (.goto 15, 3) := by decide +kernel
theorem dL_addToRow_13 : decode cL_addToRow 13 = .ok (.astore 4, 2) := by decide +kernel
theorem dL_addToRow_15 : decode cL_addToRow 15 = .ok (.iconst 1, 1) := by decide +kernel
theorem dL_addToRow_16 : decode cL_addToRow 16 = .ok (.ireturn, 1) := by decide +kernel
theorem dL_addToRow_17 : decode cL_addToRow 17 = .ok (.astore 4, 2) := by decide +kernel
theorem dL_addToRow_19 : decode cL_addToRow 19 = .ok (.iconst 2, 1) := by decide +kernel
theorem dL_addToRow_20 : decode cL_addToRow 20 = .ok (.ireturn, 1) := by decide +kernel
theorem dL_addToRow_21 : decode cL_addToRow 21 = .ok (.astore 4, 2) := by decide +kernel
theorem dL_addToRow_23 : decode cL_addToRow 23 = .ok (.iconst 3, 1) := by decide +kernel
theorem dL_addToRow_24 : decode cL_addToRow 24 = .ok (.ireturn, 1) := by decide +kernel
theorem dL_addToRow_25 : decode cL_addToRow 25 = .ok (.iconst 0, 1) := by decide +kernel
theorem dL_addToRow_26 : decode cL_addToRow 26 = .ok (.ireturn, 1) := by decide +kernel
theorem dL_addToColumn_0 : decode cL_addToColumn 0 = .ok (.aload_n 3, 1) := by decide +kernel
theorem dL_addToColumn_1 : decode cL_addToColumn 1 = .ok (.iconst 0, 1) := by decide +kernel
theorem dL_addToColumn_2 : decode cL_addToColumn 2 = .ok (.aload_n 0, 1) := by decide +kernel
theorem dL_addToColumn_3 : decode cL_addToColumn 3 = .ok (.iload_n 1, 1) := by decide +kernel
theorem dL_addToColumn_4 : decode cL_addToColumn 4 = .ok (.iload_n 2, 1) := by decide +kernel
theorem dL_addToColumn_5 : decode cL_addToColumn 5 = .ok (.invokevirtual 40, 3) := by decide +kernel
theorem dL_addToColumn_8 : decode cL_addToColumn 8 = .ok (.i2l, 1) := by decide +kernel
theorem dL_addToColumn_9 : decode cL_addToColumn 9 = .ok (.lastore, 1) := by decide +kernel
theorem dL_addToColumn_10 : decode cL_addToColumn 10 = .ok (.goto 15, 3) := by decide +kernel
theorem dL_addToColumn_13 : decode cL_addToColumn 13 = .ok (.astore 4, 2) := by decide +kernel
theorem dL_addToColumn_15 : decode cL_addToColumn 15 = .ok (.iconst 1, 1) := by decide +kernel
theorem dL_addToColumn_16 : decode cL_addToColumn 16 = .ok (.ireturn, 1) := by decide +kernel
theorem dL_addToColumn_17 : decode cL_addToColumn 17 = .ok (.astore 4, 2) := by decide +kernel
theorem dL_addToColumn_19 : decode cL_addToColumn 19 = .ok (.iconst 2, 1) := by decide +kernel
theorem dL_addToColumn_20 : decode cL_addToColumn 20 = .ok (.ireturn, 1) := by decide +kernel
theorem dL_addToColumn_21 : decode cL_addToColumn 21 = .ok (.astore 4, 2) := by decide +kernel
theorem dL_addToColumn_23 : decode cL_addToColumn 23 = .ok (.iconst 3, 1) := by decide +kernel
theorem dL_addToColumn_24 : decode cL_addToColumn 24 = .ok (.ireturn, 1) := by decide +kernel
theorem dL_addToColumn_25 : decode cL_addToColumn 25 = .ok (.iconst 0, 1) := by decide +kernel
theorem dL_addToColumn_26 : decode cL_addToColumn 26 = .ok (.ireturn, 1) := by decide +kernel
theorem dL_swapRows_0 : decode cL_swapRows 0 = .ok (.aload_n 3, 1) := by decide +kernel
theorem dL_swapRows_1 : decode cL_swapRows 1 = .ok (.iconst 0, 1) := by decide +kernel
theorem dL_swapRows_2 : decode cL_swapRows 2 = .ok (.aload_n 0, 1) := by decide +kernel
theorem dL_swapRows_3 : decode cL_swapRows 3 = .ok (.iload_n 1, 1) := by decide +kernel
theorem dL_swapRows_4 : decode cL_swapRows 4 = .ok (.iload_n 2, 1) := by decide +kernel
theorem dL_swapRows_5 : decode cL_swapRows 5 = .ok (.invokevirtual 43, 3) := by decide +kernel
theorem dL_swapRows_8 : decode cL_swapRows 8 = .ok (.i2l, 1) := by decide +kernel
theorem dL_swapRows_9 : decode cL_swapRows 9 = .ok (.lastore, 1) := by decide +kernel
theorem dL_swapRows_10 : decode cL_swapRows 10 = .ok (.goto 7, 3) := by decide +kernel
theorem dL_swapRows_13 : decode cL_swapRows 13 = .ok (.astore 4, 2) := by decide +kernel
theorem dL_swapRows_15 : decode cL_swapRows 15 = .ok (.iconst 1, 1) := by decide +kernel
theorem dL_swapRows_16 : decode cL_swapRows 16 = .ok (.ireturn, 1) := by decide +kernel
theorem dL_swapRows_17 : decode cL_swapRows 17 = .ok (.iconst 0, 1) := by decide +kernel
theorem dL_swapRows_18 : decode cL_swapRows 18 = .ok (.ireturn, 1) := by decide +kernel
theorem dL_swapColumns_0 : decode cL_swapColumns 0 = .ok (.aload_n 3, 1) := by decide +kernel
theorem dL_swapColumns_1 : decode cL_swapColumns 1 = .ok (.iconst 0, 1) := by decide +kernel
theorem dL_swapColumns_2 : decode cL_swapColumns 2 = .ok (.aload_n 0, 1) := by decide +kernel
theorem dL_swapColumns_3 : decode cL_swapColumns 3 = .ok (.iload_n 1, 1) := by decide +kernel
theorem dL_swapColumns_4 : decode cL_swapColumns 4 = .ok (.iload_n 2, 1) := by decide +kernel
theorem dL_swapColumns_5 : decode cL_swapColumns 5 = .ok (.invokevirtual 46, 3) := by decide +kernel
theorem dL_swapColumns_8 : decode cL_swapColumns 8 = .ok (.i2l, 1) := by decide +kernel
theorem dL_swapColumns_9 : decode cL_swapColumns 9 = .ok (.lastore, 1) := by decide +kernel
theorem dL_swapColumns_10 : decode cL_swapColumns 10 = .ok (.goto 7, 3) := by decide +kernel
theorem dL_swapColumns_13 : decode cL_swapColumns 13 = .ok (.astore 4, 2) := by decide +kernel
theorem dL_swapColumns_15 : decode cL_swapColumns 15 = .ok (.iconst 1, 1) := by decide +kernel
theorem dL_swapColumns_16 : decode cL_swapColumns 16 = .ok (.ireturn, 1) := by decide +kernel
theorem dL_swapColumns_17 : decode cL_swapColumns 17 = .ok (.iconst 0, 1) := by decide +kernel
theorem dL_swapColumns_18 : decode cL_swapColumns 18 = .ok (.ireturn, 1) := by decide +kernel
theorem dL_transpose_0 : decode cL_transpose 0 = .ok (.aload_n 1, 1) := by decide +kernel
theorem dL_transpose_1 : decode cL_transpose 1 = .ok (.iconst 0, 1) := by decide +kernel
theorem dL_transpose_2 : decode cL_transpose 2 = .ok (.aload_n 0, 1) := by decide +kernel
theorem dL_transpose_3 : decode cL_transpose 3 = .ok (.invokevirtual 49, 3) := by decide +kernel
theorem dL_transpose_6 : decode cL_transpose 6 = .ok (.i2l, 1) := by decide +kernel
theorem dL_transpose_7 : decode cL_transpose 7 = .ok (.lastore, 1) := by decide +kernel
theorem dL_transpose_8 : decode cL_transpose 8 = .ok (.goto 6, 3) := by decide +kernel
theorem dL_transpose_11 : decode cL_transpose 11 = .ok (.astore_n 2, 1) := by decide +kernel
theorem dL_transpose_12 : decode cL_transpose 12 = .ok (.iconst 1, 1) := by decide +kernel
theorem dL_transpose_13 : decode cL_transpose 13 = .ok (.ireturn, 1) := by decide +kernel
theorem dL_transpose_14 : decode cL_transpose 14 = .ok (.iconst 0, 1) := by decide +kernel
theorem dL_transpose_15 : decode cL_transpose 15 = .ok (.ireturn, 1) := by decide +kernel
theorem dL_assigned_0 : decode cL_assigned 0 = .ok (.aload_n 2, 1) := by decide +kernel
theorem dL_assigned_1 : decode cL_assigned 1 = .ok (.iconst 0, 1) := by decide +kernel
theorem dL_assigned_2 : decode cL_assigned 2 = .ok (.aload_n 0, 1) := by decide +kernel
theorem dL_assigned_3 : decode cL_assigned 3 = .ok (.iload_n 1, 1) := by decide +kernel
theorem dL_assigned_4 : decode cL_assigned 4 = .ok (.invokevirtual 53, 3) := by decide +kernel
theorem dL_assigned_7 : decode cL_assigned 7 = .ok (.i2l, 1) := by decide +kernel
theorem dL_assigned_8 : decode cL_assigned 8 = .ok (.lastore, 1) := by decide +kernel
theorem dL_assigned_9 : decode cL_assigned 9 = .ok (.goto 6, 3) := by decide +kernel
theorem dL_assigned_12 : decode cL_assigned 12 = .ok (.astore_n 3, 1) := by decide +kernel
theorem dL_assigned_13 : decode cL_assigned 13 = .ok (.iconst 1, 1) := by decide +kernel
theorem dL_assigned_14 : decode cL_assigned 14 = .ok (.ireturn, 1) := by decide +kernel
theorem dL_assigned_15 : decode cL_assigned 15 = .ok (.iconst 0, 1) := by decide +kernel
theorem dL_assigned_16 : decode cL_assigned 16 = .ok (.ireturn, 1) := by decide +kernel
theorem dL_rowPotential_0 : decode cL_rowPotential 0 = .ok (.aload_n 2, 1) := by decide +kernel
theorem dL_rowPotential_1 : decode cL_rowPotential 1 = .ok (.iconst 0, 1) := by decide +kernel
theorem dL_rowPotential_2 : decode cL_rowPotential 2 = .ok (.aload_n 0, 1) := by decide +kernel
theorem dL_rowPotential_3 : decode cL_rowPotential 3 = .ok (.iload_n 1, 1) := by decide +kernel
theorem dL_rowPotential_4 : decode cL_rowPotential 4 = .ok (.invokevirtual 57, 3) := by decide +kernel
theorem dL_rowPotential_7 : decode cL_rowPotential 7 = .ok (.i2l, 1) := by decide +kernel
theorem dL_rowPotential_8 : decode cL_rowPotential 8 = .ok (.lastore, 1) := by decide +kernel
theorem dL_rowPotential_9 : decode cL_rowPotential 9 = .ok (.goto 6, 3) := by decide +kernel
theorem dL_rowPotential_12 : decode cL_rowPotential 12 = .ok (.astore_n 3, 1) := by decide +kernel
theorem dL_rowPotential_13 : decode cL_rowPotential 13 = .ok (.iconst 1, 1) := by decide +kernel
theorem dL_rowPotential_14 : decode cL_rowPotential 14 = .ok (.ireturn, 1) := by decide +kernel
theorem dL_rowPotential_15 : decode cL_rowPotential 15 = .ok (.iconst 0, 1) := by decide +kernel
theorem dL_rowPotential_16 : decode cL_rowPotential 16 = .ok (.ireturn, 1) := by decide +kernel
theorem dL_columnPotential_0 : decode cL_columnPotential 0 = .ok (.aload_n 2, 1) := by decide +kernel
theorem dL_columnPotential_1 : decode cL_columnPotential 1 = .ok (.iconst 0, 1) := by decide +kernel
theorem dL_columnPotential_2 : decode cL_columnPotential 2 = .ok (.aload_n 0, 1) := by decide +kernel
theorem dL_columnPotential_3 : decode cL_columnPotential 3 = .ok (.iload_n 1, 1) := by decide +kernel
theorem dL_columnPotential_4 : decode cL_columnPotential 4 = .ok (.invokevirtual 60, 3) := by decide +kernel
theorem dL_columnPotential_7 : decode cL_columnPotential 7 = .ok (.i2l, 1) := by decide +kernel
theorem dL_columnPotential_8 : decode cL_columnPotential 8 = .ok (.lastore, 1) := by decide +kernel
theorem dL_columnPotential_9 : decode cL_columnPotential 9 = .ok (.goto 6, 3) := by decide +kernel
theorem dL_columnPotential_12 : decode cL_columnPotential 12 = .ok (.astore_n 3, 1) := by decide +kernel
theorem dL_columnPotential_13 : decode cL_columnPotential 13 = .ok (.iconst 1, 1) := by decide +kernel
theorem dL_columnPotential_14 : decode cL_columnPotential 14 = .ok (.ireturn, 1) := by decide +kernel
theorem dL_columnPotential_15 : decode cL_columnPotential 15 = .ok (.iconst 0, 1) := by decide +kernel
theorem dL_columnPotential_16 : decode cL_columnPotential 16 = .ok (.ireturn, 1) := by decide +kernel
theorem dL_reducedCost_0 : decode cL_reducedCost 0 = .ok (.aload_n 3, 1) := by decide +kernel
theorem dL_reducedCost_1 : decode cL_reducedCost 1 = .ok (.iconst 0, 1) := by decide +kernel
theorem dL_reducedCost_2 : decode cL_reducedCost 2 = .ok (.aload_n 0, 1) := by decide +kernel
theorem dL_reducedCost_3 : decode cL_reducedCost 3 = .ok (.iload_n 1, 1) := by decide +kernel
theorem dL_reducedCost_4 : decode cL_reducedCost 4 = .ok (.iload_n 2, 1) := by decide +kernel
theorem dL_reducedCost_5 : decode cL_reducedCost 5 = .ok (.invokevirtual 63, 3) := by decide +kernel
theorem dL_reducedCost_8 : decode cL_reducedCost 8 = .ok (.i2l, 1) := by decide +kernel
theorem dL_reducedCost_9 : decode cL_reducedCost 9 = .ok (.lastore, 1) := by decide +kernel
theorem dL_reducedCost_10 : decode cL_reducedCost 10 = .ok (.goto 7, 3) := by decide +kernel
theorem dL_reducedCost_13 : decode cL_reducedCost 13 = .ok (.astore 4, 2) := by decide +kernel
theorem dL_reducedCost_15 : decode cL_reducedCost 15 = .ok (.iconst 1, 1) := by decide +kernel
theorem dL_reducedCost_16 : decode cL_reducedCost 16 = .ok (.ireturn, 1) := by decide +kernel
theorem dL_reducedCost_17 : decode cL_reducedCost 17 = .ok (.iconst 0, 1) := by decide +kernel
theorem dL_reducedCost_18 : decode cL_reducedCost 18 = .ok (.ireturn, 1) := by decide +kernel
theorem dL_minimumWith_0 : decode cL_minimumWith 0 = .ok (.aload_n 3, 1) := by decide +kernel
theorem dL_minimumWith_1 : decode cL_minimumWith 1 = .ok (.iconst 0, 1) := by decide +kernel
theorem dL_minimumWith_2 : decode cL_minimumWith 2 = .ok (.aload_n 0, 1) := by decide +kernel
theorem dL_minimumWith_3 : decode cL_minimumWith 3 = .ok (.iload_n 1, 1) := by decide +kernel
theorem dL_minimumWith_4 : decode cL_minimumWith 4 = .ok (.iload_n 2, 1) := by decide +kernel
theorem dL_minimumWith_5 : decode cL_minimumWith 5 = .ok (.invokevirtual 66, 3) := by decide +kernel
theorem dL_minimumWith_8 : decode cL_minimumWith 8 = .ok (.i2l, 1) := by decide +kernel
theorem dL_minimumWith_9 : decode cL_minimumWith 9 = .ok (.lastore, 1) := by decide +kernel
theorem dL_minimumWith_10 : decode cL_minimumWith 10 = .ok (.goto 7, 3) := by decide +kernel
theorem dL_minimumWith_13 : decode cL_minimumWith 13 = .ok (.astore 4, 2) := by decide +kernel
theorem dL_minimumWith_15 : decode cL_minimumWith 15 = .ok (.iconst 1, 1) := by decide +kernel
theorem dL_minimumWith_16 : decode cL_minimumWith 16 = .ok (.ireturn, 1) := by decide +kernel
theorem dL_minimumWith_17 : decode cL_minimumWith 17 = .ok (.iconst 0, 1) := by decide +kernel
theorem dL_minimumWith_18 : decode cL_minimumWith 18 = .ok (.ireturn, 1) := by decide +kernel
theorem dL_minimumWithout_0 : decode cL_minimumWithout 0 = .ok (.aload_n 3, 1) := by decide +kernel
theorem dL_minimumWithout_1 : decode cL_minimumWithout 1 = .ok (.iconst 0, 1) := by decide +kernel
theorem dL_minimumWithout_2 : decode cL_minimumWithout 2 = .ok (.aload_n 0, 1) := by decide +kernel
theorem dL_minimumWithout_3 : decode cL_minimumWithout 3 = .ok (.iload_n 1, 1) := by decide +kernel
theorem dL_minimumWithout_4 : decode cL_minimumWithout 4 = .ok (.iload_n 2, 1) := by decide +kernel
theorem dL_minimumWithout_5 : decode cL_minimumWithout 5 = .ok (.invokevirtual 69, 3) := by decide +kernel
theorem dL_minimumWithout_8 : decode cL_minimumWithout 8 = .ok (.i2l, 1) := by decide +kernel
theorem dL_minimumWithout_9 : decode cL_minimumWithout 9 = .ok (.lastore, 1) := by decide +kernel
theorem dL_minimumWithout_10 : decode cL_minimumWithout 10 = .ok (.goto 7, 3) := by decide +kernel
theorem dL_minimumWithout_13 : decode cL_minimumWithout 13 = .ok (.astore 4, 2) := by decide +kernel
theorem dL_minimumWithout_15 : decode cL_minimumWithout 15 = .ok (.iconst 1, 1) := by decide +kernel
theorem dL_minimumWithout_16 : decode cL_minimumWithout 16 = .ok (.ireturn, 1) := by decide +kernel
theorem dL_minimumWithout_17 : decode cL_minimumWithout 17 = .ok (.iconst 0, 1) := by decide +kernel
theorem dL_minimumWithout_18 : decode cL_minimumWithout 18 = .ok (.ireturn, 1) := by decide +kernel
theorem dL_minimumIfCost_0 : decode cL_minimumIfCost 0 = .ok (.aload 4, 2) := by decide +kernel
theorem dL_minimumIfCost_2 : decode cL_minimumIfCost 2 = .ok (.iconst 0, 1) := by decide +kernel
theorem dL_minimumIfCost_3 : decode cL_minimumIfCost 3 = .ok (.aload_n 0, 1) := by decide +kernel
theorem dL_minimumIfCost_4 : decode cL_minimumIfCost 4 = .ok (.iload_n 1, 1) := by decide +kernel
theorem dL_minimumIfCost_5 : decode cL_minimumIfCost 5 = .ok (.iload_n 2, 1) := by decide +kernel
theorem dL_minimumIfCost_6 : decode cL_minimumIfCost 6 = .ok (.iload_n 3, 1) := by decide +kernel
theorem dL_minimumIfCost_7 : decode cL_minimumIfCost 7 = .ok (.invokevirtual 72, 3) := by decide +kernel
theorem dL_minimumIfCost_10 : decode cL_minimumIfCost 10 = .ok (.i2l, 1) := by decide +kernel
theorem dL_minimumIfCost_11 : decode cL_minimumIfCost 11 = .ok (.lastore, 1) := by decide +kernel
theorem dL_minimumIfCost_12 : decode cL_minimumIfCost 12 = .ok (.goto 11, 3) := by decide +kernel
theorem dL_minimumIfCost_15 : decode cL_minimumIfCost 15 = .ok (.astore 5, 2) := by decide +kernel
theorem dL_minimumIfCost_17 : decode cL_minimumIfCost 17 = .ok (.iconst 1, 1) := by decide +kernel
theorem dL_minimumIfCost_18 : decode cL_minimumIfCost 18 = .ok (.ireturn, 1) := by decide +kernel
theorem dL_minimumIfCost_19 : decode cL_minimumIfCost 19 = .ok (.astore 5, 2) := by decide +kernel
theorem dL_minimumIfCost_21 : decode cL_minimumIfCost 21 = .ok (.iconst 2, 1) := by decide +kernel
theorem dL_minimumIfCost_22 : decode cL_minimumIfCost 22 = .ok (.ireturn, 1) := by decide +kernel
theorem dL_minimumIfCost_23 : decode cL_minimumIfCost 23 = .ok (.iconst 0, 1) := by decide +kernel
theorem dL_minimumIfCost_24 : decode cL_minimumIfCost 24 = .ok (.ireturn, 1) := by decide +kernel
theorem dL_fits_0 : decode cL_fits 0 = .ok (.aload_n 2, 1) := by decide +kernel
theorem dL_fits_1 : decode cL_fits 1 = .ok (.iconst 0, 1) := by decide +kernel
theorem dL_fits_2 : decode cL_fits 2 = .ok (.aload_n 0, 1) := by decide +kernel
theorem dL_fits_3 : decode cL_fits 3 = .ok (.iload_n 1, 1) := by decide +kernel
theorem dL_fits_4 : decode cL_fits 4 = .ok (.invokevirtual 75, 3) := by decide +kernel
theorem dL_fits_7 : decode cL_fits 7 = .ok (.ifCond .eq 7, 3) := by decide +kernel
theorem dL_fits_10 : decode cL_fits 10 = .ok (.lconst 1, 1) := by decide +kernel
theorem dL_fits_11 : decode cL_fits 11 = .ok (.goto 4, 3) := by decide +kernel
theorem dL_fits_14 : decode cL_fits 14 = .ok (.lconst 0, 1) := by decide +kernel
theorem dL_fits_15 : decode cL_fits 15 = .ok (.lastore, 1) := by decide +kernel
theorem dL_fits_16 : decode cL_fits 16 = .ok (.goto 6, 3) := by decide +kernel
theorem dL_fits_19 : decode cL_fits 19 = .ok (.astore_n 3, 1) := by decide +kernel
theorem dL_fits_20 : decode cL_fits 20 = .ok (.iconst 1, 1) := by decide +kernel
theorem dL_fits_21 : decode cL_fits 21 = .ok (.ireturn, 1) := by decide +kernel
theorem dL_fits_22 : decode cL_fits 22 = .ok (.iconst 0, 1) := by decide +kernel
theorem dL_fits_23 : decode cL_fits 23 = .ok (.ireturn, 1) := by decide +kernel
theorem dL_countWithin_0 : decode cL_countWithin 0 = .ok (.aload_n 2, 1) := by decide +kernel
theorem dL_countWithin_1 : decode cL_countWithin 1 = .ok (.iconst 0, 1) := by decide +kernel
theorem dL_countWithin_2 : decode cL_countWithin 2 = .ok (.aload_n 0, 1) := by decide +kernel
theorem dL_countWithin_3 : decode cL_countWithin 3 = .ok (.iload_n 1, 1) := by decide +kernel
theorem dL_countWithin_4 : decode cL_countWithin 4 = .ok (.invokevirtual 79, 3) := by decide +kernel
theorem dL_countWithin_7 : decode cL_countWithin 7 = .ok (.i2l, 1) := by decide +kernel
theorem dL_countWithin_8 : decode cL_countWithin 8 = .ok (.lastore, 1) := by decide +kernel
theorem dL_countWithin_9 : decode cL_countWithin 9 = .ok (.goto 6, 3) := by decide +kernel
theorem dL_countWithin_12 : decode cL_countWithin 12 = .ok (.astore_n 3, 1) := by decide +kernel
theorem dL_countWithin_13 : decode cL_countWithin 13 = .ok (.iconst 1, 1) := by decide +kernel
theorem dL_countWithin_14 : decode cL_countWithin 14 = .ok (.ireturn, 1) := by decide +kernel
theorem dL_countWithin_15 : decode cL_countWithin 15 = .ok (.iconst 0, 1) := by decide +kernel
theorem dL_countWithin_16 : decode cL_countWithin 16 = .ok (.ireturn, 1) := by decide +kernel
theorem dL_sumOf_0 : decode cL_sumOf 0 = .ok (.aload_n 2, 1) := by decide +kernel
theorem dL_sumOf_1 : decode cL_sumOf 1 = .ok (.iconst 0, 1) := by decide +kernel
theorem dL_sumOf_2 : decode cL_sumOf 2 = .ok (.aload_n 0, 1) := by decide +kernel
theorem dL_sumOf_3 : decode cL_sumOf 3 = .ok (.iload_n 1, 1) := by decide +kernel
theorem dL_sumOf_4 : decode cL_sumOf 4 = .ok (.invokevirtual 82, 3) := by decide +kernel
theorem dL_sumOf_7 : decode cL_sumOf 7 = .ok (.i2l, 1) := by decide +kernel
theorem dL_sumOf_8 : decode cL_sumOf 8 = .ok (.lastore, 1) := by decide +kernel
theorem dL_sumOf_9 : decode cL_sumOf 9 = .ok (.goto 6, 3) := by decide +kernel
theorem dL_sumOf_12 : decode cL_sumOf 12 = .ok (.astore_n 3, 1) := by decide +kernel
theorem dL_sumOf_13 : decode cL_sumOf 13 = .ok (.iconst 1, 1) := by decide +kernel
theorem dL_sumOf_14 : decode cL_sumOf 14 = .ok (.ireturn, 1) := by decide +kernel
theorem dL_sumOf_15 : decode cL_sumOf 15 = .ok (.iconst 0, 1) := by decide +kernel
theorem dL_sumOf_16 : decode cL_sumOf 16 = .ok (.ireturn, 1) := by decide +kernel
theorem dL_startEnumeration_0 : decode cL_startEnumeration 0 = .ok (.aload_n 1, 1) := by decide +kernel
theorem dL_startEnumeration_1 : decode cL_startEnumeration 1 = .ok (.iconst 0, 1) := by decide +kernel
theorem dL_startEnumeration_2 : decode cL_startEnumeration 2 = .ok (.aload_n 0, 1) := by decide +kernel
theorem dL_startEnumeration_3 : decode cL_startEnumeration 3 = .ok (.invokevirtual 85, 3) := by decide +kernel
theorem dL_startEnumeration_6 : decode cL_startEnumeration 6 = .ok (.i2l, 1) := by decide +kernel
theorem dL_startEnumeration_7 : decode cL_startEnumeration 7 = .ok (.lastore, 1) := by decide +kernel
theorem dL_startEnumeration_8 : decode cL_startEnumeration 8 = .ok (.goto 6, 3) := by decide +kernel
theorem dL_startEnumeration_11 : decode cL_startEnumeration 11 = .ok (.astore_n 2, 1) := by decide +kernel
theorem dL_startEnumeration_12 : decode cL_startEnumeration 12 = .ok (.iconst 1, 1) := by decide +kernel
theorem dL_startEnumeration_13 : decode cL_startEnumeration 13 = .ok (.ireturn, 1) := by decide +kernel
theorem dL_startEnumeration_14 : decode cL_startEnumeration 14 = .ok (.iconst 0, 1) := by decide +kernel
theorem dL_startEnumeration_15 : decode cL_startEnumeration 15 = .ok (.ireturn, 1) := by decide +kernel
theorem dL_nextSum_0 : decode cL_nextSum 0 = .ok (.aload_n 1, 1) := by decide +kernel
theorem dL_nextSum_1 : decode cL_nextSum 1 = .ok (.iconst 0, 1) := by decide +kernel
theorem dL_nextSum_2 : decode cL_nextSum 2 = .ok (.aload_n 0, 1) := by decide +kernel
theorem dL_nextSum_3 : decode cL_nextSum 3 = .ok (.invokevirtual 88, 3) := by decide +kernel
theorem dL_nextSum_6 : decode cL_nextSum 6 = .ok (.i2l, 1) := by decide +kernel
theorem dL_nextSum_7 : decode cL_nextSum 7 = .ok (.lastore, 1) := by decide +kernel
theorem dL_nextSum_8 : decode cL_nextSum 8 = .ok (.goto 9, 3) := by decide +kernel
theorem dL_nextSum_11 : decode cL_nextSum 11 = .ok (.astore_n 2, 1) := by decide +kernel
theorem dL_nextSum_12 : decode cL_nextSum 12 = .ok (.iconst 1, 1) := by decide +kernel
theorem dL_nextSum_13 : decode cL_nextSum 13 = .ok (.ireturn, 1) := by decide +kernel
theorem dL_nextSum_14 : decode cL_nextSum 14 = .ok (.astore_n 2, 1) := by decide +kernel
theorem dL_nextSum_15 : decode cL_nextSum 15 = .ok (.iconst 2, 1) := by decide +kernel
theorem dL_nextSum_16 : decode cL_nextSum 16 = .ok (.ireturn, 1) := by decide +kernel
theorem dL_nextSum_17 : decode cL_nextSum 17 = .ok (.iconst 0, 1) := by decide +kernel
theorem dL_nextSum_18 : decode cL_nextSum 18 = .ok (.ireturn, 1) := by decide +kernel
theorem dL_currentColumn_0 : decode cL_currentColumn 0 = .ok (.aload_n 2, 1) := by decide +kernel
theorem dL_currentColumn_1 : decode cL_currentColumn 1 = .ok (.iconst 0, 1) := by decide +kernel
theorem dL_currentColumn_2 : decode cL_currentColumn 2 = .ok (.aload_n 0, 1) := by decide +kernel
theorem dL_currentColumn_3 : decode cL_currentColumn 3 = .ok (.iload_n 1, 1) := by decide +kernel
theorem dL_currentColumn_4 : decode cL_currentColumn 4 = .ok (.invokevirtual 93, 3) := by decide +kernel
theorem dL_currentColumn_7 : decode cL_currentColumn 7 = .ok (.i2l, 1) := by decide +kernel
theorem dL_currentColumn_8 : decode cL_currentColumn 8 = .ok (.lastore, 1) := by decide +kernel
theorem dL_currentColumn_9 : decode cL_currentColumn 9 = .ok (.goto 9, 3) := by decide +kernel
theorem dL_currentColumn_12 : decode cL_currentColumn 12 = .ok (.astore_n 3, 1) := by decide +kernel
theorem dL_currentColumn_13 : decode cL_currentColumn 13 = .ok (.iconst 1, 1) := by decide +kernel
theorem dL_currentColumn_14 : decode cL_currentColumn 14 = .ok (.ireturn, 1) := by decide +kernel
theorem dL_currentColumn_15 : decode cL_currentColumn 15 = .ok (.astore_n 3, 1) := by decide +kernel
theorem dL_currentColumn_16 : decode cL_currentColumn 16 = .ok (.iconst 2, 1) := by decide +kernel
theorem dL_currentColumn_17 : decode cL_currentColumn 17 = .ok (.ireturn, 1) := by decide +kernel
theorem dL_currentColumn_18 : decode cL_currentColumn 18 = .ok (.iconst 0, 1) := by decide +kernel
theorem dL_currentColumn_19 : decode cL_currentColumn 19 = .ok (.ireturn, 1) := by decide +kernel
theorem dL_shareOf_0 : decode cL_shareOf 0 = .ok (.aload_n 2, 1) := by decide +kernel
theorem dL_shareOf_1 : decode cL_shareOf 1 = .ok (.iconst 0, 1) := by decide +kernel
theorem dL_shareOf_2 : decode cL_shareOf 2 = .ok (.aload_n 0, 1) := by decide +kernel
theorem dL_shareOf_3 : decode cL_shareOf 3 = .ok (.iload_n 1, 1) := by decide +kernel
theorem dL_shareOf_4 : decode cL_shareOf 4 = .ok (.invokevirtual 96, 3) := by decide +kernel
theorem dL_shareOf_7 : decode cL_shareOf 7 = .ok (.f2d, 1) := by decide +kernel
theorem dL_shareOf_8 : decode cL_shareOf 8 = .ok (.dastore, 1) := by decide +kernel
theorem dL_shareOf_9 : decode cL_shareOf 9 = .ok (.goto 6, 3) := by decide +kernel
theorem dL_shareOf_12 : decode cL_shareOf 12 = .ok (.astore_n 3, 1) := by decide +kernel
theorem dL_shareOf_13 : decode cL_shareOf 13 = .ok (.iconst 1, 1) := by decide +kernel
theorem dL_shareOf_14 : decode cL_shareOf 14 = .ok (.ireturn, 1) := by decide +kernel
theorem dL_shareOf_15 : decode cL_shareOf 15 = .ok (.iconst 0, 1) := by decide +kernel
theorem dL_shareOf_16 : decode cL_shareOf 16 = .ok (.ireturn, 1) := by decide +kernel
theorem dL_law_0 : decode cL_law 0 = .ok (.new 8, 3) := by decide +kernel
theorem dL_law_3 : decode cL_law 3 = .ok (.dup, 1) := by decide +kernel
theorem dL_law_4 : decode cL_law 4 = .ok (.invokespecial 100, 3) := by decide +kernel
theorem dL_law_7 : decode cL_law 7 = .ok (.astore_n 1, 1) := by decide +kernel
theorem dL_law_8 : decode cL_law 8 = .ok (.new 101, 3) := by decide +kernel
theorem dL_law_11 : decode cL_law 11 = .ok (.dup, 1) := by decide +kernel
theorem dL_law_12 : decode cL_law 12 = .ok (.invokespecial 103, 3) := by decide +kernel
theorem dL_law_15 : decode cL_law 15 = .ok (.astore_n 2, 1) := by decide +kernel
theorem dL_law_16 : decode cL_law 16 = .ok (.iconst 1, 1) := by decide +kernel
theorem dL_law_17 : decode cL_law 17 = .ok (.newarray .long, 2) := by decide +kernel
theorem dL_law_19 : decode cL_law 19 = .ok (.astore_n 3, 1) := by decide +kernel
theorem dL_law_20 : decode cL_law 20 = .ok (.iconst 1, 1) := by decide +kernel
theorem dL_law_21 : decode cL_law 21 = .ok (.newarray .double, 2) := by decide +kernel
theorem dL_law_23 : decode cL_law 23 = .ok (.astore 4, 2) := by decide +kernel
theorem dL_law_25 : decode cL_law 25 = .ok (.iconst 0, 1) := by decide +kernel
theorem dL_law_26 : decode cL_law 26 = .ok (.istore 5, 2) := by decide +kernel
theorem dL_law_28 : decode cL_law 28 = .ok (.iload 5, 2) := by decide +kernel
theorem dL_law_30 : decode cL_law 30 = .ok (.aload_n 0, 1) := by decide +kernel
theorem dL_law_31 : decode cL_law 31 = .ok (.arraylength, 1) := by decide +kernel
theorem dL_law_32 : decode cL_law 32 = .ok (.iconst 4, 1) := by decide +kernel
theorem dL_law_33 : decode cL_law 33 = .ok (.isub, 1) := by decide +kernel
theorem dL_law_34 : decode cL_law 34 = .ok (.if_icmp .gt 2095, 3) := by decide +kernel
theorem dL_law_37 : decode cL_law 37 = .ok (.aload_n 0, 1) := by decide +kernel
theorem dL_law_38 : decode cL_law 38 = .ok (.iload 5, 2) := by decide +kernel
theorem dL_law_40 : decode cL_law 40 = .ok (.iaload, 1) := by decide +kernel
theorem dL_law_41 : decode cL_law 41 = .ok (.bipush 63, 2) := by decide +kernel
theorem dL_law_43 : decode cL_law 43 = .ok (.iand, 1) := by decide +kernel
theorem dL_law_44 : decode cL_law 44 = .ok (.tableswitch 2079 0 41 #[184, 252, 332, 432, 500, 596, 664, 732, 800, 868, 936, 980, 993, 1006, 1019, 1032, 1045, 1058, 1071, 1084, 1097, 1153, 1166, 1222, 1278, 1346, 1414, 1482, 1562, 1575, 1588, 1601, 1664, 1720, 1776, 1820, 1864, 1920, 1933, 1974, 2052, 2066], 184) := by decide +kernel
theorem dL_law_228 : decode cL_law 228 = .ok (.aload_n 1, 1) := by decide +kernel
theorem dL_law_229 : decode cL_law 229 = .ok (.aload_n 0, 1) := by decide +kernel
theorem dL_law_230 : decode cL_law 230 = .ok (.iload 5, 2) := by decide +kernel
theorem dL_law_232 : decode cL_law 232 = .ok (.iconst 1, 1) := by decide +kernel
theorem dL_law_233 : decode cL_law 233 = .ok (.iadd, 1) := by decide +kernel
theorem dL_law_234 : decode cL_law 234 = .ok (.iaload, 1) := by decide +kernel
theorem dL_law_235 : decode cL_law 235 = .ok (.aload_n 0, 1) := by decide +kernel
theorem dL_law_236 : decode cL_law 236 = .ok (.iload 5, 2) := by decide +kernel
theorem dL_law_238 : decode cL_law 238 = .ok (.iconst 2, 1) := by decide +kernel
theorem dL_law_239 : decode cL_law 239 = .ok (.iadd, 1) := by decide +kernel
theorem dL_law_240 : decode cL_law 240 = .ok (.iaload, 1) := by decide +kernel
theorem dL_law_241 : decode cL_law 241 = .ok (.aload_n 3, 1) := by decide +kernel
theorem dL_law_242 : decode cL_law 242 = .ok (.invokestatic 104, 3) := by decide +kernel
theorem dL_law_245 : decode cL_law 245 = .ok (.istore 6, 2) := by decide +kernel
theorem dL_law_247 : decode cL_law 247 = .ok (.aload_n 2, 1) := by decide +kernel
theorem dL_law_248 : decode cL_law 248 = .ok (.aload_n 0, 1) := by decide +kernel
theorem dL_law_249 : decode cL_law 249 = .ok (.iload 5, 2) := by decide +kernel
theorem dL_law_251 : decode cL_law 251 = .ok (.iconst 1, 1) := by decide +kernel
theorem dL_law_252 : decode cL_law 252 = .ok (.iadd, 1) := by decide +kernel
theorem dL_law_253 : decode cL_law 253 = .ok (.iaload, 1) := by decide +kernel
theorem dL_law_254 : decode cL_law 254 = .ok (.aload_n 0, 1) := by decide +kernel
theorem dL_law_255 : decode cL_law 255 = .ok (.iload 5, 2) := by decide +kernel
theorem dL_law_257 : decode cL_law 257 = .ok (.iconst 2, 1) := by decide +kernel
theorem dL_law_258 : decode cL_law 258 = .ok (.iadd, 1) := by decide +kernel
theorem dL_law_259 : decode cL_law 259 = .ok (.iaload, 1) := by decide +kernel
theorem dL_law_260 : decode cL_law 260 = .ok (.invokevirtual 109, 3) := by decide +kernel
theorem dL_law_263 : decode cL_law 263 = .ok (.istore 7, 2) := by decide +kernel
theorem dL_law_265 : decode cL_law 265 = .ok (.aload_n 2, 1) := by decide +kernel
theorem dL_law_266 : decode cL_law 266 = .ok (.invokevirtual 110, 3) := by decide +kernel
theorem dL_law_269 : decode cL_law 269 = .ok (.iload 6, 2) := by decide +kernel
theorem dL_law_271 : decode cL_law 271 = .ok (.if_icmp .eq 5, 3) := by decide +kernel
theorem dL_law_274 : decode cL_law 274 = .ok (.iconst 0, 1) := by decide +kernel
theorem dL_law_275 : decode cL_law 275 = .ok (.ireturn, 1) := by decide +kernel
theorem dL_law_276 : decode cL_law 276 = .ok (.iload 6, 2) := by decide +kernel
theorem dL_law_278 : decode cL_law 278 = .ok (.ifCond .ne 15, 3) := by decide +kernel
theorem dL_law_281 : decode cL_law 281 = .ok (.aload_n 3, 1) := by decide +kernel
theorem dL_law_282 : decode cL_law 282 = .ok (.iconst 0, 1) := by decide +kernel
theorem dL_law_283 : decode cL_law 283 = .ok (.laload, 1) := by decide +kernel
theorem dL_law_284 : decode cL_law 284 = .ok (.iload 7, 2) := by decide +kernel
theorem dL_law_286 : decode cL_law 286 = .ok (.i2l, 1) := by decide +kernel
theorem dL_law_287 : decode cL_law 287 = .ok (.lcmp, 1) := by decide +kernel
theorem dL_law_288 : decode cL_law 288 = .ok (.ifCond .eq 5, 3) := by decide +kernel
theorem dL_law_291 : decode cL_law 291 = .ok (.iconst 0, 1) := by decide +kernel
theorem dL_law_292 : decode cL_law 292 = .ok (.ireturn, 1) := by decide +kernel
theorem dL_law_293 : decode cL_law 293 = .ok (.goto 1830, 3) := by decide +kernel
theorem dL_law_296 : decode cL_law 296 = .ok (.aload_n 1, 1) := by decide +kernel
theorem dL_law_297 : decode cL_law 297 = .ok (.aload_n 0, 1) := by decide +kernel
theorem dL_law_298 : decode cL_law 298 = .ok (.iload 5, 2) := by decide +kernel
theorem dL_law_300 : decode cL_law 300 = .ok (.iconst 1, 1) := by decide +kernel
theorem dL_law_301 : decode cL_law 301 = .ok (.iadd, 1) := by decide +kernel
theorem dL_law_302 : decode cL_law 302 = .ok (.iaload, 1) := by decide +kernel
theorem dL_law_303 : decode cL_law 303 = .ok (.aload_n 0, 1) := by decide +kernel
theorem dL_law_304 : decode cL_law 304 = .ok (.iload 5, 2) := by decide +kernel
theorem dL_law_306 : decode cL_law 306 = .ok (.iconst 2, 1) := by decide +kernel
theorem dL_law_307 : decode cL_law 307 = .ok (.iadd, 1) := by decide +kernel
theorem dL_law_308 : decode cL_law 308 = .ok (.iaload, 1) := by decide +kernel
theorem dL_law_309 : decode cL_law 309 = .ok (.aload_n 0, 1) := by decide +kernel
theorem dL_law_310 : decode cL_law 310 = .ok (.iload 5, 2) := by decide +kernel
theorem dL_law_312 : decode cL_law 312 = .ok (.iconst 3, 1) := by decide +kernel
theorem dL_law_313 : decode cL_law 313 = .ok (.iadd, 1) := by decide +kernel
theorem dL_law_314 : decode cL_law 314 = .ok (.iaload, 1) := by decide +kernel
theorem dL_law_315 : decode cL_law 315 = .ok (.aload_n 3, 1) := by decide +kernel
theorem dL_law_316 : decode cL_law 316 = .ok (.invokestatic 113, 3) := by decide +kernel
theorem dL_law_319 : decode cL_law 319 = .ok (.istore 6, 2) := by decide +kernel
theorem dL_law_321 : decode cL_law 321 = .ok (.aload_n 2, 1) := by decide +kernel
theorem dL_law_322 : decode cL_law 322 = .ok (.aload_n 0, 1) := by decide +kernel
theorem dL_law_323 : decode cL_law 323 = .ok (.iload 5, 2) := by decide +kernel
theorem dL_law_325 : decode cL_law 325 = .ok (.iconst 1, 1) := by decide +kernel
theorem dL_law_326 : decode cL_law 326 = .ok (.iadd, 1) := by decide +kernel
theorem dL_law_327 : decode cL_law 327 = .ok (.iaload, 1) := by decide +kernel
theorem dL_law_328 : decode cL_law 328 = .ok (.aload_n 0, 1) := by decide +kernel
theorem dL_law_329 : decode cL_law 329 = .ok (.iload 5, 2) := by decide +kernel
theorem dL_law_331 : decode cL_law 331 = .ok (.iconst 2, 1) := by decide +kernel
theorem dL_law_332 : decode cL_law 332 = .ok (.iadd, 1) := by decide +kernel
theorem dL_law_333 : decode cL_law 333 = .ok (.iaload, 1) := by decide +kernel
theorem dL_law_334 : decode cL_law 334 = .ok (.aload_n 0, 1) := by decide +kernel
theorem dL_law_335 : decode cL_law 335 = .ok (.iload 5, 2) := by decide +kernel
theorem dL_law_337 : decode cL_law 337 = .ok (.iconst 3, 1) := by decide +kernel
theorem dL_law_338 : decode cL_law 338 = .ok (.iadd, 1) := by decide +kernel
theorem dL_law_339 : decode cL_law 339 = .ok (.iaload, 1) := by decide +kernel
theorem dL_law_340 : decode cL_law 340 = .ok (.invokevirtual 116, 3) := by decide +kernel
theorem dL_law_343 : decode cL_law 343 = .ok (.istore 7, 2) := by decide +kernel
theorem dL_law_345 : decode cL_law 345 = .ok (.aload_n 2, 1) := by decide +kernel
theorem dL_law_346 : decode cL_law 346 = .ok (.invokevirtual 110, 3) := by decide +kernel
theorem dL_law_349 : decode cL_law 349 = .ok (.iload 6, 2) := by decide +kernel
theorem dL_law_351 : decode cL_law 351 = .ok (.if_icmp .eq 5, 3) := by decide +kernel
theorem dL_law_354 : decode cL_law 354 = .ok (.iconst 0, 1) := by decide +kernel
theorem dL_law_355 : decode cL_law 355 = .ok (.ireturn, 1) := by decide +kernel
theorem dL_law_356 : decode cL_law 356 = .ok (.iload 6, 2) := by decide +kernel
theorem dL_law_358 : decode cL_law 358 = .ok (.ifCond .ne 15, 3) := by decide +kernel
theorem dL_law_361 : decode cL_law 361 = .ok (.aload_n 3, 1) := by decide +kernel
theorem dL_law_362 : decode cL_law 362 = .ok (.iconst 0, 1) := by decide +kernel
theorem dL_law_363 : decode cL_law 363 = .ok (.laload, 1) := by decide +kernel
theorem dL_law_364 : decode cL_law 364 = .ok (.iload 7, 2) := by decide +kernel
theorem dL_law_366 : decode cL_law 366 = .ok (.i2l, 1) := by decide +kernel
theorem dL_law_367 : decode cL_law 367 = .ok (.lcmp, 1) := by decide +kernel
theorem dL_law_368 : decode cL_law 368 = .ok (.ifCond .eq 5, 3) := by decide +kernel
theorem dL_law_371 : decode cL_law 371 = .ok (.iconst 0, 1) := by decide +kernel
theorem dL_law_372 : decode cL_law 372 = .ok (.ireturn, 1) := by decide +kernel
theorem dL_law_373 : decode cL_law 373 = .ok (.goto 1750, 3) := by decide +kernel
theorem dL_law_376 : decode cL_law 376 = .ok (.aload_n 1, 1) := by decide +kernel
theorem dL_law_377 : decode cL_law 377 = .ok (.aload_n 0, 1) := by decide +kernel
theorem dL_law_378 : decode cL_law 378 = .ok (.iload 5, 2) := by decide +kernel
theorem dL_law_380 : decode cL_law 380 = .ok (.iconst 1, 1) := by decide +kernel
theorem dL_law_381 : decode cL_law 381 = .ok (.iadd, 1) := by decide +kernel
theorem dL_law_382 : decode cL_law 382 = .ok (.iaload, 1) := by decide +kernel
theorem dL_law_383 : decode cL_law 383 = .ok (.aload_n 0, 1) := by decide +kernel
theorem dL_law_384 : decode cL_law 384 = .ok (.iload 5, 2) := by decide +kernel
theorem dL_law_386 : decode cL_law 386 = .ok (.iconst 2, 1) := by decide +kernel
theorem dL_law_387 : decode cL_law 387 = .ok (.iadd, 1) := by decide +kernel
theorem dL_law_388 : decode cL_law 388 = .ok (.iaload, 1) := by decide +kernel
theorem dL_law_389 : decode cL_law 389 = .ok (.i2l, 1) := by decide +kernel
theorem dL_law_390 : decode cL_law 390 = .ok (.bipush 32, 2) := by decide +kernel
theorem dL_law_392 : decode cL_law 392 = .ok (.lshl, 1) := by decide +kernel
theorem dL_law_393 : decode cL_law 393 = .ok (.aload_n 0, 1) := by decide +kernel
theorem dL_law_394 : decode cL_law 394 = .ok (.iload 5, 2) := by decide +kernel
theorem dL_law_396 : decode cL_law 396 = .ok (.iconst 3, 1) := by decide +kernel
theorem dL_law_397 : decode cL_law 397 = .ok (.iadd, 1) := by decide +kernel
theorem dL_law_398 : decode cL_law 398 = .ok (.iaload, 1) := by decide +kernel
theorem dL_law_399 : decode cL_law 399 = .ok (.i2l, 1) := by decide +kernel
theorem dL_law_400 : decode cL_law 400 = .ok (.ldc2_w 117, 3) := by decide +kernel
theorem dL_law_403 : decode cL_law 403 = .ok (.land, 1) := by decide +kernel
theorem dL_law_404 : decode cL_law 404 = .ok (.lor, 1) := by decide +kernel
theorem dL_law_405 : decode cL_law 405 = .ok (.aload_n 3, 1) := by decide +kernel
theorem dL_law_406 : decode cL_law 406 = .ok (.invokestatic 119, 3) := by decide +kernel
theorem dL_law_409 : decode cL_law 409 = .ok (.istore 6, 2) := by decide +kernel
theorem dL_law_411 : decode cL_law 411 = .ok (.aload_n 2, 1) := by decide +kernel
theorem dL_law_412 : decode cL_law 412 = .ok (.aload_n 0, 1) := by decide +kernel
theorem dL_law_413 : decode cL_law 413 = .ok (.iload 5, 2) := by decide +kernel
theorem dL_law_415 : decode cL_law 415 = .ok (.iconst 1, 1) := by decide +kernel
theorem dL_law_416 : decode cL_law 416 = .ok (.iadd, 1) := by decide +kernel
theorem dL_law_417 : decode cL_law 417 = .ok (.iaload, 1) := by decide +kernel
theorem dL_law_418 : decode cL_law 418 = .ok (.aload_n 0, 1) := by decide +kernel
theorem dL_law_419 : decode cL_law 419 = .ok (.iload 5, 2) := by decide +kernel
theorem dL_law_421 : decode cL_law 421 = .ok (.iconst 2, 1) := by decide +kernel
theorem dL_law_422 : decode cL_law 422 = .ok (.iadd, 1) := by decide +kernel
theorem dL_law_423 : decode cL_law 423 = .ok (.iaload, 1) := by decide +kernel
theorem dL_law_424 : decode cL_law 424 = .ok (.i2l, 1) := by decide +kernel
theorem dL_law_425 : decode cL_law 425 = .ok (.bipush 32, 2) := by decide +kernel
theorem dL_law_427 : decode cL_law 427 = .ok (.lshl, 1) := by decide +kernel
theorem dL_law_428 : decode cL_law 428 = .ok (.aload_n 0, 1) := by decide +kernel
theorem dL_law_429 : decode cL_law 429 = .ok (.iload 5, 2) := by decide +kernel
theorem dL_law_431 : decode cL_law 431 = .ok (.iconst 3, 1) := by decide +kernel
theorem dL_law_432 : decode cL_law 432 = .ok (.iadd, 1) := by decide +kernel
theorem dL_law_433 : decode cL_law 433 = .ok (.iaload, 1) := by decide +kernel
theorem dL_law_434 : decode cL_law 434 = .ok (.i2l, 1) := by decide +kernel
theorem dL_law_435 : decode cL_law 435 = .ok (.ldc2_w 117, 3) := by decide +kernel
theorem dL_law_438 : decode cL_law 438 = .ok (.land, 1) := by decide +kernel
theorem dL_law_439 : decode cL_law 439 = .ok (.lor, 1) := by decide +kernel
theorem dL_law_440 : decode cL_law 440 = .ok (.invokevirtual 122, 3) := by decide +kernel
theorem dL_law_443 : decode cL_law 443 = .ok (.istore 7, 2) := by decide +kernel
theorem dL_law_445 : decode cL_law 445 = .ok (.aload_n 2, 1) := by decide +kernel
theorem dL_law_446 : decode cL_law 446 = .ok (.invokevirtual 110, 3) := by decide +kernel
theorem dL_law_449 : decode cL_law 449 = .ok (.iload 6, 2) := by decide +kernel
theorem dL_law_451 : decode cL_law 451 = .ok (.if_icmp .eq 5, 3) := by decide +kernel
theorem dL_law_454 : decode cL_law 454 = .ok (.iconst 0, 1) := by decide +kernel
theorem dL_law_455 : decode cL_law 455 = .ok (.ireturn, 1) := by decide +kernel
theorem dL_law_456 : decode cL_law 456 = .ok (.iload 6, 2) := by decide +kernel
theorem dL_law_458 : decode cL_law 458 = .ok (.ifCond .ne 15, 3) := by decide +kernel
theorem dL_law_461 : decode cL_law 461 = .ok (.aload_n 3, 1) := by decide +kernel
theorem dL_law_462 : decode cL_law 462 = .ok (.iconst 0, 1) := by decide +kernel
theorem dL_law_463 : decode cL_law 463 = .ok (.laload, 1) := by decide +kernel
theorem dL_law_464 : decode cL_law 464 = .ok (.iload 7, 2) := by decide +kernel
theorem dL_law_466 : decode cL_law 466 = .ok (.i2l, 1) := by decide +kernel
theorem dL_law_467 : decode cL_law 467 = .ok (.lcmp, 1) := by decide +kernel
theorem dL_law_468 : decode cL_law 468 = .ok (.ifCond .eq 5, 3) := by decide +kernel
theorem dL_law_471 : decode cL_law 471 = .ok (.iconst 0, 1) := by decide +kernel
theorem dL_law_472 : decode cL_law 472 = .ok (.ireturn, 1) := by decide +kernel
theorem dL_law_473 : decode cL_law 473 = .ok (.goto 1650, 3) := by decide +kernel
theorem dL_law_476 : decode cL_law 476 = .ok (.aload_n 1, 1) := by decide +kernel
theorem dL_law_477 : decode cL_law 477 = .ok (.aload_n 0, 1) := by decide +kernel
theorem dL_law_478 : decode cL_law 478 = .ok (.iload 5, 2) := by decide +kernel
theorem dL_law_480 : decode cL_law 480 = .ok (.iconst 1, 1) := by decide +kernel
theorem dL_law_481 : decode cL_law 481 = .ok (.iadd, 1) := by decide +kernel
theorem dL_law_482 : decode cL_law 482 = .ok (.iaload, 1) := by decide +kernel
theorem dL_law_483 : decode cL_law 483 = .ok (.aload_n 0, 1) := by decide +kernel
theorem dL_law_484 : decode cL_law 484 = .ok (.iload 5, 2) := by decide +kernel
theorem dL_law_486 : decode cL_law 486 = .ok (.iconst 2, 1) := by decide +kernel
theorem dL_law_487 : decode cL_law 487 = .ok (.iadd, 1) := by decide +kernel
theorem dL_law_488 : decode cL_law 488 = .ok (.iaload, 1) := by decide +kernel
theorem dL_law_489 : decode cL_law 489 = .ok (.aload_n 3, 1) := by decide +kernel
theorem dL_law_490 : decode cL_law 490 = .ok (.invokestatic 123, 3) := by decide +kernel
theorem dL_law_493 : decode cL_law 493 = .ok (.istore 6, 2) := by decide +kernel
theorem dL_law_495 : decode cL_law 495 = .ok (.aload_n 2, 1) := by decide +kernel
theorem dL_law_496 : decode cL_law 496 = .ok (.aload_n 0, 1) := by decide +kernel
theorem dL_law_497 : decode cL_law 497 = .ok (.iload 5, 2) := by decide +kernel
theorem dL_law_499 : decode cL_law 499 = .ok (.iconst 1, 1) := by decide +kernel
theorem dL_law_500 : decode cL_law 500 = .ok (.iadd, 1) := by decide +kernel
theorem dL_law_501 : decode cL_law 501 = .ok (.iaload, 1) := by decide +kernel
theorem dL_law_502 : decode cL_law 502 = .ok (.aload_n 0, 1) := by decide +kernel
theorem dL_law_503 : decode cL_law 503 = .ok (.iload 5, 2) := by decide +kernel
theorem dL_law_505 : decode cL_law 505 = .ok (.iconst 2, 1) := by decide +kernel
theorem dL_law_506 : decode cL_law 506 = .ok (.iadd, 1) := by decide +kernel
theorem dL_law_507 : decode cL_law 507 = .ok (.iaload, 1) := by decide +kernel
theorem dL_law_508 : decode cL_law 508 = .ok (.invokevirtual 125, 3) := by decide +kernel
theorem dL_law_511 : decode cL_law 511 = .ok (.istore 7, 2) := by decide +kernel
theorem dL_law_513 : decode cL_law 513 = .ok (.aload_n 2, 1) := by decide +kernel
theorem dL_law_514 : decode cL_law 514 = .ok (.invokevirtual 110, 3) := by decide +kernel
theorem dL_law_517 : decode cL_law 517 = .ok (.iload 6, 2) := by decide +kernel
theorem dL_law_519 : decode cL_law 519 = .ok (.if_icmp .eq 5, 3) := by decide +kernel
theorem dL_law_522 : decode cL_law 522 = .ok (.iconst 0, 1) := by decide +kernel
theorem dL_law_523 : decode cL_law 523 = .ok (.ireturn, 1) := by decide +kernel
theorem dL_law_524 : decode cL_law 524 = .ok (.iload 6, 2) := by decide +kernel
theorem dL_law_526 : decode cL_law 526 = .ok (.ifCond .ne 15, 3) := by decide +kernel
theorem dL_law_529 : decode cL_law 529 = .ok (.aload_n 3, 1) := by decide +kernel
theorem dL_law_530 : decode cL_law 530 = .ok (.iconst 0, 1) := by decide +kernel
theorem dL_law_531 : decode cL_law 531 = .ok (.laload, 1) := by decide +kernel
theorem dL_law_532 : decode cL_law 532 = .ok (.iload 7, 2) := by decide +kernel
theorem dL_law_534 : decode cL_law 534 = .ok (.i2l, 1) := by decide +kernel
theorem dL_law_535 : decode cL_law 535 = .ok (.lcmp, 1) := by decide +kernel
theorem dL_law_536 : decode cL_law 536 = .ok (.ifCond .eq 5, 3) := by decide +kernel
theorem dL_law_539 : decode cL_law 539 = .ok (.iconst 0, 1) := by decide +kernel
theorem dL_law_540 : decode cL_law 540 = .ok (.ireturn, 1) := by decide +kernel
theorem dL_law_541 : decode cL_law 541 = .ok (.goto 1582, 3) := by decide +kernel
theorem dL_law_544 : decode cL_law 544 = .ok (.aload_n 1, 1) := by decide +kernel
theorem dL_law_545 : decode cL_law 545 = .ok (.aload_n 0, 1) := by decide +kernel
theorem dL_law_546 : decode cL_law 546 = .ok (.iload 5, 2) := by decide +kernel
theorem dL_law_548 : decode cL_law 548 = .ok (.iconst 1, 1) := by decide +kernel
theorem dL_law_549 : decode cL_law 549 = .ok (.iadd, 1) := by decide +kernel
theorem dL_law_550 : decode cL_law 550 = .ok (.iaload, 1) := by decide +kernel
theorem dL_law_551 : decode cL_law 551 = .ok (.aload_n 0, 1) := by decide +kernel
theorem dL_law_552 : decode cL_law 552 = .ok (.iload 5, 2) := by decide +kernel
theorem dL_law_554 : decode cL_law 554 = .ok (.iconst 2, 1) := by decide +kernel
theorem dL_law_555 : decode cL_law 555 = .ok (.iadd, 1) := by decide +kernel
theorem dL_law_556 : decode cL_law 556 = .ok (.iaload, 1) := by decide +kernel
theorem dL_law_557 : decode cL_law 557 = .ok (.aload_n 0, 1) := by decide +kernel
theorem dL_law_558 : decode cL_law 558 = .ok (.iload 5, 2) := by decide +kernel
theorem dL_law_560 : decode cL_law 560 = .ok (.iconst 3, 1) := by decide +kernel
theorem dL_law_561 : decode cL_law 561 = .ok (.iadd, 1) := by decide +kernel
theorem dL_law_562 : decode cL_law 562 = .ok (.iaload, 1) := by decide +kernel
theorem dL_law_563 : decode cL_law 563 = .ok (.ifCond .eq 7, 3) := by decide +kernel
theorem dL_law_566 : decode cL_law 566 = .ok (.iconst 1, 1) := by decide +kernel
theorem dL_law_567 : decode cL_law 567 = .ok (.goto 4, 3) := by decide +kernel
theorem dL_law_570 : decode cL_law 570 = .ok (.iconst 0, 1) := by decide +kernel
theorem dL_law_571 : decode cL_law 571 = .ok (.aload_n 3, 1) := by decide +kernel
theorem dL_law_572 : decode cL_law 572 = .ok (.invokestatic 126, 3) := by decide +kernel
theorem dL_law_575 : decode cL_law 575 = .ok (.istore 6, 2) := by decide +kernel
theorem dL_law_577 : decode cL_law 577 = .ok (.aload_n 2, 1) := by decide +kernel
theorem dL_law_578 : decode cL_law 578 = .ok (.aload_n 0, 1) := by decide +kernel
theorem dL_law_579 : decode cL_law 579 = .ok (.iload 5, 2) := by decide +kernel
theorem dL_law_581 : decode cL_law 581 = .ok (.iconst 1, 1) := by decide +kernel
theorem dL_law_582 : decode cL_law 582 = .ok (.iadd, 1) := by decide +kernel
theorem dL_law_583 : decode cL_law 583 = .ok (.iaload, 1) := by decide +kernel
theorem dL_law_584 : decode cL_law 584 = .ok (.aload_n 0, 1) := by decide +kernel
theorem dL_law_585 : decode cL_law 585 = .ok (.iload 5, 2) := by decide +kernel
theorem dL_law_587 : decode cL_law 587 = .ok (.iconst 2, 1) := by decide +kernel
theorem dL_law_588 : decode cL_law 588 = .ok (.iadd, 1) := by decide +kernel
theorem dL_law_589 : decode cL_law 589 = .ok (.iaload, 1) := by decide +kernel
theorem dL_law_590 : decode cL_law 590 = .ok (.aload_n 0, 1) := by decide +kernel
theorem dL_law_591 : decode cL_law 591 = .ok (.iload 5, 2) := by decide +kernel
theorem dL_law_593 : decode cL_law 593 = .ok (.iconst 3, 1) := by decide +kernel
theorem dL_law_594 : decode cL_law 594 = .ok (.iadd, 1) := by decide +kernel
theorem dL_law_595 : decode cL_law 595 = .ok (.iaload, 1) := by decide +kernel
theorem dL_law_596 : decode cL_law 596 = .ok (.ifCond .eq 7, 3) := by decide +kernel
theorem dL_law_599 : decode cL_law 599 = .ok (.iconst 1, 1) := by decide +kernel
theorem dL_law_600 : decode cL_law 600 = .ok (.goto 4, 3) := by decide +kernel
theorem dL_law_603 : decode cL_law 603 = .ok (.iconst 0, 1) := by decide +kernel
theorem dL_law_604 : decode cL_law 604 = .ok (.invokevirtual 129, 3) := by decide +kernel
theorem dL_law_607 : decode cL_law 607 = .ok (.istore 7, 2) := by decide +kernel
theorem dL_law_609 : decode cL_law 609 = .ok (.aload_n 2, 1) := by decide +kernel
theorem dL_law_610 : decode cL_law 610 = .ok (.invokevirtual 110, 3) := by decide +kernel
theorem dL_law_613 : decode cL_law 613 = .ok (.iload 6, 2) := by decide +kernel
theorem dL_law_615 : decode cL_law 615 = .ok (.if_icmp .eq 5, 3) := by decide +kernel
theorem dL_law_618 : decode cL_law 618 = .ok (.iconst 0, 1) := by decide +kernel
theorem dL_law_619 : decode cL_law 619 = .ok (.ireturn, 1) := by decide +kernel
theorem dL_law_620 : decode cL_law 620 = .ok (.iload 6, 2) := by decide +kernel
theorem dL_law_622 : decode cL_law 622 = .ok (.ifCond .ne 15, 3) := by decide +kernel
theorem dL_law_625 : decode cL_law 625 = .ok (.aload_n 3, 1) := by decide +kernel
theorem dL_law_626 : decode cL_law 626 = .ok (.iconst 0, 1) := by decide +kernel
theorem dL_law_627 : decode cL_law 627 = .ok (.laload, 1) := by decide +kernel
theorem dL_law_628 : decode cL_law 628 = .ok (.iload 7, 2) := by decide +kernel
theorem dL_law_630 : decode cL_law 630 = .ok (.i2l, 1) := by decide +kernel
theorem dL_law_631 : decode cL_law 631 = .ok (.lcmp, 1) := by decide +kernel
theorem dL_law_632 : decode cL_law 632 = .ok (.ifCond .eq 5, 3) := by decide +kernel
theorem dL_law_635 : decode cL_law 635 = .ok (.iconst 0, 1) := by decide +kernel
theorem dL_law_636 : decode cL_law 636 = .ok (.ireturn, 1) := by decide +kernel
theorem dL_law_637 : decode cL_law 637 = .ok (.goto 1486, 3) := by decide +kernel
theorem dL_law_640 : decode cL_law 640 = .ok (.aload_n 1, 1) := by decide +kernel
theorem dL_law_641 : decode cL_law 641 = .ok (.aload_n 0, 1) := by decide +kernel
theorem dL_law_642 : decode cL_law 642 = .ok (.iload 5, 2) := by decide +kernel
theorem dL_law_644 : decode cL_law 644 = .ok (.iconst 1, 1) := by decide +kernel
theorem dL_law_645 : decode cL_law 645 = .ok (.iadd, 1) := by decide +kernel
theorem dL_law_646 : decode cL_law 646 = .ok (.iaload, 1) := by decide +kernel
theorem dL_law_647 : decode cL_law 647 = .ok (.aload_n 0, 1) := by decide +kernel
theorem dL_law_648 : decode cL_law 648 = .ok (.iload 5, 2) := by decide +kernel
theorem dL_law_650 : decode cL_law 650 = .ok (.iconst 2, 1) := by decide +kernel
theorem dL_law_651 : decode cL_law 651 = .ok (.iadd, 1) := by decide +kernel
theorem dL_law_652 : decode cL_law 652 = .ok (.iaload, 1) := by decide +kernel
theorem dL_law_653 : decode cL_law 653 = .ok (.aload_n 3, 1) := by decide +kernel
theorem dL_law_654 : decode cL_law 654 = .ok (.invokestatic 130, 3) := by decide +kernel
theorem dL_law_657 : decode cL_law 657 = .ok (.istore 6, 2) := by decide +kernel
theorem dL_law_659 : decode cL_law 659 = .ok (.aload_n 2, 1) := by decide +kernel
theorem dL_law_660 : decode cL_law 660 = .ok (.aload_n 0, 1) := by decide +kernel
theorem dL_law_661 : decode cL_law 661 = .ok (.iload 5, 2) := by decide +kernel
theorem dL_law_663 : decode cL_law 663 = .ok (.iconst 1, 1) := by decide +kernel
theorem dL_law_664 : decode cL_law 664 = .ok (.iadd, 1) := by decide +kernel
theorem dL_law_665 : decode cL_law 665 = .ok (.iaload, 1) := by decide +kernel
theorem dL_law_666 : decode cL_law 666 = .ok (.aload_n 0, 1) := by decide +kernel
theorem dL_law_667 : decode cL_law 667 = .ok (.iload 5, 2) := by decide +kernel
theorem dL_law_669 : decode cL_law 669 = .ok (.iconst 2, 1) := by decide +kernel
theorem dL_law_670 : decode cL_law 670 = .ok (.iadd, 1) := by decide +kernel
theorem dL_law_671 : decode cL_law 671 = .ok (.iaload, 1) := by decide +kernel
theorem dL_law_672 : decode cL_law 672 = .ok (.invokevirtual 132, 3) := by decide +kernel
theorem dL_law_675 : decode cL_law 675 = .ok (.istore 7, 2) := by decide +kernel
theorem dL_law_677 : decode cL_law 677 = .ok (.aload_n 2, 1) := by decide +kernel
theorem dL_law_678 : decode cL_law 678 = .ok (.invokevirtual 110, 3) := by decide +kernel
theorem dL_law_681 : decode cL_law 681 = .ok (.iload 6, 2) := by decide +kernel
theorem dL_law_683 : decode cL_law 683 = .ok (.if_icmp .eq 5, 3) := by decide +kernel
theorem dL_law_686 : decode cL_law 686 = .ok (.iconst 0, 1) := by decide +kernel
theorem dL_law_687 : decode cL_law 687 = .ok (.ireturn, 1) := by decide +kernel
theorem dL_law_688 : decode cL_law 688 = .ok (.iload 6, 2) := by decide +kernel
theorem dL_law_690 : decode cL_law 690 = .ok (.ifCond .ne 15, 3) := by decide +kernel
theorem dL_law_693 : decode cL_law 693 = .ok (.aload_n 3, 1) := by decide +kernel
theorem dL_law_694 : decode cL_law 694 = .ok (.iconst 0, 1) := by decide +kernel
theorem dL_law_695 : decode cL_law 695 = .ok (.laload, 1) := by decide +kernel
theorem dL_law_696 : decode cL_law 696 = .ok (.iload 7, 2) := by decide +kernel
theorem dL_law_698 : decode cL_law 698 = .ok (.i2l, 1) := by decide +kernel
theorem dL_law_699 : decode cL_law 699 = .ok (.lcmp, 1) := by decide +kernel
theorem dL_law_700 : decode cL_law 700 = .ok (.ifCond .eq 5, 3) := by decide +kernel
theorem dL_law_703 : decode cL_law 703 = .ok (.iconst 0, 1) := by decide +kernel
theorem dL_law_704 : decode cL_law 704 = .ok (.ireturn, 1) := by decide +kernel
theorem dL_law_705 : decode cL_law 705 = .ok (.goto 1418, 3) := by decide +kernel
theorem dL_law_708 : decode cL_law 708 = .ok (.aload_n 1, 1) := by decide +kernel
theorem dL_law_709 : decode cL_law 709 = .ok (.aload_n 0, 1) := by decide +kernel
theorem dL_law_710 : decode cL_law 710 = .ok (.iload 5, 2) := by decide +kernel
theorem dL_law_712 : decode cL_law 712 = .ok (.iconst 1, 1) := by decide +kernel
theorem dL_law_713 : decode cL_law 713 = .ok (.iadd, 1) := by decide +kernel
theorem dL_law_714 : decode cL_law 714 = .ok (.iaload, 1) := by decide +kernel
theorem dL_law_715 : decode cL_law 715 = .ok (.aload_n 0, 1) := by decide +kernel
theorem dL_law_716 : decode cL_law 716 = .ok (.iload 5, 2) := by decide +kernel
theorem dL_law_718 : decode cL_law 718 = .ok (.iconst 2, 1) := by decide +kernel
theorem dL_law_719 : decode cL_law 719 = .ok (.iadd, 1) := by decide +kernel
theorem dL_law_720 : decode cL_law 720 = .ok (.iaload, 1) := by decide +kernel
theorem dL_law_721 : decode cL_law 721 = .ok (.aload_n 3, 1) := by decide +kernel
theorem dL_law_722 : decode cL_law 722 = .ok (.invokestatic 133, 3) := by decide +kernel
theorem dL_law_725 : decode cL_law 725 = .ok (.istore 6, 2) := by decide +kernel
theorem dL_law_727 : decode cL_law 727 = .ok (.aload_n 2, 1) := by decide +kernel
theorem dL_law_728 : decode cL_law 728 = .ok (.aload_n 0, 1) := by decide +kernel
theorem dL_law_729 : decode cL_law 729 = .ok (.iload 5, 2) := by decide +kernel
theorem dL_law_731 : decode cL_law 731 = .ok (.iconst 1, 1) := by decide +kernel
theorem dL_law_732 : decode cL_law 732 = .ok (.iadd, 1) := by decide +kernel
theorem dL_law_733 : decode cL_law 733 = .ok (.iaload, 1) := by decide +kernel
theorem dL_law_734 : decode cL_law 734 = .ok (.aload_n 0, 1) := by decide +kernel
theorem dL_law_735 : decode cL_law 735 = .ok (.iload 5, 2) := by decide +kernel
theorem dL_law_737 : decode cL_law 737 = .ok (.iconst 2, 1) := by decide +kernel
theorem dL_law_738 : decode cL_law 738 = .ok (.iadd, 1) := by decide +kernel
theorem dL_law_739 : decode cL_law 739 = .ok (.iaload, 1) := by decide +kernel
theorem dL_law_740 : decode cL_law 740 = .ok (.invokevirtual 135, 3) := by decide +kernel
theorem dL_law_743 : decode cL_law 743 = .ok (.istore 7, 2) := by decide +kernel
theorem dL_law_745 : decode cL_law 745 = .ok (.aload_n 2, 1) := by decide +kernel
theorem dL_law_746 : decode cL_law 746 = .ok (.invokevirtual 110, 3) := by decide +kernel
theorem dL_law_749 : decode cL_law 749 = .ok (.iload 6, 2) := by decide +kernel
theorem dL_law_751 : decode cL_law 751 = .ok (.if_icmp .eq 5, 3) := by decide +kernel
theorem dL_law_754 : decode cL_law 754 = .ok (.iconst 0, 1) := by decide +kernel
theorem dL_law_755 : decode cL_law 755 = .ok (.ireturn, 1) := by decide +kernel
theorem dL_law_756 : decode cL_law 756 = .ok (.iload 6, 2) := by decide +kernel
theorem dL_law_758 : decode cL_law 758 = .ok (.ifCond .ne 15, 3) := by decide +kernel
theorem dL_law_761 : decode cL_law 761 = .ok (.aload_n 3, 1) := by decide +kernel
theorem dL_law_762 : decode cL_law 762 = .ok (.iconst 0, 1) := by decide +kernel
theorem dL_law_763 : decode cL_law 763 = .ok (.laload, 1) := by decide +kernel
theorem dL_law_764 : decode cL_law 764 = .ok (.iload 7, 2) := by decide +kernel
theorem dL_law_766 : decode cL_law 766 = .ok (.i2l, 1) := by decide +kernel
theorem dL_law_767 : decode cL_law 767 = .ok (.lcmp, 1) := by decide +kernel
theorem dL_law_768 : decode cL_law 768 = .ok (.ifCond .eq 5, 3) := by decide +kernel
theorem dL_law_771 : decode cL_law 771 = .ok (.iconst 0, 1) := by decide +kernel
theorem dL_law_772 : decode cL_law 772 = .ok (.ireturn, 1) := by decide +kernel
theorem dL_law_773 : decode cL_law 773 = .ok (.goto 1350, 3) := by decide +kernel
theorem dL_law_776 : decode cL_law 776 = .ok (.aload_n 1, 1) := by decide +kernel
theorem dL_law_777 : decode cL_law 777 = .ok (.aload_n 0, 1) := by decide +kernel
theorem dL_law_778 : decode cL_law 778 = .ok (.iload 5, 2) := by decide +kernel
theorem dL_law_780 : decode cL_law 780 = .ok (.iconst 1, 1) := by decide +kernel
theorem dL_law_781 : decode cL_law 781 = .ok (.iadd, 1) := by decide +kernel
theorem dL_law_782 : decode cL_law 782 = .ok (.iaload, 1) := by decide +kernel
theorem dL_law_783 : decode cL_law 783 = .ok (.aload_n 0, 1) := by decide +kernel
theorem dL_law_784 : decode cL_law 784 = .ok (.iload 5, 2) := by decide +kernel
theorem dL_law_786 : decode cL_law 786 = .ok (.iconst 2, 1) := by decide +kernel
theorem dL_law_787 : decode cL_law 787 = .ok (.iadd, 1) := by decide +kernel
theorem dL_law_788 : decode cL_law 788 = .ok (.iaload, 1) := by decide +kernel
theorem dL_law_789 : decode cL_law 789 = .ok (.aload_n 3, 1) := by decide +kernel
theorem dL_law_790 : decode cL_law 790 = .ok (.invokestatic 136, 3) := by decide +kernel
theorem dL_law_793 : decode cL_law 793 = .ok (.istore 6, 2) := by decide +kernel
theorem dL_law_795 : decode cL_law 795 = .ok (.aload_n 2, 1) := by decide +kernel
theorem dL_law_796 : decode cL_law 796 = .ok (.aload_n 0, 1) := by decide +kernel
theorem dL_law_797 : decode cL_law 797 = .ok (.iload 5, 2) := by decide +kernel
theorem dL_law_799 : decode cL_law 799 = .ok (.iconst 1, 1) := by decide +kernel
theorem dL_law_800 : decode cL_law 800 = .ok (.iadd, 1) := by decide +kernel
theorem dL_law_801 : decode cL_law 801 = .ok (.iaload, 1) := by decide +kernel
theorem dL_law_802 : decode cL_law 802 = .ok (.aload_n 0, 1) := by decide +kernel
theorem dL_law_803 : decode cL_law 803 = .ok (.iload 5, 2) := by decide +kernel
theorem dL_law_805 : decode cL_law 805 = .ok (.iconst 2, 1) := by decide +kernel
theorem dL_law_806 : decode cL_law 806 = .ok (.iadd, 1) := by decide +kernel
theorem dL_law_807 : decode cL_law 807 = .ok (.iaload, 1) := by decide +kernel
theorem dL_law_808 : decode cL_law 808 = .ok (.invokevirtual 138, 3) := by decide +kernel
theorem dL_law_811 : decode cL_law 811 = .ok (.istore 7, 2) := by decide +kernel
theorem dL_law_813 : decode cL_law 813 = .ok (.aload_n 2, 1) := by decide +kernel
theorem dL_law_814 : decode cL_law 814 = .ok (.invokevirtual 110, 3) := by decide +kernel
theorem dL_law_817 : decode cL_law 817 = .ok (.iload 6, 2) := by decide +kernel
theorem dL_law_819 : decode cL_law 819 = .ok (.if_icmp .eq 5, 3) := by decide +kernel
theorem dL_law_822 : decode cL_law 822 = .ok (.iconst 0, 1) := by decide +kernel
theorem dL_law_823 : decode cL_law 823 = .ok (.ireturn, 1) := by decide +kernel
theorem dL_law_824 : decode cL_law 824 = .ok (.iload 6, 2) := by decide +kernel
theorem dL_law_826 : decode cL_law 826 = .ok (.ifCond .ne 15, 3) := by decide +kernel
theorem dL_law_829 : decode cL_law 829 = .ok (.aload_n 3, 1) := by decide +kernel
theorem dL_law_830 : decode cL_law 830 = .ok (.iconst 0, 1) := by decide +kernel
theorem dL_law_831 : decode cL_law 831 = .ok (.laload, 1) := by decide +kernel
theorem dL_law_832 : decode cL_law 832 = .ok (.iload 7, 2) := by decide +kernel
theorem dL_law_834 : decode cL_law 834 = .ok (.i2l, 1) := by decide +kernel
theorem dL_law_835 : decode cL_law 835 = .ok (.lcmp, 1) := by decide +kernel
theorem dL_law_836 : decode cL_law 836 = .ok (.ifCond .eq 5, 3) := by decide +kernel
theorem dL_law_839 : decode cL_law 839 = .ok (.iconst 0, 1) := by decide +kernel
theorem dL_law_840 : decode cL_law 840 = .ok (.ireturn, 1) := by decide +kernel
theorem dL_law_841 : decode cL_law 841 = .ok (.goto 1282, 3) := by decide +kernel
theorem dL_law_844 : decode cL_law 844 = .ok (.aload_n 1, 1) := by decide +kernel
theorem dL_law_845 : decode cL_law 845 = .ok (.aload_n 0, 1) := by decide +kernel
theorem dL_law_846 : decode cL_law 846 = .ok (.iload 5, 2) := by decide +kernel
theorem dL_law_848 : decode cL_law 848 = .ok (.iconst 1, 1) := by decide +kernel
theorem dL_law_849 : decode cL_law 849 = .ok (.iadd, 1) := by decide +kernel
theorem dL_law_850 : decode cL_law 850 = .ok (.iaload, 1) := by decide +kernel
theorem dL_law_851 : decode cL_law 851 = .ok (.aload_n 0, 1) := by decide +kernel
theorem dL_law_852 : decode cL_law 852 = .ok (.iload 5, 2) := by decide +kernel
theorem dL_law_854 : decode cL_law 854 = .ok (.iconst 2, 1) := by decide +kernel
theorem dL_law_855 : decode cL_law 855 = .ok (.iadd, 1) := by decide +kernel
theorem dL_law_856 : decode cL_law 856 = .ok (.iaload, 1) := by decide +kernel
theorem dL_law_857 : decode cL_law 857 = .ok (.aload_n 3, 1) := by decide +kernel
theorem dL_law_858 : decode cL_law 858 = .ok (.invokestatic 139, 3) := by decide +kernel
theorem dL_law_861 : decode cL_law 861 = .ok (.istore 6, 2) := by decide +kernel
theorem dL_law_863 : decode cL_law 863 = .ok (.aload_n 2, 1) := by decide +kernel
theorem dL_law_864 : decode cL_law 864 = .ok (.aload_n 0, 1) := by decide +kernel
theorem dL_law_865 : decode cL_law 865 = .ok (.iload 5, 2) := by decide +kernel
theorem dL_law_867 : decode cL_law 867 = .ok (.iconst 1, 1) := by decide +kernel
theorem dL_law_868 : decode cL_law 868 = .ok (.iadd, 1) := by decide +kernel
theorem dL_law_869 : decode cL_law 869 = .ok (.iaload, 1) := by decide +kernel
theorem dL_law_870 : decode cL_law 870 = .ok (.aload_n 0, 1) := by decide +kernel
theorem dL_law_871 : decode cL_law 871 = .ok (.iload 5, 2) := by decide +kernel
theorem dL_law_873 : decode cL_law 873 = .ok (.iconst 2, 1) := by decide +kernel
theorem dL_law_874 : decode cL_law 874 = .ok (.iadd, 1) := by decide +kernel
theorem dL_law_875 : decode cL_law 875 = .ok (.iaload, 1) := by decide +kernel
theorem dL_law_876 : decode cL_law 876 = .ok (.invokevirtual 141, 3) := by decide +kernel
theorem dL_law_879 : decode cL_law 879 = .ok (.istore 7, 2) := by decide +kernel
theorem dL_law_881 : decode cL_law 881 = .ok (.aload_n 2, 1) := by decide +kernel
theorem dL_law_882 : decode cL_law 882 = .ok (.invokevirtual 110, 3) := by decide +kernel
theorem dL_law_885 : decode cL_law 885 = .ok (.iload 6, 2) := by decide +kernel
theorem dL_law_887 : decode cL_law 887 = .ok (.if_icmp .eq 5, 3) := by decide +kernel
theorem dL_law_890 : decode cL_law 890 = .ok (.iconst 0, 1) := by decide +kernel
theorem dL_law_891 : decode cL_law 891 = .ok (.ireturn, 1) := by decide +kernel
theorem dL_law_892 : decode cL_law 892 = .ok (.iload 6, 2) := by decide +kernel
theorem dL_law_894 : decode cL_law 894 = .ok (.ifCond .ne 15, 3) := by decide +kernel
theorem dL_law_897 : decode cL_law 897 = .ok (.aload_n 3, 1) := by decide +kernel
theorem dL_law_898 : decode cL_law 898 = .ok (.iconst 0, 1) := by decide +kernel
theorem dL_law_899 : decode cL_law 899 = .ok (.laload, 1) := by decide +kernel
theorem dL_law_900 : decode cL_law 900 = .ok (.iload 7, 2) := by decide +kernel
theorem dL_law_902 : decode cL_law 902 = .ok (.i2l, 1) := by decide +kernel
theorem dL_law_903 : decode cL_law 903 = .ok (.lcmp, 1) := by decide +kernel
theorem dL_law_904 : decode cL_law 904 = .ok (.ifCond .eq 5, 3) := by decide +kernel
theorem dL_law_907 : decode cL_law 907 = .ok (.iconst 0, 1) := by decide +kernel
theorem dL_law_908 : decode cL_law 908 = .ok (.ireturn, 1) := by decide +kernel
theorem dL_law_909 : decode cL_law 909 = .ok (.goto 1214, 3) := by decide +kernel
theorem dL_law_912 : decode cL_law 912 = .ok (.aload_n 1, 1) := by decide +kernel
theorem dL_law_913 : decode cL_law 913 = .ok (.aload_n 0, 1) := by decide +kernel
theorem dL_law_914 : decode cL_law 914 = .ok (.iload 5, 2) := by decide +kernel
theorem dL_law_916 : decode cL_law 916 = .ok (.iconst 1, 1) := by decide +kernel
theorem dL_law_917 : decode cL_law 917 = .ok (.iadd, 1) := by decide +kernel
theorem dL_law_918 : decode cL_law 918 = .ok (.iaload, 1) := by decide +kernel
theorem dL_law_919 : decode cL_law 919 = .ok (.aload_n 0, 1) := by decide +kernel
theorem dL_law_920 : decode cL_law 920 = .ok (.iload 5, 2) := by decide +kernel
theorem dL_law_922 : decode cL_law 922 = .ok (.iconst 2, 1) := by decide +kernel
theorem dL_law_923 : decode cL_law 923 = .ok (.iadd, 1) := by decide +kernel
theorem dL_law_924 : decode cL_law 924 = .ok (.iaload, 1) := by decide +kernel
theorem dL_law_925 : decode cL_law 925 = .ok (.aload_n 3, 1) := by decide +kernel
theorem dL_law_926 : decode cL_law 926 = .ok (.invokestatic 142, 3) := by decide +kernel
theorem dL_law_929 : decode cL_law 929 = .ok (.istore 6, 2) := by decide +kernel
theorem dL_law_931 : decode cL_law 931 = .ok (.aload_n 2, 1) := by decide +kernel
theorem dL_law_932 : decode cL_law 932 = .ok (.aload_n 0, 1) := by decide +kernel
theorem dL_law_933 : decode cL_law 933 = .ok (.iload 5, 2) := by decide +kernel
theorem dL_law_935 : decode cL_law 935 = .ok (.iconst 1, 1) := by decide +kernel
theorem dL_law_936 : decode cL_law 936 = .ok (.iadd, 1) := by decide +kernel
theorem dL_law_937 : decode cL_law 937 = .ok (.iaload, 1) := by decide +kernel
theorem dL_law_938 : decode cL_law 938 = .ok (.aload_n 0, 1) := by decide +kernel
theorem dL_law_939 : decode cL_law 939 = .ok (.iload 5, 2) := by decide +kernel
theorem dL_law_941 : decode cL_law 941 = .ok (.iconst 2, 1) := by decide +kernel
theorem dL_law_942 : decode cL_law 942 = .ok (.iadd, 1) := by decide +kernel
theorem dL_law_943 : decode cL_law 943 = .ok (.iaload, 1) := by decide +kernel
theorem dL_law_944 : decode cL_law 944 = .ok (.invokevirtual 144, 3) := by decide +kernel
theorem dL_law_947 : decode cL_law 947 = .ok (.istore 7, 2) := by decide +kernel
theorem dL_law_949 : decode cL_law 949 = .ok (.aload_n 2, 1) := by decide +kernel
theorem dL_law_950 : decode cL_law 950 = .ok (.invokevirtual 110, 3) := by decide +kernel
theorem dL_law_953 : decode cL_law 953 = .ok (.iload 6, 2) := by decide +kernel
theorem dL_law_955 : decode cL_law 955 = .ok (.if_icmp .eq 5, 3) := by decide +kernel
theorem dL_law_958 : decode cL_law 958 = .ok (.iconst 0, 1) := by decide +kernel
theorem dL_law_959 : decode cL_law 959 = .ok (.ireturn, 1) := by decide +kernel
theorem dL_law_960 : decode cL_law 960 = .ok (.iload 6, 2) := by decide +kernel
theorem dL_law_962 : decode cL_law 962 = .ok (.ifCond .ne 15, 3) := by decide +kernel
theorem dL_law_965 : decode cL_law 965 = .ok (.aload_n 3, 1) := by decide +kernel
theorem dL_law_966 : decode cL_law 966 = .ok (.iconst 0, 1) := by decide +kernel
theorem dL_law_967 : decode cL_law 967 = .ok (.laload, 1) := by decide +kernel
theorem dL_law_968 : decode cL_law 968 = .ok (.iload 7, 2) := by decide +kernel
theorem dL_law_970 : decode cL_law 970 = .ok (.i2l, 1) := by decide +kernel
theorem dL_law_971 : decode cL_law 971 = .ok (.lcmp, 1) := by decide +kernel
theorem dL_law_972 : decode cL_law 972 = .ok (.ifCond .eq 5, 3) := by decide +kernel
theorem dL_law_975 : decode cL_law 975 = .ok (.iconst 0, 1) := by decide +kernel
theorem dL_law_976 : decode cL_law 976 = .ok (.ireturn, 1) := by decide +kernel
theorem dL_law_977 : decode cL_law 977 = .ok (.goto 1146, 3) := by decide +kernel
theorem dL_law_980 : decode cL_law 980 = .ok (.aload_n 1, 1) := by decide +kernel
theorem dL_law_981 : decode cL_law 981 = .ok (.aload_n 3, 1) := by decide +kernel
theorem dL_law_982 : decode cL_law 982 = .ok (.invokestatic 145, 3) := by decide +kernel
theorem dL_law_985 : decode cL_law 985 = .ok (.istore 6, 2) := by decide +kernel
theorem dL_law_987 : decode cL_law 987 = .ok (.aload_n 2, 1) := by decide +kernel
theorem dL_law_988 : decode cL_law 988 = .ok (.invokevirtual 148, 3) := by decide +kernel
theorem dL_law_991 : decode cL_law 991 = .ok (.istore 7, 2) := by decide +kernel
theorem dL_law_993 : decode cL_law 993 = .ok (.aload_n 2, 1) := by decide +kernel
theorem dL_law_994 : decode cL_law 994 = .ok (.invokevirtual 110, 3) := by decide +kernel
theorem dL_law_997 : decode cL_law 997 = .ok (.iload 6, 2) := by decide +kernel
theorem dL_law_999 : decode cL_law 999 = .ok (.if_icmp .eq 5, 3) := by decide +kernel
theorem dL_law_1002 : decode cL_law 1002 = .ok (.iconst 0, 1) := by decide +kernel
theorem dL_law_1003 : decode cL_law 1003 = .ok (.ireturn, 1) := by decide +kernel
theorem dL_law_1004 : decode cL_law 1004 = .ok (.iload 6, 2) := by decide +kernel
theorem dL_law_1006 : decode cL_law 1006 = .ok (.ifCond .ne 15, 3) := by decide +kernel
theorem dL_law_1009 : decode cL_law 1009 = .ok (.aload_n 3, 1) := by decide +kernel
theorem dL_law_1010 : decode cL_law 1010 = .ok (.iconst 0, 1) := by decide +kernel
theorem dL_law_1011 : decode cL_law 1011 = .ok (.laload, 1) := by decide +kernel
theorem dL_law_1012 : decode cL_law 1012 = .ok (.iload 7, 2) := by decide +kernel
theorem dL_law_1014 : decode cL_law 1014 = .ok (.i2l, 1) := by decide +kernel
theorem dL_law_1015 : decode cL_law 1015 = .ok (.lcmp, 1) := by decide +kernel
theorem dL_law_1016 : decode cL_law 1016 = .ok (.ifCond .eq 5, 3) := by decide +kernel
theorem dL_law_1019 : decode cL_law 1019 = .ok (.iconst 0, 1) := by decide +kernel
theorem dL_law_1020 : decode cL_law 1020 = .ok (.ireturn, 1) := by decide +kernel
theorem dL_law_1021 : decode cL_law 1021 = .ok (.goto 1102, 3) := by decide +kernel
theorem dL_law_1024 : decode cL_law 1024 = .ok (.aload_n 1, 1) := by decide +kernel
theorem dL_law_1025 : decode cL_law 1025 = .ok (.invokevirtual 149, 3) := by decide +kernel
theorem dL_law_1028 : decode cL_law 1028 = .ok (.aload_n 2, 1) := by decide +kernel
theorem dL_law_1029 : decode cL_law 1029 = .ok (.invokevirtual 152, 3) := by decide +kernel
theorem dL_law_1032 : decode cL_law 1032 = .ok (.if_icmp .eq 1091, 3) := by decide +kernel
theorem dL_law_1035 : decode cL_law 1035 = .ok (.iconst 0, 1) := by decide +kernel
theorem dL_law_1036 : decode cL_law 1036 = .ok (.ireturn, 1) := by decide +kernel
theorem dL_law_1037 : decode cL_law 1037 = .ok (.aload_n 1, 1) := by decide +kernel
theorem dL_law_1038 : decode cL_law 1038 = .ok (.invokevirtual 153, 3) := by decide +kernel
theorem dL_law_1041 : decode cL_law 1041 = .ok (.aload_n 2, 1) := by decide +kernel
theorem dL_law_1042 : decode cL_law 1042 = .ok (.invokevirtual 156, 3) := by decide +kernel
theorem dL_law_1045 : decode cL_law 1045 = .ok (.if_icmp .eq 1078, 3) := by decide +kernel
theorem dL_law_1048 : decode cL_law 1048 = .ok (.iconst 0, 1) := by decide +kernel
theorem dL_law_1049 : decode cL_law 1049 = .ok (.ireturn, 1) := by decide +kernel
theorem dL_law_1050 : decode cL_law 1050 = .ok (.aload_n 1, 1) := by decide +kernel
theorem dL_law_1051 : decode cL_law 1051 = .ok (.invokevirtual 157, 3) := by decide +kernel
theorem dL_law_1054 : decode cL_law 1054 = .ok (.aload_n 2, 1) := by decide +kernel
theorem dL_law_1055 : decode cL_law 1055 = .ok (.invokevirtual 160, 3) := by decide +kernel
theorem dL_law_1058 : decode cL_law 1058 = .ok (.if_icmp .eq 1065, 3) := by decide +kernel
theorem dL_law_1061 : decode cL_law 1061 = .ok (.iconst 0, 1) := by decide +kernel
theorem dL_law_1062 : decode cL_law 1062 = .ok (.ireturn, 1) := by decide +kernel
theorem dL_law_1063 : decode cL_law 1063 = .ok (.aload_n 1, 1) := by decide +kernel
theorem dL_law_1064 : decode cL_law 1064 = .ok (.invokevirtual 161, 3) := by decide +kernel
theorem dL_law_1067 : decode cL_law 1067 = .ok (.aload_n 2, 1) := by decide +kernel
theorem dL_law_1068 : decode cL_law 1068 = .ok (.invokevirtual 164, 3) := by decide +kernel
theorem dL_law_1071 : decode cL_law 1071 = .ok (.if_icmp .eq 1052, 3) := by decide +kernel
theorem dL_law_1074 : decode cL_law 1074 = .ok (.iconst 0, 1) := by decide +kernel
theorem dL_law_1075 : decode cL_law 1075 = .ok (.ireturn, 1) := by decide +kernel
theorem dL_law_1076 : decode cL_law 1076 = .ok (.aload_n 1, 1) := by decide +kernel
theorem dL_law_1077 : decode cL_law 1077 = .ok (.invokevirtual 165, 3) := by decide +kernel
theorem dL_law_1080 : decode cL_law 1080 = .ok (.aload_n 2, 1) := by decide +kernel
theorem dL_law_1081 : decode cL_law 1081 = .ok (.invokevirtual 168, 3) := by decide +kernel
theorem dL_law_1084 : decode cL_law 1084 = .ok (.if_icmp .eq 1039, 3) := by decide +kernel
theorem dL_law_1087 : decode cL_law 1087 = .ok (.iconst 0, 1) := by decide +kernel
theorem dL_law_1088 : decode cL_law 1088 = .ok (.ireturn, 1) := by decide +kernel
theorem dL_law_1089 : decode cL_law 1089 = .ok (.aload_n 1, 1) := by decide +kernel
theorem dL_law_1090 : decode cL_law 1090 = .ok (.invokevirtual 169, 3) := by decide +kernel
theorem dL_law_1093 : decode cL_law 1093 = .ok (.aload_n 2, 1) := by decide +kernel
theorem dL_law_1094 : decode cL_law 1094 = .ok (.invokevirtual 172, 3) := by decide +kernel
theorem dL_law_1097 : decode cL_law 1097 = .ok (.if_icmp .eq 1026, 3) := by decide +kernel
theorem dL_law_1100 : decode cL_law 1100 = .ok (.iconst 0, 1) := by decide +kernel
theorem dL_law_1101 : decode cL_law 1101 = .ok (.ireturn, 1) := by decide +kernel
theorem dL_law_1102 : decode cL_law 1102 = .ok (.aload_n 1, 1) := by decide +kernel
theorem dL_law_1103 : decode cL_law 1103 = .ok (.invokevirtual 173, 3) := by decide +kernel
theorem dL_law_1106 : decode cL_law 1106 = .ok (.aload_n 2, 1) := by decide +kernel
theorem dL_law_1107 : decode cL_law 1107 = .ok (.invokevirtual 176, 3) := by decide +kernel
theorem dL_law_1110 : decode cL_law 1110 = .ok (.if_icmp .eq 1013, 3) := by decide +kernel
theorem dL_law_1113 : decode cL_law 1113 = .ok (.iconst 0, 1) := by decide +kernel
theorem dL_law_1114 : decode cL_law 1114 = .ok (.ireturn, 1) := by decide +kernel
theorem dL_law_1115 : decode cL_law 1115 = .ok (.aload_n 1, 1) := by decide +kernel
theorem dL_law_1116 : decode cL_law 1116 = .ok (.invokevirtual 177, 3) := by decide +kernel
theorem dL_law_1119 : decode cL_law 1119 = .ok (.aload_n 2, 1) := by decide +kernel
theorem dL_law_1120 : decode cL_law 1120 = .ok (.invokevirtual 180, 3) := by decide +kernel
theorem dL_law_1123 : decode cL_law 1123 = .ok (.if_icmp .eq 1000, 3) := by decide +kernel
theorem dL_law_1126 : decode cL_law 1126 = .ok (.iconst 0, 1) := by decide +kernel
theorem dL_law_1127 : decode cL_law 1127 = .ok (.ireturn, 1) := by decide +kernel
theorem dL_law_1128 : decode cL_law 1128 = .ok (.aload_n 1, 1) := by decide +kernel
theorem dL_law_1129 : decode cL_law 1129 = .ok (.invokevirtual 181, 3) := by decide +kernel
theorem dL_law_1132 : decode cL_law 1132 = .ok (.aload_n 2, 1) := by decide +kernel
theorem dL_law_1133 : decode cL_law 1133 = .ok (.invokevirtual 184, 3) := by decide +kernel
theorem dL_law_1136 : decode cL_law 1136 = .ok (.if_icmp .eq 987, 3) := by decide +kernel
theorem dL_law_1139 : decode cL_law 1139 = .ok (.iconst 0, 1) := by decide +kernel
theorem dL_law_1140 : decode cL_law 1140 = .ok (.ireturn, 1) := by decide +kernel
theorem dL_law_1141 : decode cL_law 1141 = .ok (.aload_n 1, 1) := by decide +kernel
theorem dL_law_1142 : decode cL_law 1142 = .ok (.aload_n 0, 1) := by decide +kernel
theorem dL_law_1143 : decode cL_law 1143 = .ok (.iload 5, 2) := by decide +kernel
theorem dL_law_1145 : decode cL_law 1145 = .ok (.iconst 1, 1) := by decide +kernel
theorem dL_law_1146 : decode cL_law 1146 = .ok (.iadd, 1) := by decide +kernel
theorem dL_law_1147 : decode cL_law 1147 = .ok (.iaload, 1) := by decide +kernel
theorem dL_law_1148 : decode cL_law 1148 = .ok (.aload_n 3, 1) := by decide +kernel
theorem dL_law_1149 : decode cL_law 1149 = .ok (.invokestatic 185, 3) := by decide +kernel
theorem dL_law_1152 : decode cL_law 1152 = .ok (.istore 6, 2) := by decide +kernel
theorem dL_law_1154 : decode cL_law 1154 = .ok (.aload_n 2, 1) := by decide +kernel
theorem dL_law_1155 : decode cL_law 1155 = .ok (.aload_n 0, 1) := by decide +kernel
theorem dL_law_1156 : decode cL_law 1156 = .ok (.iload 5, 2) := by decide +kernel
theorem dL_law_1158 : decode cL_law 1158 = .ok (.iconst 1, 1) := by decide +kernel
theorem dL_law_1159 : decode cL_law 1159 = .ok (.iadd, 1) := by decide +kernel
theorem dL_law_1160 : decode cL_law 1160 = .ok (.iaload, 1) := by decide +kernel
theorem dL_law_1161 : decode cL_law 1161 = .ok (.invokevirtual 188, 3) := by decide +kernel
theorem dL_law_1164 : decode cL_law 1164 = .ok (.istore 7, 2) := by decide +kernel
theorem dL_law_1166 : decode cL_law 1166 = .ok (.aload_n 2, 1) := by decide +kernel
theorem dL_law_1167 : decode cL_law 1167 = .ok (.invokevirtual 110, 3) := by decide +kernel
theorem dL_law_1170 : decode cL_law 1170 = .ok (.iload 6, 2) := by decide +kernel
theorem dL_law_1172 : decode cL_law 1172 = .ok (.if_icmp .eq 5, 3) := by decide +kernel
theorem dL_law_1175 : decode cL_law 1175 = .ok (.iconst 0, 1) := by decide +kernel
theorem dL_law_1176 : decode cL_law 1176 = .ok (.ireturn, 1) := by decide +kernel
theorem dL_law_1177 : decode cL_law 1177 = .ok (.iload 6, 2) := by decide +kernel
theorem dL_law_1179 : decode cL_law 1179 = .ok (.ifCond .ne 15, 3) := by decide +kernel
theorem dL_law_1182 : decode cL_law 1182 = .ok (.aload_n 3, 1) := by decide +kernel
theorem dL_law_1183 : decode cL_law 1183 = .ok (.iconst 0, 1) := by decide +kernel
theorem dL_law_1184 : decode cL_law 1184 = .ok (.laload, 1) := by decide +kernel
theorem dL_law_1185 : decode cL_law 1185 = .ok (.iload 7, 2) := by decide +kernel
theorem dL_law_1187 : decode cL_law 1187 = .ok (.i2l, 1) := by decide +kernel
theorem dL_law_1188 : decode cL_law 1188 = .ok (.lcmp, 1) := by decide +kernel
theorem dL_law_1189 : decode cL_law 1189 = .ok (.ifCond .eq 5, 3) := by decide +kernel
theorem dL_law_1192 : decode cL_law 1192 = .ok (.iconst 0, 1) := by decide +kernel
theorem dL_law_1193 : decode cL_law 1193 = .ok (.ireturn, 1) := by decide +kernel
theorem dL_law_1194 : decode cL_law 1194 = .ok (.goto 929, 3) := by decide +kernel
theorem dL_law_1197 : decode cL_law 1197 = .ok (.aload_n 1, 1) := by decide +kernel
theorem dL_law_1198 : decode cL_law 1198 = .ok (.invokevirtual 189, 3) := by decide +kernel
theorem dL_law_1201 : decode cL_law 1201 = .ok (.aload_n 2, 1) := by decide +kernel
theorem dL_law_1202 : decode cL_law 1202 = .ok (.invokevirtual 192, 3) := by decide +kernel
theorem dL_law_1205 : decode cL_law 1205 = .ok (.if_icmp .eq 918, 3) := by decide +kernel
theorem dL_law_1208 : decode cL_law 1208 = .ok (.iconst 0, 1) := by decide +kernel
theorem dL_law_1209 : decode cL_law 1209 = .ok (.ireturn, 1) := by decide +kernel
theorem dL_law_1210 : decode cL_law 1210 = .ok (.aload_n 1, 1) := by decide +kernel
theorem dL_law_1211 : decode cL_law 1211 = .ok (.aload_n 0, 1) := by decide +kernel
theorem dL_law_1212 : decode cL_law 1212 = .ok (.iload 5, 2) := by decide +kernel
theorem dL_law_1214 : decode cL_law 1214 = .ok (.iconst 1, 1) := by decide +kernel
theorem dL_law_1215 : decode cL_law 1215 = .ok (.iadd, 1) := by decide +kernel
theorem dL_law_1216 : decode cL_law 1216 = .ok (.iaload, 1) := by decide +kernel
theorem dL_law_1217 : decode cL_law 1217 = .ok (.aload_n 3, 1) := by decide +kernel
theorem dL_law_1218 : decode cL_law 1218 = .ok (.invokestatic 193, 3) := by decide +kernel
theorem dL_law_1221 : decode cL_law 1221 = .ok (.istore 6, 2) := by decide +kernel
theorem dL_law_1223 : decode cL_law 1223 = .ok (.aload_n 2, 1) := by decide +kernel
theorem dL_law_1224 : decode cL_law 1224 = .ok (.aload_n 0, 1) := by decide +kernel
theorem dL_law_1225 : decode cL_law 1225 = .ok (.iload 5, 2) := by decide +kernel
theorem dL_law_1227 : decode cL_law 1227 = .ok (.iconst 1, 1) := by decide +kernel
theorem dL_law_1228 : decode cL_law 1228 = .ok (.iadd, 1) := by decide +kernel
theorem dL_law_1229 : decode cL_law 1229 = .ok (.iaload, 1) := by decide +kernel
theorem dL_law_1230 : decode cL_law 1230 = .ok (.invokevirtual 195, 3) := by decide +kernel
theorem dL_law_1233 : decode cL_law 1233 = .ok (.istore 7, 2) := by decide +kernel
theorem dL_law_1235 : decode cL_law 1235 = .ok (.aload_n 2, 1) := by decide +kernel
theorem dL_law_1236 : decode cL_law 1236 = .ok (.invokevirtual 110, 3) := by decide +kernel
theorem dL_law_1239 : decode cL_law 1239 = .ok (.iload 6, 2) := by decide +kernel
theorem dL_law_1241 : decode cL_law 1241 = .ok (.if_icmp .eq 5, 3) := by decide +kernel
theorem dL_law_1244 : decode cL_law 1244 = .ok (.iconst 0, 1) := by decide +kernel
theorem dL_law_1245 : decode cL_law 1245 = .ok (.ireturn, 1) := by decide +kernel
theorem dL_law_1246 : decode cL_law 1246 = .ok (.iload 6, 2) := by decide +kernel
theorem dL_law_1248 : decode cL_law 1248 = .ok (.ifCond .ne 15, 3) := by decide +kernel
theorem dL_law_1251 : decode cL_law 1251 = .ok (.aload_n 3, 1) := by decide +kernel
theorem dL_law_1252 : decode cL_law 1252 = .ok (.iconst 0, 1) := by decide +kernel
theorem dL_law_1253 : decode cL_law 1253 = .ok (.laload, 1) := by decide +kernel
theorem dL_law_1254 : decode cL_law 1254 = .ok (.iload 7, 2) := by decide +kernel
theorem dL_law_1256 : decode cL_law 1256 = .ok (.i2l, 1) := by decide +kernel
theorem dL_law_1257 : decode cL_law 1257 = .ok (.lcmp, 1) := by decide +kernel
theorem dL_law_1258 : decode cL_law 1258 = .ok (.ifCond .eq 5, 3) := by decide +kernel
theorem dL_law_1261 : decode cL_law 1261 = .ok (.iconst 0, 1) := by decide +kernel
theorem dL_law_1262 : decode cL_law 1262 = .ok (.ireturn, 1) := by decide +kernel
theorem dL_law_1263 : decode cL_law 1263 = .ok (.goto 860, 3) := by decide +kernel
theorem dL_law_1266 : decode cL_law 1266 = .ok (.aload_n 1, 1) := by decide +kernel
theorem dL_law_1267 : decode cL_law 1267 = .ok (.aload_n 0, 1) := by decide +kernel
theorem dL_law_1268 : decode cL_law 1268 = .ok (.iload 5, 2) := by decide +kernel
theorem dL_law_1270 : decode cL_law 1270 = .ok (.iconst 1, 1) := by decide +kernel
theorem dL_law_1271 : decode cL_law 1271 = .ok (.iadd, 1) := by decide +kernel
theorem dL_law_1272 : decode cL_law 1272 = .ok (.iaload, 1) := by decide +kernel
theorem dL_law_1273 : decode cL_law 1273 = .ok (.aload_n 3, 1) := by decide +kernel
theorem dL_law_1274 : decode cL_law 1274 = .ok (.invokestatic 196, 3) := by decide +kernel
theorem dL_law_1277 : decode cL_law 1277 = .ok (.istore 6, 2) := by decide +kernel
theorem dL_law_1279 : decode cL_law 1279 = .ok (.aload_n 2, 1) := by decide +kernel
theorem dL_law_1280 : decode cL_law 1280 = .ok (.aload_n 0, 1) := by decide +kernel
theorem dL_law_1281 : decode cL_law 1281 = .ok (.iload 5, 2) := by decide +kernel
theorem dL_law_1283 : decode cL_law 1283 = .ok (.iconst 1, 1) := by decide +kernel
theorem dL_law_1284 : decode cL_law 1284 = .ok (.iadd, 1) := by decide +kernel
theorem dL_law_1285 : decode cL_law 1285 = .ok (.iaload, 1) := by decide +kernel
theorem dL_law_1286 : decode cL_law 1286 = .ok (.invokevirtual 198, 3) := by decide +kernel
theorem dL_law_1289 : decode cL_law 1289 = .ok (.istore 7, 2) := by decide +kernel
theorem dL_law_1291 : decode cL_law 1291 = .ok (.aload_n 2, 1) := by decide +kernel
theorem dL_law_1292 : decode cL_law 1292 = .ok (.invokevirtual 110, 3) := by decide +kernel
theorem dL_law_1295 : decode cL_law 1295 = .ok (.iload 6, 2) := by decide +kernel
theorem dL_law_1297 : decode cL_law 1297 = .ok (.if_icmp .eq 5, 3) := by decide +kernel
theorem dL_law_1300 : decode cL_law 1300 = .ok (.iconst 0, 1) := by decide +kernel
theorem dL_law_1301 : decode cL_law 1301 = .ok (.ireturn, 1) := by decide +kernel
theorem dL_law_1302 : decode cL_law 1302 = .ok (.iload 6, 2) := by decide +kernel
theorem dL_law_1304 : decode cL_law 1304 = .ok (.ifCond .ne 15, 3) := by decide +kernel
theorem dL_law_1307 : decode cL_law 1307 = .ok (.aload_n 3, 1) := by decide +kernel
theorem dL_law_1308 : decode cL_law 1308 = .ok (.iconst 0, 1) := by decide +kernel
theorem dL_law_1309 : decode cL_law 1309 = .ok (.laload, 1) := by decide +kernel
theorem dL_law_1310 : decode cL_law 1310 = .ok (.iload 7, 2) := by decide +kernel
theorem dL_law_1312 : decode cL_law 1312 = .ok (.i2l, 1) := by decide +kernel
theorem dL_law_1313 : decode cL_law 1313 = .ok (.lcmp, 1) := by decide +kernel
theorem dL_law_1314 : decode cL_law 1314 = .ok (.ifCond .eq 5, 3) := by decide +kernel
theorem dL_law_1317 : decode cL_law 1317 = .ok (.iconst 0, 1) := by decide +kernel
theorem dL_law_1318 : decode cL_law 1318 = .ok (.ireturn, 1) := by decide +kernel
theorem dL_law_1319 : decode cL_law 1319 = .ok (.goto 804, 3) := by decide +kernel
theorem dL_law_1322 : decode cL_law 1322 = .ok (.aload_n 1, 1) := by decide +kernel
theorem dL_law_1323 : decode cL_law 1323 = .ok (.aload_n 0, 1) := by decide +kernel
theorem dL_law_1324 : decode cL_law 1324 = .ok (.iload 5, 2) := by decide +kernel
theorem dL_law_1326 : decode cL_law 1326 = .ok (.iconst 1, 1) := by decide +kernel
theorem dL_law_1327 : decode cL_law 1327 = .ok (.iadd, 1) := by decide +kernel
theorem dL_law_1328 : decode cL_law 1328 = .ok (.iaload, 1) := by decide +kernel
theorem dL_law_1329 : decode cL_law 1329 = .ok (.aload_n 0, 1) := by decide +kernel
theorem dL_law_1330 : decode cL_law 1330 = .ok (.iload 5, 2) := by decide +kernel
theorem dL_law_1332 : decode cL_law 1332 = .ok (.iconst 2, 1) := by decide +kernel
theorem dL_law_1333 : decode cL_law 1333 = .ok (.iadd, 1) := by decide +kernel
theorem dL_law_1334 : decode cL_law 1334 = .ok (.iaload, 1) := by decide +kernel
theorem dL_law_1335 : decode cL_law 1335 = .ok (.aload_n 3, 1) := by decide +kernel
theorem dL_law_1336 : decode cL_law 1336 = .ok (.invokestatic 199, 3) := by decide +kernel
theorem dL_law_1339 : decode cL_law 1339 = .ok (.istore 6, 2) := by decide +kernel
theorem dL_law_1341 : decode cL_law 1341 = .ok (.aload_n 2, 1) := by decide +kernel
theorem dL_law_1342 : decode cL_law 1342 = .ok (.aload_n 0, 1) := by decide +kernel
theorem dL_law_1343 : decode cL_law 1343 = .ok (.iload 5, 2) := by decide +kernel
theorem dL_law_1345 : decode cL_law 1345 = .ok (.iconst 1, 1) := by decide +kernel
theorem dL_law_1346 : decode cL_law 1346 = .ok (.iadd, 1) := by decide +kernel
theorem dL_law_1347 : decode cL_law 1347 = .ok (.iaload, 1) := by decide +kernel
theorem dL_law_1348 : decode cL_law 1348 = .ok (.aload_n 0, 1) := by decide +kernel
theorem dL_law_1349 : decode cL_law 1349 = .ok (.iload 5, 2) := by decide +kernel
theorem dL_law_1351 : decode cL_law 1351 = .ok (.iconst 2, 1) := by decide +kernel
theorem dL_law_1352 : decode cL_law 1352 = .ok (.iadd, 1) := by decide +kernel
theorem dL_law_1353 : decode cL_law 1353 = .ok (.iaload, 1) := by decide +kernel
theorem dL_law_1354 : decode cL_law 1354 = .ok (.invokevirtual 201, 3) := by decide +kernel
theorem dL_law_1357 : decode cL_law 1357 = .ok (.istore 7, 2) := by decide +kernel
theorem dL_law_1359 : decode cL_law 1359 = .ok (.aload_n 2, 1) := by decide +kernel
theorem dL_law_1360 : decode cL_law 1360 = .ok (.invokevirtual 110, 3) := by decide +kernel
theorem dL_law_1363 : decode cL_law 1363 = .ok (.iload 6, 2) := by decide +kernel
theorem dL_law_1365 : decode cL_law 1365 = .ok (.if_icmp .eq 5, 3) := by decide +kernel
theorem dL_law_1368 : decode cL_law 1368 = .ok (.iconst 0, 1) := by decide +kernel
theorem dL_law_1369 : decode cL_law 1369 = .ok (.ireturn, 1) := by decide +kernel
theorem dL_law_1370 : decode cL_law 1370 = .ok (.iload 6, 2) := by decide +kernel
theorem dL_law_1372 : decode cL_law 1372 = .ok (.ifCond .ne 15, 3) := by decide +kernel
theorem dL_law_1375 : decode cL_law 1375 = .ok (.aload_n 3, 1) := by decide +kernel
theorem dL_law_1376 : decode cL_law 1376 = .ok (.iconst 0, 1) := by decide +kernel
theorem dL_law_1377 : decode cL_law 1377 = .ok (.laload, 1) := by decide +kernel
theorem dL_law_1378 : decode cL_law 1378 = .ok (.iload 7, 2) := by decide +kernel
theorem dL_law_1380 : decode cL_law 1380 = .ok (.i2l, 1) := by decide +kernel
theorem dL_law_1381 : decode cL_law 1381 = .ok (.lcmp, 1) := by decide +kernel
theorem dL_law_1382 : decode cL_law 1382 = .ok (.ifCond .eq 5, 3) := by decide +kernel
theorem dL_law_1385 : decode cL_law 1385 = .ok (.iconst 0, 1) := by decide +kernel
theorem dL_law_1386 : decode cL_law 1386 = .ok (.ireturn, 1) := by decide +kernel
theorem dL_law_1387 : decode cL_law 1387 = .ok (.goto 736, 3) := by decide +kernel
theorem dL_law_1390 : decode cL_law 1390 = .ok (.aload_n 1, 1) := by decide +kernel
theorem dL_law_1391 : decode cL_law 1391 = .ok (.aload_n 0, 1) := by decide +kernel
theorem dL_law_1392 : decode cL_law 1392 = .ok (.iload 5, 2) := by decide +kernel
theorem dL_law_1394 : decode cL_law 1394 = .ok (.iconst 1, 1) := by decide +kernel
theorem dL_law_1395 : decode cL_law 1395 = .ok (.iadd, 1) := by decide +kernel
theorem dL_law_1396 : decode cL_law 1396 = .ok (.iaload, 1) := by decide +kernel
theorem dL_law_1397 : decode cL_law 1397 = .ok (.aload_n 0, 1) := by decide +kernel
theorem dL_law_1398 : decode cL_law 1398 = .ok (.iload 5, 2) := by decide +kernel
theorem dL_law_1400 : decode cL_law 1400 = .ok (.iconst 2, 1) := by decide +kernel
theorem dL_law_1401 : decode cL_law 1401 = .ok (.iadd, 1) := by decide +kernel
theorem dL_law_1402 : decode cL_law 1402 = .ok (.iaload, 1) := by decide +kernel
theorem dL_law_1403 : decode cL_law 1403 = .ok (.aload_n 3, 1) := by decide +kernel
theorem dL_law_1404 : decode cL_law 1404 = .ok (.invokestatic 202, 3) := by decide +kernel
theorem dL_law_1407 : decode cL_law 1407 = .ok (.istore 6, 2) := by decide +kernel
theorem dL_law_1409 : decode cL_law 1409 = .ok (.aload_n 2, 1) := by decide +kernel
theorem dL_law_1410 : decode cL_law 1410 = .ok (.aload_n 0, 1) := by decide +kernel
theorem dL_law_1411 : decode cL_law 1411 = .ok (.iload 5, 2) := by decide +kernel
theorem dL_law_1413 : decode cL_law 1413 = .ok (.iconst 1, 1) := by decide +kernel
theorem dL_law_1414 : decode cL_law 1414 = .ok (.iadd, 1) := by decide +kernel
theorem dL_law_1415 : decode cL_law 1415 = .ok (.iaload, 1) := by decide +kernel
theorem dL_law_1416 : decode cL_law 1416 = .ok (.aload_n 0, 1) := by decide +kernel
theorem dL_law_1417 : decode cL_law 1417 = .ok (.iload 5, 2) := by decide +kernel
theorem dL_law_1419 : decode cL_law 1419 = .ok (.iconst 2, 1) := by decide +kernel
theorem dL_law_1420 : decode cL_law 1420 = .ok (.iadd, 1) := by decide +kernel
theorem dL_law_1421 : decode cL_law 1421 = .ok (.iaload, 1) := by decide +kernel
theorem dL_law_1422 : decode cL_law 1422 = .ok (.invokevirtual 204, 3) := by decide +kernel
theorem dL_law_1425 : decode cL_law 1425 = .ok (.istore 7, 2) := by decide +kernel
theorem dL_law_1427 : decode cL_law 1427 = .ok (.aload_n 2, 1) := by decide +kernel
theorem dL_law_1428 : decode cL_law 1428 = .ok (.invokevirtual 110, 3) := by decide +kernel
theorem dL_law_1431 : decode cL_law 1431 = .ok (.iload 6, 2) := by decide +kernel
theorem dL_law_1433 : decode cL_law 1433 = .ok (.if_icmp .eq 5, 3) := by decide +kernel
theorem dL_law_1436 : decode cL_law 1436 = .ok (.iconst 0, 1) := by decide +kernel
theorem dL_law_1437 : decode cL_law 1437 = .ok (.ireturn, 1) := by decide +kernel
theorem dL_law_1438 : decode cL_law 1438 = .ok (.iload 6, 2) := by decide +kernel
theorem dL_law_1440 : decode cL_law 1440 = .ok (.ifCond .ne 15, 3) := by decide +kernel
theorem dL_law_1443 : decode cL_law 1443 = .ok (.aload_n 3, 1) := by decide +kernel
theorem dL_law_1444 : decode cL_law 1444 = .ok (.iconst 0, 1) := by decide +kernel
theorem dL_law_1445 : decode cL_law 1445 = .ok (.laload, 1) := by decide +kernel
theorem dL_law_1446 : decode cL_law 1446 = .ok (.iload 7, 2) := by decide +kernel
theorem dL_law_1448 : decode cL_law 1448 = .ok (.i2l, 1) := by decide +kernel
theorem dL_law_1449 : decode cL_law 1449 = .ok (.lcmp, 1) := by decide +kernel
theorem dL_law_1450 : decode cL_law 1450 = .ok (.ifCond .eq 5, 3) := by decide +kernel
theorem dL_law_1453 : decode cL_law 1453 = .ok (.iconst 0, 1) := by decide +kernel
theorem dL_law_1454 : decode cL_law 1454 = .ok (.ireturn, 1) := by decide +kernel
theorem dL_law_1455 : decode cL_law 1455 = .ok (.goto 668, 3) := by decide +kernel
theorem dL_law_1458 : decode cL_law 1458 = .ok (.aload_n 1, 1) := by decide +kernel
theorem dL_law_1459 : decode cL_law 1459 = .ok (.aload_n 0, 1) := by decide +kernel
theorem dL_law_1460 : decode cL_law 1460 = .ok (.iload 5, 2) := by decide +kernel
theorem dL_law_1462 : decode cL_law 1462 = .ok (.iconst 1, 1) := by decide +kernel
theorem dL_law_1463 : decode cL_law 1463 = .ok (.iadd, 1) := by decide +kernel
theorem dL_law_1464 : decode cL_law 1464 = .ok (.iaload, 1) := by decide +kernel
theorem dL_law_1465 : decode cL_law 1465 = .ok (.aload_n 0, 1) := by decide +kernel
theorem dL_law_1466 : decode cL_law 1466 = .ok (.iload 5, 2) := by decide +kernel
theorem dL_law_1468 : decode cL_law 1468 = .ok (.iconst 2, 1) := by decide +kernel
theorem dL_law_1469 : decode cL_law 1469 = .ok (.iadd, 1) := by decide +kernel
theorem dL_law_1470 : decode cL_law 1470 = .ok (.iaload, 1) := by decide +kernel
theorem dL_law_1471 : decode cL_law 1471 = .ok (.aload_n 3, 1) := by decide +kernel
theorem dL_law_1472 : decode cL_law 1472 = .ok (.invokestatic 205, 3) := by decide +kernel
theorem dL_law_1475 : decode cL_law 1475 = .ok (.istore 6, 2) := by decide +kernel
theorem dL_law_1477 : decode cL_law 1477 = .ok (.aload_n 2, 1) := by decide +kernel
theorem dL_law_1478 : decode cL_law 1478 = .ok (.aload_n 0, 1) := by decide +kernel
theorem dL_law_1479 : decode cL_law 1479 = .ok (.iload 5, 2) := by decide +kernel
theorem dL_law_1481 : decode cL_law 1481 = .ok (.iconst 1, 1) := by decide +kernel
theorem dL_law_1482 : decode cL_law 1482 = .ok (.iadd, 1) := by decide +kernel
theorem dL_law_1483 : decode cL_law 1483 = .ok (.iaload, 1) := by decide +kernel
theorem dL_law_1484 : decode cL_law 1484 = .ok (.aload_n 0, 1) := by decide +kernel
theorem dL_law_1485 : decode cL_law 1485 = .ok (.iload 5, 2) := by decide +kernel
theorem dL_law_1487 : decode cL_law 1487 = .ok (.iconst 2, 1) := by decide +kernel
theorem dL_law_1488 : decode cL_law 1488 = .ok (.iadd, 1) := by decide +kernel
theorem dL_law_1489 : decode cL_law 1489 = .ok (.iaload, 1) := by decide +kernel
theorem dL_law_1490 : decode cL_law 1490 = .ok (.invokevirtual 207, 3) := by decide +kernel
theorem dL_law_1493 : decode cL_law 1493 = .ok (.istore 7, 2) := by decide +kernel
theorem dL_law_1495 : decode cL_law 1495 = .ok (.aload_n 2, 1) := by decide +kernel
theorem dL_law_1496 : decode cL_law 1496 = .ok (.invokevirtual 110, 3) := by decide +kernel
theorem dL_law_1499 : decode cL_law 1499 = .ok (.iload 6, 2) := by decide +kernel
theorem dL_law_1501 : decode cL_law 1501 = .ok (.if_icmp .eq 5, 3) := by decide +kernel
theorem dL_law_1504 : decode cL_law 1504 = .ok (.iconst 0, 1) := by decide +kernel
theorem dL_law_1505 : decode cL_law 1505 = .ok (.ireturn, 1) := by decide +kernel
theorem dL_law_1506 : decode cL_law 1506 = .ok (.iload 6, 2) := by decide +kernel
theorem dL_law_1508 : decode cL_law 1508 = .ok (.ifCond .ne 15, 3) := by decide +kernel
theorem dL_law_1511 : decode cL_law 1511 = .ok (.aload_n 3, 1) := by decide +kernel
theorem dL_law_1512 : decode cL_law 1512 = .ok (.iconst 0, 1) := by decide +kernel
theorem dL_law_1513 : decode cL_law 1513 = .ok (.laload, 1) := by decide +kernel
theorem dL_law_1514 : decode cL_law 1514 = .ok (.iload 7, 2) := by decide +kernel
theorem dL_law_1516 : decode cL_law 1516 = .ok (.i2l, 1) := by decide +kernel
theorem dL_law_1517 : decode cL_law 1517 = .ok (.lcmp, 1) := by decide +kernel
theorem dL_law_1518 : decode cL_law 1518 = .ok (.ifCond .eq 5, 3) := by decide +kernel
theorem dL_law_1521 : decode cL_law 1521 = .ok (.iconst 0, 1) := by decide +kernel
theorem dL_law_1522 : decode cL_law 1522 = .ok (.ireturn, 1) := by decide +kernel
theorem dL_law_1523 : decode cL_law 1523 = .ok (.goto 600, 3) := by decide +kernel
theorem dL_law_1526 : decode cL_law 1526 = .ok (.aload_n 1, 1) := by decide +kernel
theorem dL_law_1527 : decode cL_law 1527 = .ok (.aload_n 0, 1) := by decide +kernel
theorem dL_law_1528 : decode cL_law 1528 = .ok (.iload 5, 2) := by decide +kernel
theorem dL_law_1530 : decode cL_law 1530 = .ok (.iconst 1, 1) := by decide +kernel
theorem dL_law_1531 : decode cL_law 1531 = .ok (.iadd, 1) := by decide +kernel
theorem dL_law_1532 : decode cL_law 1532 = .ok (.iaload, 1) := by decide +kernel
theorem dL_law_1533 : decode cL_law 1533 = .ok (.aload_n 0, 1) := by decide +kernel
theorem dL_law_1534 : decode cL_law 1534 = .ok (.iload 5, 2) := by decide +kernel
theorem dL_law_1536 : decode cL_law 1536 = .ok (.iconst 2, 1) := by decide +kernel
theorem dL_law_1537 : decode cL_law 1537 = .ok (.iadd, 1) := by decide +kernel
theorem dL_law_1538 : decode cL_law 1538 = .ok (.iaload, 1) := by decide +kernel
theorem dL_law_1539 : decode cL_law 1539 = .ok (.aload_n 0, 1) := by decide +kernel
theorem dL_law_1540 : decode cL_law 1540 = .ok (.iload 5, 2) := by decide +kernel
theorem dL_law_1542 : decode cL_law 1542 = .ok (.iconst 3, 1) := by decide +kernel
theorem dL_law_1543 : decode cL_law 1543 = .ok (.iadd, 1) := by decide +kernel
theorem dL_law_1544 : decode cL_law 1544 = .ok (.iaload, 1) := by decide +kernel
theorem dL_law_1545 : decode cL_law 1545 = .ok (.aload_n 3, 1) := by decide +kernel
theorem dL_law_1546 : decode cL_law 1546 = .ok (.invokestatic 208, 3) := by decide +kernel
theorem dL_law_1549 : decode cL_law 1549 = .ok (.istore 6, 2) := by decide +kernel
theorem dL_law_1551 : decode cL_law 1551 = .ok (.aload_n 2, 1) := by decide +kernel
theorem dL_law_1552 : decode cL_law 1552 = .ok (.aload_n 0, 1) := by decide +kernel
theorem dL_law_1553 : decode cL_law 1553 = .ok (.iload 5, 2) := by decide +kernel
theorem dL_law_1555 : decode cL_law 1555 = .ok (.iconst 1, 1) := by decide +kernel
theorem dL_law_1556 : decode cL_law 1556 = .ok (.iadd, 1) := by decide +kernel
theorem dL_law_1557 : decode cL_law 1557 = .ok (.iaload, 1) := by decide +kernel
theorem dL_law_1558 : decode cL_law 1558 = .ok (.aload_n 0, 1) := by decide +kernel
theorem dL_law_1559 : decode cL_law 1559 = .ok (.iload 5, 2) := by decide +kernel
theorem dL_law_1561 : decode cL_law 1561 = .ok (.iconst 2, 1) := by decide +kernel
theorem dL_law_1562 : decode cL_law 1562 = .ok (.iadd, 1) := by decide +kernel
theorem dL_law_1563 : decode cL_law 1563 = .ok (.iaload, 1) := by decide +kernel
theorem dL_law_1564 : decode cL_law 1564 = .ok (.aload_n 0, 1) := by decide +kernel
theorem dL_law_1565 : decode cL_law 1565 = .ok (.iload 5, 2) := by decide +kernel
theorem dL_law_1567 : decode cL_law 1567 = .ok (.iconst 3, 1) := by decide +kernel
theorem dL_law_1568 : decode cL_law 1568 = .ok (.iadd, 1) := by decide +kernel
theorem dL_law_1569 : decode cL_law 1569 = .ok (.iaload, 1) := by decide +kernel
theorem dL_law_1570 : decode cL_law 1570 = .ok (.invokevirtual 210, 3) := by decide +kernel
theorem dL_law_1573 : decode cL_law 1573 = .ok (.istore 7, 2) := by decide +kernel
theorem dL_law_1575 : decode cL_law 1575 = .ok (.aload_n 2, 1) := by decide +kernel
theorem dL_law_1576 : decode cL_law 1576 = .ok (.invokevirtual 110, 3) := by decide +kernel
theorem dL_law_1579 : decode cL_law 1579 = .ok (.iload 6, 2) := by decide +kernel
theorem dL_law_1581 : decode cL_law 1581 = .ok (.if_icmp .eq 5, 3) := by decide +kernel
theorem dL_law_1584 : decode cL_law 1584 = .ok (.iconst 0, 1) := by decide +kernel
theorem dL_law_1585 : decode cL_law 1585 = .ok (.ireturn, 1) := by decide +kernel
theorem dL_law_1586 : decode cL_law 1586 = .ok (.iload 6, 2) := by decide +kernel
theorem dL_law_1588 : decode cL_law 1588 = .ok (.ifCond .ne 15, 3) := by decide +kernel
theorem dL_law_1591 : decode cL_law 1591 = .ok (.aload_n 3, 1) := by decide +kernel
theorem dL_law_1592 : decode cL_law 1592 = .ok (.iconst 0, 1) := by decide +kernel
theorem dL_law_1593 : decode cL_law 1593 = .ok (.laload, 1) := by decide +kernel
theorem dL_law_1594 : decode cL_law 1594 = .ok (.iload 7, 2) := by decide +kernel
theorem dL_law_1596 : decode cL_law 1596 = .ok (.i2l, 1) := by decide +kernel
theorem dL_law_1597 : decode cL_law 1597 = .ok (.lcmp, 1) := by decide +kernel
theorem dL_law_1598 : decode cL_law 1598 = .ok (.ifCond .eq 5, 3) := by decide +kernel
theorem dL_law_1601 : decode cL_law 1601 = .ok (.iconst 0, 1) := by decide +kernel
theorem dL_law_1602 : decode cL_law 1602 = .ok (.ireturn, 1) := by decide +kernel
theorem dL_law_1603 : decode cL_law 1603 = .ok (.goto 520, 3) := by decide +kernel
theorem dL_law_1606 : decode cL_law 1606 = .ok (.aload_n 1, 1) := by decide +kernel
theorem dL_law_1607 : decode cL_law 1607 = .ok (.invokevirtual 211, 3) := by decide +kernel
theorem dL_law_1610 : decode cL_law 1610 = .ok (.aload_n 2, 1) := by decide +kernel
theorem dL_law_1611 : decode cL_law 1611 = .ok (.invokevirtual 214, 3) := by decide +kernel
theorem dL_law_1614 : decode cL_law 1614 = .ok (.if_icmp .eq 509, 3) := by decide +kernel
theorem dL_law_1617 : decode cL_law 1617 = .ok (.iconst 0, 1) := by decide +kernel
theorem dL_law_1618 : decode cL_law 1618 = .ok (.ireturn, 1) := by decide +kernel
theorem dL_law_1619 : decode cL_law 1619 = .ok (.aload_n 1, 1) := by decide +kernel
theorem dL_law_1620 : decode cL_law 1620 = .ok (.invokevirtual 215, 3) := by decide +kernel
theorem dL_law_1623 : decode cL_law 1623 = .ok (.aload_n 2, 1) := by decide +kernel
theorem dL_law_1624 : decode cL_law 1624 = .ok (.invokevirtual 218, 3) := by decide +kernel
theorem dL_law_1627 : decode cL_law 1627 = .ok (.if_icmp .eq 496, 3) := by decide +kernel
theorem dL_law_1630 : decode cL_law 1630 = .ok (.iconst 0, 1) := by decide +kernel
theorem dL_law_1631 : decode cL_law 1631 = .ok (.ireturn, 1) := by decide +kernel
theorem dL_law_1632 : decode cL_law 1632 = .ok (.aload_n 1, 1) := by decide +kernel
theorem dL_law_1633 : decode cL_law 1633 = .ok (.invokevirtual 219, 3) := by decide +kernel
theorem dL_law_1636 : decode cL_law 1636 = .ok (.aload_n 2, 1) := by decide +kernel
theorem dL_law_1637 : decode cL_law 1637 = .ok (.invokevirtual 222, 3) := by decide +kernel
theorem dL_law_1640 : decode cL_law 1640 = .ok (.if_icmp .eq 483, 3) := by decide +kernel
theorem dL_law_1643 : decode cL_law 1643 = .ok (.iconst 0, 1) := by decide +kernel
theorem dL_law_1644 : decode cL_law 1644 = .ok (.ireturn, 1) := by decide +kernel
theorem dL_law_1645 : decode cL_law 1645 = .ok (.aload_n 1, 1) := by decide +kernel
theorem dL_law_1646 : decode cL_law 1646 = .ok (.aload_n 0, 1) := by decide +kernel
theorem dL_law_1647 : decode cL_law 1647 = .ok (.iload 5, 2) := by decide +kernel
theorem dL_law_1649 : decode cL_law 1649 = .ok (.iconst 1, 1) := by decide +kernel
theorem dL_law_1650 : decode cL_law 1650 = .ok (.iadd, 1) := by decide +kernel
theorem dL_law_1651 : decode cL_law 1651 = .ok (.iaload, 1) := by decide +kernel
theorem dL_law_1652 : decode cL_law 1652 = .ok (.aload_n 3, 1) := by decide +kernel
theorem dL_law_1653 : decode cL_law 1653 = .ok (.invokestatic 223, 3) := by decide +kernel
theorem dL_law_1656 : decode cL_law 1656 = .ok (.istore 6, 2) := by decide +kernel
theorem dL_law_1658 : decode cL_law 1658 = .ok (.aload_n 2, 1) := by decide +kernel
theorem dL_law_1659 : decode cL_law 1659 = .ok (.aload_n 0, 1) := by decide +kernel
theorem dL_law_1660 : decode cL_law 1660 = .ok (.iload 5, 2) := by decide +kernel
theorem dL_law_1662 : decode cL_law 1662 = .ok (.iconst 1, 1) := by decide +kernel
theorem dL_law_1663 : decode cL_law 1663 = .ok (.iadd, 1) := by decide +kernel
theorem dL_law_1664 : decode cL_law 1664 = .ok (.iaload, 1) := by decide +kernel
theorem dL_law_1665 : decode cL_law 1665 = .ok (.invokevirtual 225, 3) := by decide +kernel
theorem dL_law_1668 : decode cL_law 1668 = .ok (.istore 7, 2) := by decide +kernel
theorem dL_law_1670 : decode cL_law 1670 = .ok (.aload_n 2, 1) := by decide +kernel
theorem dL_law_1671 : decode cL_law 1671 = .ok (.invokevirtual 110, 3) := by decide +kernel
theorem dL_law_1674 : decode cL_law 1674 = .ok (.iload 6, 2) := by decide +kernel
theorem dL_law_1676 : decode cL_law 1676 = .ok (.if_icmp .eq 5, 3) := by decide +kernel
theorem dL_law_1679 : decode cL_law 1679 = .ok (.iconst 0, 1) := by decide +kernel
theorem dL_law_1680 : decode cL_law 1680 = .ok (.ireturn, 1) := by decide +kernel
theorem dL_law_1681 : decode cL_law 1681 = .ok (.iload 6, 2) := by decide +kernel
theorem dL_law_1683 : decode cL_law 1683 = .ok (.ifCond .ne 22, 3) := by decide +kernel
theorem dL_law_1686 : decode cL_law 1686 = .ok (.aload_n 3, 1) := by decide +kernel
theorem dL_law_1687 : decode cL_law 1687 = .ok (.iconst 0, 1) := by decide +kernel
theorem dL_law_1688 : decode cL_law 1688 = .ok (.laload, 1) := by decide +kernel
theorem dL_law_1689 : decode cL_law 1689 = .ok (.iload 7, 2) := by decide +kernel
theorem dL_law_1691 : decode cL_law 1691 = .ok (.ifCond .eq 7, 3) := by decide +kernel
theorem dL_law_1694 : decode cL_law 1694 = .ok (.lconst 1, 1) := by decide +kernel
theorem dL_law_1695 : decode cL_law 1695 = .ok (.goto 4, 3) := by decide +kernel
theorem dL_law_1698 : decode cL_law 1698 = .ok (.lconst 0, 1) := by decide +kernel
theorem dL_law_1699 : decode cL_law 1699 = .ok (.lcmp, 1) := by decide +kernel
theorem dL_law_1700 : decode cL_law 1700 = .ok (.ifCond .eq 5, 3) := by decide +kernel
theorem dL_law_1703 : decode cL_law 1703 = .ok (.iconst 0, 1) := by decide +kernel
theorem dL_law_1704 : decode cL_law 1704 = .ok (.ireturn, 1) := by decide +kernel
theorem dL_law_1705 : decode cL_law 1705 = .ok (.goto 418, 3) := by decide +kernel
theorem dL_law_1708 : decode cL_law 1708 = .ok (.aload_n 1, 1) := by decide +kernel
theorem dL_law_1709 : decode cL_law 1709 = .ok (.aload_n 0, 1) := by decide +kernel
theorem dL_law_1710 : decode cL_law 1710 = .ok (.iload 5, 2) := by decide +kernel
theorem dL_law_1712 : decode cL_law 1712 = .ok (.iconst 1, 1) := by decide +kernel
theorem dL_law_1713 : decode cL_law 1713 = .ok (.iadd, 1) := by decide +kernel
theorem dL_law_1714 : decode cL_law 1714 = .ok (.iaload, 1) := by decide +kernel
theorem dL_law_1715 : decode cL_law 1715 = .ok (.aload_n 3, 1) := by decide +kernel
theorem dL_law_1716 : decode cL_law 1716 = .ok (.invokestatic 226, 3) := by decide +kernel
theorem dL_law_1719 : decode cL_law 1719 = .ok (.istore 6, 2) := by decide +kernel
theorem dL_law_1721 : decode cL_law 1721 = .ok (.aload_n 2, 1) := by decide +kernel
theorem dL_law_1722 : decode cL_law 1722 = .ok (.aload_n 0, 1) := by decide +kernel
theorem dL_law_1723 : decode cL_law 1723 = .ok (.iload 5, 2) := by decide +kernel
theorem dL_law_1725 : decode cL_law 1725 = .ok (.iconst 1, 1) := by decide +kernel
theorem dL_law_1726 : decode cL_law 1726 = .ok (.iadd, 1) := by decide +kernel
theorem dL_law_1727 : decode cL_law 1727 = .ok (.iaload, 1) := by decide +kernel
theorem dL_law_1728 : decode cL_law 1728 = .ok (.invokevirtual 228, 3) := by decide +kernel
theorem dL_law_1731 : decode cL_law 1731 = .ok (.istore 7, 2) := by decide +kernel
theorem dL_law_1733 : decode cL_law 1733 = .ok (.aload_n 2, 1) := by decide +kernel
theorem dL_law_1734 : decode cL_law 1734 = .ok (.invokevirtual 110, 3) := by decide +kernel
theorem dL_law_1737 : decode cL_law 1737 = .ok (.iload 6, 2) := by decide +kernel
theorem dL_law_1739 : decode cL_law 1739 = .ok (.if_icmp .eq 5, 3) := by decide +kernel
theorem dL_law_1742 : decode cL_law 1742 = .ok (.iconst 0, 1) := by decide +kernel
theorem dL_law_1743 : decode cL_law 1743 = .ok (.ireturn, 1) := by decide +kernel
theorem dL_law_1744 : decode cL_law 1744 = .ok (.iload 6, 2) := by decide +kernel
theorem dL_law_1746 : decode cL_law 1746 = .ok (.ifCond .ne 15, 3) := by decide +kernel
theorem dL_law_1749 : decode cL_law 1749 = .ok (.aload_n 3, 1) := by decide +kernel
theorem dL_law_1750 : decode cL_law 1750 = .ok (.iconst 0, 1) := by decide +kernel
theorem dL_law_1751 : decode cL_law 1751 = .ok (.laload, 1) := by decide +kernel
theorem dL_law_1752 : decode cL_law 1752 = .ok (.iload 7, 2) := by decide +kernel
theorem dL_law_1754 : decode cL_law 1754 = .ok (.i2l, 1) := by decide +kernel
theorem dL_law_1755 : decode cL_law 1755 = .ok (.lcmp, 1) := by decide +kernel
theorem dL_law_1756 : decode cL_law 1756 = .ok (.ifCond .eq 5, 3) := by decide +kernel
theorem dL_law_1759 : decode cL_law 1759 = .ok (.iconst 0, 1) := by decide +kernel
theorem dL_law_1760 : decode cL_law 1760 = .ok (.ireturn, 1) := by decide +kernel
theorem dL_law_1761 : decode cL_law 1761 = .ok (.goto 362, 3) := by decide +kernel
theorem dL_law_1764 : decode cL_law 1764 = .ok (.aload_n 1, 1) := by decide +kernel
theorem dL_law_1765 : decode cL_law 1765 = .ok (.aload_n 0, 1) := by decide +kernel
theorem dL_law_1766 : decode cL_law 1766 = .ok (.iload 5, 2) := by decide +kernel
theorem dL_law_1768 : decode cL_law 1768 = .ok (.iconst 1, 1) := by decide +kernel
theorem dL_law_1769 : decode cL_law 1769 = .ok (.iadd, 1) := by decide +kernel
theorem dL_law_1770 : decode cL_law 1770 = .ok (.iaload, 1) := by decide +kernel
theorem dL_law_1771 : decode cL_law 1771 = .ok (.aload_n 3, 1) := by decide +kernel
theorem dL_law_1772 : decode cL_law 1772 = .ok (.invokestatic 229, 3) := by decide +kernel
theorem dL_law_1775 : decode cL_law 1775 = .ok (.istore 6, 2) := by decide +kernel
theorem dL_law_1777 : decode cL_law 1777 = .ok (.aload_n 2, 1) := by decide +kernel
theorem dL_law_1778 : decode cL_law 1778 = .ok (.aload_n 0, 1) := by decide +kernel
theorem dL_law_1779 : decode cL_law 1779 = .ok (.iload 5, 2) := by decide +kernel
theorem dL_law_1781 : decode cL_law 1781 = .ok (.iconst 1, 1) := by decide +kernel
theorem dL_law_1782 : decode cL_law 1782 = .ok (.iadd, 1) := by decide +kernel
theorem dL_law_1783 : decode cL_law 1783 = .ok (.iaload, 1) := by decide +kernel
theorem dL_law_1784 : decode cL_law 1784 = .ok (.invokevirtual 231, 3) := by decide +kernel
theorem dL_law_1787 : decode cL_law 1787 = .ok (.istore 7, 2) := by decide +kernel
theorem dL_law_1789 : decode cL_law 1789 = .ok (.aload_n 2, 1) := by decide +kernel
theorem dL_law_1790 : decode cL_law 1790 = .ok (.invokevirtual 110, 3) := by decide +kernel
theorem dL_law_1793 : decode cL_law 1793 = .ok (.iload 6, 2) := by decide +kernel
theorem dL_law_1795 : decode cL_law 1795 = .ok (.if_icmp .eq 5, 3) := by decide +kernel
theorem dL_law_1798 : decode cL_law 1798 = .ok (.iconst 0, 1) := by decide +kernel
theorem dL_law_1799 : decode cL_law 1799 = .ok (.ireturn, 1) := by decide +kernel
theorem dL_law_1800 : decode cL_law 1800 = .ok (.iload 6, 2) := by decide +kernel
theorem dL_law_1802 : decode cL_law 1802 = .ok (.ifCond .ne 15, 3) := by decide +kernel
theorem dL_law_1805 : decode cL_law 1805 = .ok (.aload_n 3, 1) := by decide +kernel
theorem dL_law_1806 : decode cL_law 1806 = .ok (.iconst 0, 1) := by decide +kernel
theorem dL_law_1807 : decode cL_law 1807 = .ok (.laload, 1) := by decide +kernel
theorem dL_law_1808 : decode cL_law 1808 = .ok (.iload 7, 2) := by decide +kernel
theorem dL_law_1810 : decode cL_law 1810 = .ok (.i2l, 1) := by decide +kernel
theorem dL_law_1811 : decode cL_law 1811 = .ok (.lcmp, 1) := by decide +kernel
theorem dL_law_1812 : decode cL_law 1812 = .ok (.ifCond .eq 5, 3) := by decide +kernel
theorem dL_law_1815 : decode cL_law 1815 = .ok (.iconst 0, 1) := by decide +kernel
theorem dL_law_1816 : decode cL_law 1816 = .ok (.ireturn, 1) := by decide +kernel
theorem dL_law_1817 : decode cL_law 1817 = .ok (.goto 306, 3) := by decide +kernel
theorem dL_law_1820 : decode cL_law 1820 = .ok (.aload_n 1, 1) := by decide +kernel
theorem dL_law_1821 : decode cL_law 1821 = .ok (.aload_n 3, 1) := by decide +kernel
theorem dL_law_1822 : decode cL_law 1822 = .ok (.invokestatic 232, 3) := by decide +kernel
theorem dL_law_1825 : decode cL_law 1825 = .ok (.istore 6, 2) := by decide +kernel
theorem dL_law_1827 : decode cL_law 1827 = .ok (.aload_n 2, 1) := by decide +kernel
theorem dL_law_1828 : decode cL_law 1828 = .ok (.invokevirtual 234, 3) := by decide +kernel
theorem dL_law_1831 : decode cL_law 1831 = .ok (.istore 7, 2) := by decide +kernel
theorem dL_law_1833 : decode cL_law 1833 = .ok (.aload_n 2, 1) := by decide +kernel
theorem dL_law_1834 : decode cL_law 1834 = .ok (.invokevirtual 110, 3) := by decide +kernel
theorem dL_law_1837 : decode cL_law 1837 = .ok (.iload 6, 2) := by decide +kernel
theorem dL_law_1839 : decode cL_law 1839 = .ok (.if_icmp .eq 5, 3) := by decide +kernel
theorem dL_law_1842 : decode cL_law 1842 = .ok (.iconst 0, 1) := by decide +kernel
theorem dL_law_1843 : decode cL_law 1843 = .ok (.ireturn, 1) := by decide +kernel
theorem dL_law_1844 : decode cL_law 1844 = .ok (.iload 6, 2) := by decide +kernel
theorem dL_law_1846 : decode cL_law 1846 = .ok (.ifCond .ne 15, 3) := by decide +kernel
theorem dL_law_1849 : decode cL_law 1849 = .ok (.aload_n 3, 1) := by decide +kernel
theorem dL_law_1850 : decode cL_law 1850 = .ok (.iconst 0, 1) := by decide +kernel
theorem dL_law_1851 : decode cL_law 1851 = .ok (.laload, 1) := by decide +kernel
theorem dL_law_1852 : decode cL_law 1852 = .ok (.iload 7, 2) := by decide +kernel
theorem dL_law_1854 : decode cL_law 1854 = .ok (.i2l, 1) := by decide +kernel
theorem dL_law_1855 : decode cL_law 1855 = .ok (.lcmp, 1) := by decide +kernel
theorem dL_law_1856 : decode cL_law 1856 = .ok (.ifCond .eq 5, 3) := by decide +kernel
theorem dL_law_1859 : decode cL_law 1859 = .ok (.iconst 0, 1) := by decide +kernel
theorem dL_law_1860 : decode cL_law 1860 = .ok (.ireturn, 1) := by decide +kernel
theorem dL_law_1861 : decode cL_law 1861 = .ok (.goto 262, 3) := by decide +kernel
theorem dL_law_1864 : decode cL_law 1864 = .ok (.aload_n 1, 1) := by decide +kernel
theorem dL_law_1865 : decode cL_law 1865 = .ok (.aload_n 3, 1) := by decide +kernel
theorem dL_law_1866 : decode cL_law 1866 = .ok (.invokestatic 235, 3) := by decide +kernel
theorem dL_law_1869 : decode cL_law 1869 = .ok (.istore 6, 2) := by decide +kernel
theorem dL_law_1871 : decode cL_law 1871 = .ok (.aload_n 2, 1) := by decide +kernel
theorem dL_law_1872 : decode cL_law 1872 = .ok (.invokevirtual 237, 3) := by decide +kernel
theorem dL_law_1875 : decode cL_law 1875 = .ok (.istore 7, 2) := by decide +kernel
theorem dL_law_1877 : decode cL_law 1877 = .ok (.aload_n 2, 1) := by decide +kernel
theorem dL_law_1878 : decode cL_law 1878 = .ok (.invokevirtual 110, 3) := by decide +kernel
theorem dL_law_1881 : decode cL_law 1881 = .ok (.iload 6, 2) := by decide +kernel
theorem dL_law_1883 : decode cL_law 1883 = .ok (.if_icmp .eq 5, 3) := by decide +kernel
theorem dL_law_1886 : decode cL_law 1886 = .ok (.iconst 0, 1) := by decide +kernel
theorem dL_law_1887 : decode cL_law 1887 = .ok (.ireturn, 1) := by decide +kernel
theorem dL_law_1888 : decode cL_law 1888 = .ok (.iload 6, 2) := by decide +kernel
theorem dL_law_1890 : decode cL_law 1890 = .ok (.ifCond .ne 15, 3) := by decide +kernel
theorem dL_law_1893 : decode cL_law 1893 = .ok (.aload_n 3, 1) := by decide +kernel
theorem dL_law_1894 : decode cL_law 1894 = .ok (.iconst 0, 1) := by decide +kernel
theorem dL_law_1895 : decode cL_law 1895 = .ok (.laload, 1) := by decide +kernel
theorem dL_law_1896 : decode cL_law 1896 = .ok (.iload 7, 2) := by decide +kernel
theorem dL_law_1898 : decode cL_law 1898 = .ok (.i2l, 1) := by decide +kernel
theorem dL_law_1899 : decode cL_law 1899 = .ok (.lcmp, 1) := by decide +kernel
theorem dL_law_1900 : decode cL_law 1900 = .ok (.ifCond .eq 5, 3) := by decide +kernel
theorem dL_law_1903 : decode cL_law 1903 = .ok (.iconst 0, 1) := by decide +kernel
theorem dL_law_1904 : decode cL_law 1904 = .ok (.ireturn, 1) := by decide +kernel
theorem dL_law_1905 : decode cL_law 1905 = .ok (.goto 218, 3) := by decide +kernel
theorem dL_law_1908 : decode cL_law 1908 = .ok (.aload_n 1, 1) := by decide +kernel
theorem dL_law_1909 : decode cL_law 1909 = .ok (.aload_n 0, 1) := by decide +kernel
theorem dL_law_1910 : decode cL_law 1910 = .ok (.iload 5, 2) := by decide +kernel
theorem dL_law_1912 : decode cL_law 1912 = .ok (.iconst 1, 1) := by decide +kernel
theorem dL_law_1913 : decode cL_law 1913 = .ok (.iadd, 1) := by decide +kernel
theorem dL_law_1914 : decode cL_law 1914 = .ok (.iaload, 1) := by decide +kernel
theorem dL_law_1915 : decode cL_law 1915 = .ok (.aload_n 3, 1) := by decide +kernel
theorem dL_law_1916 : decode cL_law 1916 = .ok (.invokestatic 238, 3) := by decide +kernel
theorem dL_law_1919 : decode cL_law 1919 = .ok (.istore 6, 2) := by decide +kernel
theorem dL_law_1921 : decode cL_law 1921 = .ok (.aload_n 2, 1) := by decide +kernel
theorem dL_law_1922 : decode cL_law 1922 = .ok (.aload_n 0, 1) := by decide +kernel
theorem dL_law_1923 : decode cL_law 1923 = .ok (.iload 5, 2) := by decide +kernel
theorem dL_law_1925 : decode cL_law 1925 = .ok (.iconst 1, 1) := by decide +kernel
theorem dL_law_1926 : decode cL_law 1926 = .ok (.iadd, 1) := by decide +kernel
theorem dL_law_1927 : decode cL_law 1927 = .ok (.iaload, 1) := by decide +kernel
theorem dL_law_1928 : decode cL_law 1928 = .ok (.invokevirtual 240, 3) := by decide +kernel
theorem dL_law_1931 : decode cL_law 1931 = .ok (.istore 7, 2) := by decide +kernel
theorem dL_law_1933 : decode cL_law 1933 = .ok (.aload_n 2, 1) := by decide +kernel
theorem dL_law_1934 : decode cL_law 1934 = .ok (.invokevirtual 110, 3) := by decide +kernel
theorem dL_law_1937 : decode cL_law 1937 = .ok (.iload 6, 2) := by decide +kernel
theorem dL_law_1939 : decode cL_law 1939 = .ok (.if_icmp .eq 5, 3) := by decide +kernel
theorem dL_law_1942 : decode cL_law 1942 = .ok (.iconst 0, 1) := by decide +kernel
theorem dL_law_1943 : decode cL_law 1943 = .ok (.ireturn, 1) := by decide +kernel
theorem dL_law_1944 : decode cL_law 1944 = .ok (.iload 6, 2) := by decide +kernel
theorem dL_law_1946 : decode cL_law 1946 = .ok (.ifCond .ne 15, 3) := by decide +kernel
theorem dL_law_1949 : decode cL_law 1949 = .ok (.aload_n 3, 1) := by decide +kernel
theorem dL_law_1950 : decode cL_law 1950 = .ok (.iconst 0, 1) := by decide +kernel
theorem dL_law_1951 : decode cL_law 1951 = .ok (.laload, 1) := by decide +kernel
theorem dL_law_1952 : decode cL_law 1952 = .ok (.iload 7, 2) := by decide +kernel
theorem dL_law_1954 : decode cL_law 1954 = .ok (.i2l, 1) := by decide +kernel
theorem dL_law_1955 : decode cL_law 1955 = .ok (.lcmp, 1) := by decide +kernel
theorem dL_law_1956 : decode cL_law 1956 = .ok (.ifCond .eq 5, 3) := by decide +kernel
theorem dL_law_1959 : decode cL_law 1959 = .ok (.iconst 0, 1) := by decide +kernel
theorem dL_law_1960 : decode cL_law 1960 = .ok (.ireturn, 1) := by decide +kernel
theorem dL_law_1961 : decode cL_law 1961 = .ok (.goto 162, 3) := by decide +kernel
theorem dL_law_1964 : decode cL_law 1964 = .ok (.aload_n 1, 1) := by decide +kernel
theorem dL_law_1965 : decode cL_law 1965 = .ok (.invokevirtual 241, 3) := by decide +kernel
theorem dL_law_1968 : decode cL_law 1968 = .ok (.aload_n 2, 1) := by decide +kernel
theorem dL_law_1969 : decode cL_law 1969 = .ok (.invokevirtual 244, 3) := by decide +kernel
theorem dL_law_1972 : decode cL_law 1972 = .ok (.if_icmp .eq 151, 3) := by decide +kernel
theorem dL_law_1975 : decode cL_law 1975 = .ok (.iconst 0, 1) := by decide +kernel
theorem dL_law_1976 : decode cL_law 1976 = .ok (.ireturn, 1) := by decide +kernel
theorem dL_law_1977 : decode cL_law 1977 = .ok (.aload_n 1, 1) := by decide +kernel
theorem dL_law_1978 : decode cL_law 1978 = .ok (.invokevirtual 245, 3) := by decide +kernel
theorem dL_law_1981 : decode cL_law 1981 = .ok (.dstore 6, 2) := by decide +kernel
theorem dL_law_1983 : decode cL_law 1983 = .ok (.aload_n 2, 1) := by decide +kernel
theorem dL_law_1984 : decode cL_law 1984 = .ok (.invokevirtual 249, 3) := by decide +kernel
theorem dL_law_1987 : decode cL_law 1987 = .ok (.dstore 8, 2) := by decide +kernel
theorem dL_law_1989 : decode cL_law 1989 = .ok (.dload 6, 2) := by decide +kernel
theorem dL_law_1991 : decode cL_law 1991 = .ok (.dload 8, 2) := by decide +kernel
theorem dL_law_1993 : decode cL_law 1993 = .ok (.dcmp .l, 1) := by decide +kernel
theorem dL_law_1994 : decode cL_law 1994 = .ok (.ifCond .eq 21, 3) := by decide +kernel
theorem dL_law_1997 : decode cL_law 1997 = .ok (.dload 6, 2) := by decide +kernel
theorem dL_law_1999 : decode cL_law 1999 = .ok (.dload 6, 2) := by decide +kernel
theorem dL_law_2001 : decode cL_law 2001 = .ok (.dcmp .l, 1) := by decide +kernel
theorem dL_law_2002 : decode cL_law 2002 = .ok (.ifCond .eq 11, 3) := by decide +kernel
theorem dL_law_2005 : decode cL_law 2005 = .ok (.dload 8, 2) := by decide +kernel
theorem dL_law_2007 : decode cL_law 2007 = .ok (.dload 8, 2) := by decide +kernel
theorem dL_law_2009 : decode cL_law 2009 = .ok (.dcmp .l, 1) := by decide +kernel
theorem dL_law_2010 : decode cL_law 2010 = .ok (.ifCond .ne 5, 3) := by decide +kernel
theorem dL_law_2013 : decode cL_law 2013 = .ok (.iconst 0, 1) := by decide +kernel
theorem dL_law_2014 : decode cL_law 2014 = .ok (.ireturn, 1) := by decide +kernel
theorem dL_law_2015 : decode cL_law 2015 = .ok (.goto 108, 3) := by decide +kernel
theorem dL_law_2018 : decode cL_law 2018 = .ok (.aload_n 1, 1) := by decide +kernel
theorem dL_law_2019 : decode cL_law 2019 = .ok (.aload_n 0, 1) := by decide +kernel
theorem dL_law_2020 : decode cL_law 2020 = .ok (.iload 5, 2) := by decide +kernel
theorem dL_law_2022 : decode cL_law 2022 = .ok (.iconst 1, 1) := by decide +kernel
theorem dL_law_2023 : decode cL_law 2023 = .ok (.iadd, 1) := by decide +kernel
theorem dL_law_2024 : decode cL_law 2024 = .ok (.iaload, 1) := by decide +kernel
theorem dL_law_2025 : decode cL_law 2025 = .ok (.aload 4, 2) := by decide +kernel
theorem dL_law_2027 : decode cL_law 2027 = .ok (.invokestatic 250, 3) := by decide +kernel
theorem dL_law_2030 : decode cL_law 2030 = .ok (.istore 6, 2) := by decide +kernel
theorem dL_law_2032 : decode cL_law 2032 = .ok (.aload_n 2, 1) := by decide +kernel
theorem dL_law_2033 : decode cL_law 2033 = .ok (.aload_n 0, 1) := by decide +kernel
theorem dL_law_2034 : decode cL_law 2034 = .ok (.iload 5, 2) := by decide +kernel
theorem dL_law_2036 : decode cL_law 2036 = .ok (.iconst 1, 1) := by decide +kernel
theorem dL_law_2037 : decode cL_law 2037 = .ok (.iadd, 1) := by decide +kernel
theorem dL_law_2038 : decode cL_law 2038 = .ok (.iaload, 1) := by decide +kernel
theorem dL_law_2039 : decode cL_law 2039 = .ok (.invokevirtual 253, 3) := by decide +kernel
theorem dL_law_2042 : decode cL_law 2042 = .ok (.fstore 7, 2) := by decide +kernel
theorem dL_law_2044 : decode cL_law 2044 = .ok (.aload_n 2, 1) := by decide +kernel
theorem dL_law_2045 : decode cL_law 2045 = .ok (.invokevirtual 110, 3) := by decide +kernel
theorem dL_law_2048 : decode cL_law 2048 = .ok (.iload 6, 2) := by decide +kernel
theorem dL_law_2050 : decode cL_law 2050 = .ok (.if_icmp .eq 5, 3) := by decide +kernel
theorem dL_law_2053 : decode cL_law 2053 = .ok (.iconst 0, 1) := by decide +kernel
theorem dL_law_2054 : decode cL_law 2054 = .ok (.ireturn, 1) := by decide +kernel
theorem dL_law_2055 : decode cL_law 2055 = .ok (.iload 6, 2) := by decide +kernel
theorem dL_law_2057 : decode cL_law 2057 = .ok (.ifCond .ne 36, 3) := by decide +kernel
theorem dL_law_2060 : decode cL_law 2060 = .ok (.aload 4, 2) := by decide +kernel
theorem dL_law_2062 : decode cL_law 2062 = .ok (.iconst 0, 1) := by decide +kernel
theorem dL_law_2063 : decode cL_law 2063 = .ok (.daload, 1) := by decide +kernel
theorem dL_law_2064 : decode cL_law 2064 = .ok (.fload 7, 2) := by decide +kernel
theorem dL_law_2066 : decode cL_law 2066 = .ok (.f2d, 1) := by decide +kernel
theorem dL_law_2067 : decode cL_law 2067 = .ok (.dcmp .l, 1) := by decide +kernel
theorem dL_law_2068 : decode cL_law 2068 = .ok (.ifCond .eq 25, 3) := by decide +kernel
theorem dL_law_2071 : decode cL_law 2071 = .ok (.aload 4, 2) := by decide +kernel
theorem dL_law_2073 : decode cL_law 2073 = .ok (.iconst 0, 1) := by decide +kernel
theorem dL_law_2074 : decode cL_law 2074 = .ok (.daload, 1) := by decide +kernel
theorem dL_law_2075 : decode cL_law 2075 = .ok (.aload 4, 2) := by decide +kernel
theorem dL_law_2077 : decode cL_law 2077 = .ok (.iconst 0, 1) := by decide +kernel
theorem dL_law_2078 : decode cL_law 2078 = .ok (.daload, 1) := by decide +kernel
theorem dL_law_2079 : decode cL_law 2079 = .ok (.dcmp .l, 1) := by decide +kernel
theorem dL_law_2080 : decode cL_law 2080 = .ok (.ifCond .eq 11, 3) := by decide +kernel
theorem dL_law_2083 : decode cL_law 2083 = .ok (.fload 7, 2) := by decide +kernel
theorem dL_law_2085 : decode cL_law 2085 = .ok (.fload 7, 2) := by decide +kernel
theorem dL_law_2087 : decode cL_law 2087 = .ok (.fcmp .l, 1) := by decide +kernel
theorem dL_law_2088 : decode cL_law 2088 = .ok (.ifCond .ne 5, 3) := by decide +kernel
theorem dL_law_2091 : decode cL_law 2091 = .ok (.iconst 0, 1) := by decide +kernel
theorem dL_law_2092 : decode cL_law 2092 = .ok (.ireturn, 1) := by decide +kernel
theorem dL_law_2093 : decode cL_law 2093 = .ok (.goto 30, 3) := by decide +kernel
theorem dL_law_2096 : decode cL_law 2096 = .ok (.aload_n 1, 1) := by decide +kernel
theorem dL_law_2097 : decode cL_law 2097 = .ok (.invokevirtual 254, 3) := by decide +kernel
theorem dL_law_2100 : decode cL_law 2100 = .ok (.aload_n 2, 1) := by decide +kernel
theorem dL_law_2101 : decode cL_law 2101 = .ok (.invokevirtual 258, 3) := by decide +kernel
theorem dL_law_2104 : decode cL_law 2104 = .ok (.lcmp, 1) := by decide +kernel
theorem dL_law_2105 : decode cL_law 2105 = .ok (.ifCond .eq 18, 3) := by decide +kernel
theorem dL_law_2108 : decode cL_law 2108 = .ok (.iconst 0, 1) := by decide +kernel
theorem dL_law_2109 : decode cL_law 2109 = .ok (.ireturn, 1) := by decide +kernel
theorem dL_law_2110 : decode cL_law 2110 = .ok (.aload_n 1, 1) := by decide +kernel
theorem dL_law_2111 : decode cL_law 2111 = .ok (.invokevirtual 259, 3) := by decide +kernel
theorem dL_law_2114 : decode cL_law 2114 = .ok (.aload_n 2, 1) := by decide +kernel
theorem dL_law_2115 : decode cL_law 2115 = .ok (.invokevirtual 263, 3) := by decide +kernel
theorem dL_law_2118 : decode cL_law 2118 = .ok (.if_icmp .eq 5, 3) := by decide +kernel
theorem dL_law_2121 : decode cL_law 2121 = .ok (.iconst 0, 1) := by decide +kernel
theorem dL_law_2122 : decode cL_law 2122 = .ok (.ireturn, 1) := by decide +kernel
theorem dL_law_2123 : decode cL_law 2123 = .ok (.iinc 5 4, 3) := by decide +kernel
theorem dL_law_2126 : decode cL_law 2126 = .ok (.goto (-2098), 3) := by decide +kernel
theorem dL_law_2129 : decode cL_law 2129 = .ok (.iconst 1, 1) := by decide +kernel
theorem dL_law_2130 : decode cL_law 2130 = .ok (.ireturn, 1) := by decide +kernel
