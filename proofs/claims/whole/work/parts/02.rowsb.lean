theorem dX10_planDistribution_12 : decode cX10_planDistribution 12 = .ok (.istore_n 3, 1) := by decide +kernel
theorem dX10_planDistribution_13 : decode cX10_planDistribution 13 = .ok (.aload_n 1, 1) := by decide +kernel
theorem dX10_planDistribution_14 : decode cX10_planDistribution 14 = .ok (.aload_n 0, 1) := by decide +kernel
theorem dX10_planDistribution_15 : decode cX10_planDistribution 15 = .ok (.iload_n 3, 1) := by decide +kernel
theorem dX10_planDistribution_16 : decode cX10_planDistribution 16 = .ok (.invokevirtual 49, 3) := by decide +kernel
theorem dX10_planDistribution_19 : decode cX10_planDistribution 19 = .ok (.iload_n 2, 1) := by decide +kernel
theorem dX10_planDistribution_20 : decode cX10_planDistribution 20 = .ok (.invokevirtual 57, 3) := by decide +kernel
theorem dX10_planDistribution_23 : decode cX10_planDistribution 23 = .ok (.aload_n 1, 1) := by decide +kernel
theorem dX10_planDistribution_24 : decode cX10_planDistribution 24 = .ok (.aload_n 0, 1) := by decide +kernel
theorem dX10_planDistribution_25 : decode cX10_planDistribution 25 = .ok (.iconst 0, 1) := by decide +kernel
theorem dX10_planDistribution_26 : decode cX10_planDistribution 26 = .ok (.invokevirtual 49, 3) := by decide +kernel
theorem dX10_planDistribution_29 : decode cX10_planDistribution 29 = .ok (.iload_n 2, 1) := by decide +kernel
theorem dX10_planDistribution_30 : decode cX10_planDistribution 30 = .ok (.invokevirtual 53, 3) := by decide +kernel
theorem dX10_planDistribution_33 : decode cX10_planDistribution 33 = .ok (.isub, 1) := by decide +kernel
theorem dX10_planDistribution_34 : decode cX10_planDistribution 34 = .ok (.istore 4, 2) := by decide +kernel
theorem dX10_planDistribution_36 : decode cX10_planDistribution 36 = .ok (.iconst 1, 1) := by decide +kernel
theorem dX10_planDistribution_37 : decode cX10_planDistribution 37 = .ok (.istore 5, 2) := by decide +kernel
theorem dX10_planDistribution_39 : decode cX10_planDistribution 39 = .ok (.iload 5, 2) := by decide +kernel
theorem dX10_planDistribution_41 : decode cX10_planDistribution 41 = .ok (.iload_n 3, 1) := by decide +kernel
theorem dX10_planDistribution_42 : decode cX10_planDistribution 42 = .ok (.if_icmp .ge 22, 3) := by decide +kernel
theorem dX10_planDistribution_45 : decode cX10_planDistribution 45 = .ok (.iload 4, 2) := by decide +kernel
theorem dX10_planDistribution_47 : decode cX10_planDistribution 47 = .ok (.aload_n 0, 1) := by decide +kernel
theorem dX10_planDistribution_48 : decode cX10_planDistribution 48 = .ok (.aload_n 1, 1) := by decide +kernel
theorem dX10_planDistribution_49 : decode cX10_planDistribution 49 = .ok (.iload 5, 2) := by decide +kernel
theorem dX10_planDistribution_51 : decode cX10_planDistribution 51 = .ok (.iload_n 2, 1) := by decide +kernel
theorem dX10_planDistribution_52 : decode cX10_planDistribution 52 = .ok (.invokevirtual 72, 3) := by decide +kernel
theorem dX10_planDistribution_55 : decode cX10_planDistribution 55 = .ok (.isub, 1) := by decide +kernel
theorem dX10_planDistribution_56 : decode cX10_planDistribution 56 = .ok (.istore 4, 2) := by decide +kernel
theorem dX10_planDistribution_58 : decode cX10_planDistribution 58 = .ok (.iinc 5 1, 3) := by decide +kernel
theorem dX10_planDistribution_61 : decode cX10_planDistribution 61 = .ok (.goto (-22), 3) := by decide +kernel
theorem dX10_planDistribution_64 : decode cX10_planDistribution 64 = .ok (.iload_n 3, 1) := by decide +kernel
theorem dX10_planDistribution_65 : decode cX10_planDistribution 65 = .ok (.ifCond .le 12, 3) := by decide +kernel
theorem dX10_planDistribution_68 : decode cX10_planDistribution 68 = .ok (.iload 4, 2) := by decide +kernel
theorem dX10_planDistribution_70 : decode cX10_planDistribution 70 = .ok (.iload_n 3, 1) := by decide +kernel
theorem dX10_planDistribution_71 : decode cX10_planDistribution 71 = .ok (.invokestatic 76, 3) := by decide +kernel
theorem dX10_planDistribution_74 : decode cX10_planDistribution 74 = .ok (.goto 4, 3) := by decide +kernel
theorem dX10_planDistribution_77 : decode cX10_planDistribution 77 = .ok (.iconst 0, 1) := by decide +kernel
theorem dX10_planDistribution_78 : decode cX10_planDistribution 78 = .ok (.istore 5, 2) := by decide +kernel
theorem dX10_planDistribution_80 : decode cX10_planDistribution 80 = .ok (.iload_n 3, 1) := by decide +kernel
theorem dX10_planDistribution_81 : decode cX10_planDistribution 81 = .ok (.ifCond .le 12, 3) := by decide +kernel
theorem dX10_planDistribution_84 : decode cX10_planDistribution 84 = .ok (.iload 4, 2) := by decide +kernel
theorem dX10_planDistribution_86 : decode cX10_planDistribution 86 = .ok (.iload_n 3, 1) := by decide +kernel
theorem dX10_planDistribution_87 : decode cX10_planDistribution 87 = .ok (.invokestatic 81, 3) := by decide +kernel
theorem dX10_planDistribution_90 : decode cX10_planDistribution 90 = .ok (.goto 4, 3) := by decide +kernel
theorem dX10_planDistribution_93 : decode cX10_planDistribution 93 = .ok (.iconst 0, 1) := by decide +kernel
theorem dX10_planDistribution_94 : decode cX10_planDistribution 94 = .ok (.istore 6, 2) := by decide +kernel
theorem dX10_planDistribution_96 : decode cX10_planDistribution 96 = .ok (.aload_n 1, 1) := by decide +kernel
theorem dX10_planDistribution_97 : decode cX10_planDistribution 97 = .ok (.aload_n 0, 1) := by decide +kernel
theorem dX10_planDistribution_98 : decode cX10_planDistribution 98 = .ok (.iconst 0, 1) := by decide +kernel
theorem dX10_planDistribution_99 : decode cX10_planDistribution 99 = .ok (.invokevirtual 49, 3) := by decide +kernel
theorem dX10_planDistribution_102 : decode cX10_planDistribution 102 = .ok (.iload_n 2, 1) := by decide +kernel
theorem dX10_planDistribution_103 : decode cX10_planDistribution 103 = .ok (.invokevirtual 53, 3) := by decide +kernel
theorem dX10_planDistribution_106 : decode cX10_planDistribution 106 = .ok (.istore 7, 2) := by decide +kernel
theorem dX10_planDistribution_108 : decode cX10_planDistribution 108 = .ok (.aload_n 0, 1) := by decide +kernel
theorem dX10_planDistribution_109 : decode cX10_planDistribution 109 = .ok (.iconst 0, 1) := by decide +kernel
theorem dX10_planDistribution_110 : decode cX10_planDistribution 110 = .ok (.iconst 0, 1) := by decide +kernel
theorem dX10_planDistribution_111 : decode cX10_planDistribution 111 = .ok (.invokevirtual 64, 3) := by decide +kernel
theorem dX10_planDistribution_114 : decode cX10_planDistribution 114 = .ok (.aload_n 0, 1) := by decide +kernel
theorem dX10_planDistribution_115 : decode cX10_planDistribution 115 = .ok (.iload_n 3, 1) := by decide +kernel
theorem dX10_planDistribution_116 : decode cX10_planDistribution 116 = .ok (.iconst 0, 1) := by decide +kernel
theorem dX10_planDistribution_117 : decode cX10_planDistribution 117 = .ok (.invokevirtual 64, 3) := by decide +kernel
theorem dX10_planDistribution_120 : decode cX10_planDistribution 120 = .ok (.iconst 1, 1) := by decide +kernel
theorem dX10_planDistribution_121 : decode cX10_planDistribution 121 = .ok (.istore 8, 2) := by decide +kernel
theorem dX10_planDistribution_123 : decode cX10_planDistribution 123 = .ok (.iload 8, 2) := by decide +kernel
theorem dX10_planDistribution_125 : decode cX10_planDistribution 125 = .ok (.iload_n 3, 1) := by decide +kernel
theorem dX10_planDistribution_126 : decode cX10_planDistribution 126 = .ok (.if_icmp .ge 63, 3) := by decide +kernel
theorem dX10_planDistribution_129 : decode cX10_planDistribution 129 = .ok (.iload 7, 2) := by decide +kernel
theorem dX10_planDistribution_131 : decode cX10_planDistribution 131 = .ok (.iload 8, 2) := by decide +kernel
theorem dX10_planDistribution_133 : decode cX10_planDistribution 133 = .ok (.iload 6, 2) := by decide +kernel
theorem dX10_planDistribution_135 : decode cX10_planDistribution 135 = .ok (.if_icmp .gt 10, 3) := by decide +kernel
theorem dX10_planDistribution_138 : decode cX10_planDistribution 138 = .ok (.iload 5, 2) := by decide +kernel
theorem dX10_planDistribution_140 : decode cX10_planDistribution 140 = .ok (.iconst 1, 1) := by decide +kernel
theorem dX10_planDistribution_141 : decode cX10_planDistribution 141 = .ok (.iadd, 1) := by decide +kernel
theorem dX10_planDistribution_142 : decode cX10_planDistribution 142 = .ok (.goto 5, 3) := by decide +kernel
theorem dX10_planDistribution_145 : decode cX10_planDistribution 145 = .ok (.iload 5, 2) := by decide +kernel
theorem dX10_planDistribution_147 : decode cX10_planDistribution 147 = .ok (.iadd, 1) := by decide +kernel
theorem dX10_planDistribution_148 : decode cX10_planDistribution 148 = .ok (.istore 7, 2) := by decide +kernel
theorem dX10_planDistribution_150 : decode cX10_planDistribution 150 = .ok (.aload_n 0, 1) := by decide +kernel
theorem dX10_planDistribution_151 : decode cX10_planDistribution 151 = .ok (.iload 8, 2) := by decide +kernel
theorem dX10_planDistribution_153 : decode cX10_planDistribution 153 = .ok (.iload 7, 2) := by decide +kernel
theorem dX10_planDistribution_155 : decode cX10_planDistribution 155 = .ok (.aload_n 1, 1) := by decide +kernel
theorem dX10_planDistribution_156 : decode cX10_planDistribution 156 = .ok (.aload_n 0, 1) := by decide +kernel
theorem dX10_planDistribution_157 : decode cX10_planDistribution 157 = .ok (.iload 8, 2) := by decide +kernel
theorem dX10_planDistribution_159 : decode cX10_planDistribution 159 = .ok (.invokevirtual 49, 3) := by decide +kernel
theorem dX10_planDistribution_162 : decode cX10_planDistribution 162 = .ok (.iload_n 2, 1) := by decide +kernel
theorem dX10_planDistribution_163 : decode cX10_planDistribution 163 = .ok (.invokevirtual 57, 3) := by decide +kernel
theorem dX10_planDistribution_166 : decode cX10_planDistribution 166 = .ok (.isub, 1) := by decide +kernel
theorem dX10_planDistribution_167 : decode cX10_planDistribution 167 = .ok (.invokevirtual 64, 3) := by decide +kernel
theorem dX10_planDistribution_170 : decode cX10_planDistribution 170 = .ok (.iload 7, 2) := by decide +kernel
theorem dX10_planDistribution_172 : decode cX10_planDistribution 172 = .ok (.aload_n 0, 1) := by decide +kernel
theorem dX10_planDistribution_173 : decode cX10_planDistribution 173 = .ok (.aload_n 1, 1) := by decide +kernel
theorem dX10_planDistribution_174 : decode cX10_planDistribution 174 = .ok (.iload 8, 2) := by decide +kernel
theorem dX10_planDistribution_176 : decode cX10_planDistribution 176 = .ok (.iload_n 2, 1) := by decide +kernel
theorem dX10_planDistribution_177 : decode cX10_planDistribution 177 = .ok (.invokevirtual 72, 3) := by decide +kernel
theorem dX10_planDistribution_180 : decode cX10_planDistribution 180 = .ok (.iadd, 1) := by decide +kernel
theorem dX10_planDistribution_181 : decode cX10_planDistribution 181 = .ok (.istore 7, 2) := by decide +kernel
theorem dX10_planDistribution_183 : decode cX10_planDistribution 183 = .ok (.iinc 8 1, 3) := by decide +kernel
theorem dX10_planDistribution_186 : decode cX10_planDistribution 186 = .ok (.goto (-63), 3) := by decide +kernel
theorem dX10_planDistribution_189 : decode cX10_planDistribution 189 = .ok (.iload 4, 2) := by decide +kernel
theorem dX10_planDistribution_191 : decode cX10_planDistribution 191 = .ok (.ireturn, 1) := by decide +kernel
theorem dX10_sortAlong_0 : decode cX10_sortAlong 0 = .ok (.iconst 1, 1) := by decide +kernel
theorem dX10_sortAlong_1 : decode cX10_sortAlong 1 = .ok (.istore_n 3, 1) := by decide +kernel
theorem dX10_sortAlong_2 : decode cX10_sortAlong 2 = .ok (.iload_n 3, 1) := by decide +kernel
theorem dX10_sortAlong_3 : decode cX10_sortAlong 3 = .ok (.aload_n 0, 1) := by decide +kernel
theorem dX10_sortAlong_4 : decode cX10_sortAlong 4 = .ok (.getfield 18, 3) := by decide +kernel
theorem dX10_sortAlong_7 : decode cX10_sortAlong 7 = .ok (.if_icmp .ge 93, 3) := by decide +kernel
theorem dX10_sortAlong_10 : decode cX10_sortAlong 10 = .ok (.iload_n 3, 1) := by decide +kernel
theorem dX10_sortAlong_11 : decode cX10_sortAlong 11 = .ok (.aload_n 0, 1) := by decide +kernel
theorem dX10_sortAlong_12 : decode cX10_sortAlong 12 = .ok (.getfield 9, 3) := by decide +kernel
theorem dX10_sortAlong_15 : decode cX10_sortAlong 15 = .ok (.arraylength, 1) := by decide +kernel
theorem dX10_sortAlong_16 : decode cX10_sortAlong 16 = .ok (.if_icmp .ge 84, 3) := by decide +kernel
theorem dX10_sortAlong_19 : decode cX10_sortAlong 19 = .ok (.aload_n 0, 1) := by decide +kernel
theorem dX10_sortAlong_20 : decode cX10_sortAlong 20 = .ok (.getfield 9, 3) := by decide +kernel
theorem dX10_sortAlong_23 : decode cX10_sortAlong 23 = .ok (.iload_n 3, 1) := by decide +kernel
theorem dX10_sortAlong_24 : decode cX10_sortAlong 24 = .ok (.iaload, 1) := by decide +kernel
theorem dX10_sortAlong_25 : decode cX10_sortAlong 25 = .ok (.istore 4, 2) := by decide +kernel
theorem dX10_sortAlong_27 : decode cX10_sortAlong 27 = .ok (.aload_n 1, 1) := by decide +kernel
theorem dX10_sortAlong_28 : decode cX10_sortAlong 28 = .ok (.iload 4, 2) := by decide +kernel
theorem dX10_sortAlong_30 : decode cX10_sortAlong 30 = .ok (.iload_n 2, 1) := by decide +kernel
theorem dX10_sortAlong_31 : decode cX10_sortAlong 31 = .ok (.invokevirtual 57, 3) := by decide +kernel
theorem dX10_sortAlong_34 : decode cX10_sortAlong 34 = .ok (.istore 5, 2) := by decide +kernel
theorem dX10_sortAlong_36 : decode cX10_sortAlong 36 = .ok (.iload_n 3, 1) := by decide +kernel
theorem dX10_sortAlong_37 : decode cX10_sortAlong 37 = .ok (.istore 6, 2) := by decide +kernel
theorem dX10_sortAlong_39 : decode cX10_sortAlong 39 = .ok (.iload 6, 2) := by decide +kernel
theorem dX10_sortAlong_41 : decode cX10_sortAlong 41 = .ok (.ifCond .le 44, 3) := by decide +kernel
theorem dX10_sortAlong_44 : decode cX10_sortAlong 44 = .ok (.aload_n 1, 1) := by decide +kernel
theorem dX10_sortAlong_45 : decode cX10_sortAlong 45 = .ok (.aload_n 0, 1) := by decide +kernel
theorem dX10_sortAlong_46 : decode cX10_sortAlong 46 = .ok (.getfield 9, 3) := by decide +kernel
theorem dX10_sortAlong_49 : decode cX10_sortAlong 49 = .ok (.iload 6, 2) := by decide +kernel
theorem dX10_sortAlong_51 : decode cX10_sortAlong 51 = .ok (.iconst 1, 1) := by decide +kernel
theorem dX10_sortAlong_52 : decode cX10_sortAlong 52 = .ok (.isub, 1) := by decide +kernel
theorem dX10_sortAlong_53 : decode cX10_sortAlong 53 = .ok (.iaload, 1) := by decide +kernel
theorem dX10_sortAlong_54 : decode cX10_sortAlong 54 = .ok (.iload_n 2, 1) := by decide +kernel
theorem dX10_sortAlong_55 : decode cX10_sortAlong 55 = .ok (.invokevirtual 57, 3) := by decide +kernel
theorem dX10_sortAlong_58 : decode cX10_sortAlong 58 = .ok (.iload 5, 2) := by decide +kernel
theorem dX10_sortAlong_60 : decode cX10_sortAlong 60 = .ok (.if_icmp .le 25, 3) := by decide +kernel
theorem dX10_sortAlong_63 : decode cX10_sortAlong 63 = .ok (.aload_n 0, 1) := by decide +kernel
theorem dX10_sortAlong_64 : decode cX10_sortAlong 64 = .ok (.getfield 9, 3) := by decide +kernel
theorem dX10_sortAlong_67 : decode cX10_sortAlong 67 = .ok (.iload 6, 2) := by decide +kernel
theorem dX10_sortAlong_69 : decode cX10_sortAlong 69 = .ok (.aload_n 0, 1) := by decide +kernel
theorem dX10_sortAlong_70 : decode cX10_sortAlong 70 = .ok (.getfield 9, 3) := by decide +kernel
theorem dX10_sortAlong_73 : decode cX10_sortAlong 73 = .ok (.iload 6, 2) := by decide +kernel
theorem dX10_sortAlong_75 : decode cX10_sortAlong 75 = .ok (.iconst 1, 1) := by decide +kernel
theorem dX10_sortAlong_76 : decode cX10_sortAlong 76 = .ok (.isub, 1) := by decide +kernel
theorem dX10_sortAlong_77 : decode cX10_sortAlong 77 = .ok (.iaload, 1) := by decide +kernel
theorem dX10_sortAlong_78 : decode cX10_sortAlong 78 = .ok (.iastore, 1) := by decide +kernel
theorem dX10_sortAlong_79 : decode cX10_sortAlong 79 = .ok (.iinc 6 (-1), 3) := by decide +kernel
theorem dX10_sortAlong_82 : decode cX10_sortAlong 82 = .ok (.goto (-43), 3) := by decide +kernel
theorem dX10_sortAlong_85 : decode cX10_sortAlong 85 = .ok (.aload_n 0, 1) := by decide +kernel
theorem dX10_sortAlong_86 : decode cX10_sortAlong 86 = .ok (.getfield 9, 3) := by decide +kernel
theorem dX10_sortAlong_89 : decode cX10_sortAlong 89 = .ok (.iload 6, 2) := by decide +kernel
theorem dX10_sortAlong_91 : decode cX10_sortAlong 91 = .ok (.iload 4, 2) := by decide +kernel
theorem dX10_sortAlong_93 : decode cX10_sortAlong 93 = .ok (.iastore, 1) := by decide +kernel
theorem dX10_sortAlong_94 : decode cX10_sortAlong 94 = .ok (.iinc 3 1, 3) := by decide +kernel
theorem dX10_sortAlong_97 : decode cX10_sortAlong 97 = .ok (.goto (-95), 3) := by decide +kernel
theorem dX10_sortAlong_100 : decode cX10_sortAlong 100 = .ok (.return_, 1) := by decide +kernel
theorem dX10_canShift_0 : decode cX10_canShift 0 = .ok (.iconst 0, 1) := by decide +kernel
theorem dX10_canShift_1 : decode cX10_canShift 1 = .ok (.istore_n 3, 1) := by decide +kernel
theorem dX10_canShift_2 : decode cX10_canShift 2 = .ok (.iload_n 3, 1) := by decide +kernel
theorem dX10_canShift_3 : decode cX10_canShift 3 = .ok (.aload_n 0, 1) := by decide +kernel
theorem dX10_canShift_4 : decode cX10_canShift 4 = .ok (.getfield 18, 3) := by decide +kernel
theorem dX10_canShift_7 : decode cX10_canShift 7 = .ok (.if_icmp .ge 29, 3) := by decide +kernel
theorem dX10_canShift_10 : decode cX10_canShift 10 = .ok (.aload_n 1, 1) := by decide +kernel
theorem dX10_canShift_11 : decode cX10_canShift 11 = .ok (.aload_n 0, 1) := by decide +kernel
theorem dX10_canShift_12 : decode cX10_canShift 12 = .ok (.iload_n 3, 1) := by decide +kernel
theorem dX10_canShift_13 : decode cX10_canShift 13 = .ok (.invokevirtual 49, 3) := by decide +kernel
theorem dX10_canShift_16 : decode cX10_canShift 16 = .ok (.iload_n 2, 1) := by decide +kernel
theorem dX10_canShift_17 : decode cX10_canShift 17 = .ok (.aload_n 0, 1) := by decide +kernel
theorem dX10_canShift_18 : decode cX10_canShift 18 = .ok (.iload_n 3, 1) := by decide +kernel
theorem dX10_canShift_19 : decode cX10_canShift 19 = .ok (.invokevirtual 84, 3) := by decide +kernel
theorem dX10_canShift_22 : decode cX10_canShift 22 = .ok (.invokevirtual 87, 3) := by decide +kernel
theorem dX10_canShift_25 : decode cX10_canShift 25 = .ok (.ifCond .ne 5, 3) := by decide +kernel
theorem dX10_canShift_28 : decode cX10_canShift 28 = .ok (.iconst 0, 1) := by decide +kernel
theorem dX10_canShift_29 : decode cX10_canShift 29 = .ok (.ireturn, 1) := by decide +kernel
theorem dX10_canShift_30 : decode cX10_canShift 30 = .ok (.iinc 3 1, 3) := by decide +kernel
theorem dX10_canShift_33 : decode cX10_canShift 33 = .ok (.goto (-31), 3) := by decide +kernel
theorem dX10_canShift_36 : decode cX10_canShift 36 = .ok (.iconst 1, 1) := by decide +kernel
theorem dX10_canShift_37 : decode cX10_canShift 37 = .ok (.ireturn, 1) := by decide +kernel
theorem dX10_shift_0 : decode cX10_shift 0 = .ok (.iconst 0, 1) := by decide +kernel
theorem dX10_shift_1 : decode cX10_shift 1 = .ok (.istore_n 3, 1) := by decide +kernel
theorem dX10_shift_2 : decode cX10_shift 2 = .ok (.iconst 0, 1) := by decide +kernel
theorem dX10_shift_3 : decode cX10_shift 3 = .ok (.istore 4, 2) := by decide +kernel
theorem dX10_shift_5 : decode cX10_shift 5 = .ok (.iload 4, 2) := by decide +kernel
theorem dX10_shift_7 : decode cX10_shift 7 = .ok (.aload_n 0, 1) := by decide +kernel
theorem dX10_shift_8 : decode cX10_shift 8 = .ok (.getfield 18, 3) := by decide +kernel
theorem dX10_shift_11 : decode cX10_shift 11 = .ok (.if_icmp .ge 38, 3) := by decide +kernel
theorem dX10_shift_14 : decode cX10_shift 14 = .ok (.aload_n 0, 1) := by decide +kernel
theorem dX10_shift_15 : decode cX10_shift 15 = .ok (.iload 4, 2) := by decide +kernel
theorem dX10_shift_17 : decode cX10_shift 17 = .ok (.invokevirtual 84, 3) := by decide +kernel
theorem dX10_shift_20 : decode cX10_shift 20 = .ok (.ifCond .eq 23, 3) := by decide +kernel
theorem dX10_shift_23 : decode cX10_shift 23 = .ok (.aload_n 1, 1) := by decide +kernel
theorem dX10_shift_24 : decode cX10_shift 24 = .ok (.aload_n 0, 1) := by decide +kernel
theorem dX10_shift_25 : decode cX10_shift 25 = .ok (.iload 4, 2) := by decide +kernel
theorem dX10_shift_27 : decode cX10_shift 27 = .ok (.invokevirtual 49, 3) := by decide +kernel
theorem dX10_shift_30 : decode cX10_shift 30 = .ok (.iload_n 2, 1) := by decide +kernel
theorem dX10_shift_31 : decode cX10_shift 31 = .ok (.aload_n 0, 1) := by decide +kernel
theorem dX10_shift_32 : decode cX10_shift 32 = .ok (.iload 4, 2) := by decide +kernel
theorem dX10_shift_34 : decode cX10_shift 34 = .ok (.invokevirtual 84, 3) := by decide +kernel
theorem dX10_shift_37 : decode cX10_shift 37 = .ok (.invokevirtual 91, 3) := by decide +kernel
theorem dX10_shift_40 : decode cX10_shift 40 = .ok (.iinc 3 1, 3) := by decide +kernel
theorem dX10_shift_43 : decode cX10_shift 43 = .ok (.iinc 4 1, 3) := by decide +kernel
theorem dX10_shift_46 : decode cX10_shift 46 = .ok (.goto (-41), 3) := by decide +kernel
theorem dX10_shift_49 : decode cX10_shift 49 = .ok (.iload_n 3, 1) := by decide +kernel
theorem dX10_shift_50 : decode cX10_shift 50 = .ok (.ireturn, 1) := by decide +kernel
theorem dX11_init_0 : decode cX11_init 0 = .ok (.aload_n 0, 1) := by decide +kernel
theorem dX11_init_1 : decode cX11_init 1 = .ok (.invokespecial 1, 3) := by decide +kernel
theorem dX11_init_4 : decode cX11_init 4 = .ok (.aload_n 0, 1) := by decide +kernel
theorem dX11_init_5 : decode cX11_init 5 = .ok (.new 7, 3) := by decide +kernel
theorem dX11_init_8 : decode cX11_init 8 = .ok (.dup, 1) := by decide +kernel
theorem dX11_init_9 : decode cX11_init 9 = .ok (.invokespecial 9, 3) := by decide +kernel
theorem dX11_init_12 : decode cX11_init 12 = .ok (.putfield 10, 3) := by decide +kernel
theorem dX11_init_15 : decode cX11_init 15 = .ok (.aload_n 0, 1) := by decide +kernel
theorem dX11_init_16 : decode cX11_init 16 = .ok (.new 16, 3) := by decide +kernel
theorem dX11_init_19 : decode cX11_init 19 = .ok (.dup, 1) := by decide +kernel
theorem dX11_init_20 : decode cX11_init 20 = .ok (.invokespecial 18, 3) := by decide +kernel
theorem dX11_init_23 : decode cX11_init 23 = .ok (.putfield 19, 3) := by decide +kernel
theorem dX11_init_26 : decode cX11_init 26 = .ok (.aload_n 0, 1) := by decide +kernel
theorem dX11_init_27 : decode cX11_init 27 = .ok (.new 23, 3) := by decide +kernel
theorem dX11_init_30 : decode cX11_init 30 = .ok (.dup, 1) := by decide +kernel
theorem dX11_init_31 : decode cX11_init 31 = .ok (.invokespecial 25, 3) := by decide +kernel
theorem dX11_init_34 : decode cX11_init 34 = .ok (.putfield 26, 3) := by decide +kernel
theorem dX11_init_37 : decode cX11_init 37 = .ok (.aload_n 0, 1) := by decide +kernel
theorem dX11_init_38 : decode cX11_init 38 = .ok (.new 30, 3) := by decide +kernel
theorem dX11_init_41 : decode cX11_init 41 = .ok (.dup, 1) := by decide +kernel
theorem dX11_init_42 : decode cX11_init 42 = .ok (.invokespecial 32, 3) := by decide +kernel
theorem dX11_init_45 : decode cX11_init 45 = .ok (.putfield 33, 3) := by decide +kernel
theorem dX11_init_48 : decode cX11_init 48 = .ok (.aload_n 0, 1) := by decide +kernel
theorem dX11_init_49 : decode cX11_init 49 = .ok (.new 37, 3) := by decide +kernel
theorem dX11_init_52 : decode cX11_init 52 = .ok (.dup, 1) := by decide +kernel
theorem dX11_init_53 : decode cX11_init 53 = .ok (.invokespecial 39, 3) := by decide +kernel
theorem dX11_init_56 : decode cX11_init 56 = .ok (.putfield 40, 3) := by decide +kernel
theorem dX11_init_59 : decode cX11_init 59 = .ok (.return_, 1) := by decide +kernel
theorem dX11_addShape_0 : decode cX11_addShape 0 = .ok (.iload_n 1, 1) := by decide +kernel
theorem dX11_addShape_1 : decode cX11_addShape 1 = .ok (.iconst 0, 1) := by decide +kernel
theorem dX11_addShape_2 : decode cX11_addShape 2 = .ok (.iconst 2, 1) := by decide +kernel
theorem dX11_addShape_3 : decode cX11_addShape 3 = .ok (.invokestatic 44, 3) := by decide +kernel
theorem dX11_addShape_6 : decode cX11_addShape 6 = .ok (.ifCond .eq 17, 3) := by decide +kernel
theorem dX11_addShape_9 : decode cX11_addShape 9 = .ok (.iload_n 2, 1) := by decide +kernel
theorem dX11_addShape_10 : decode cX11_addShape 10 = .ok (.invokestatic 48, 3) := by decide +kernel
theorem dX11_addShape_13 : decode cX11_addShape 13 = .ok (.ifCond .eq 10, 3) := by decide +kernel
theorem dX11_addShape_16 : decode cX11_addShape 16 = .ok (.iload_n 3, 1) := by decide +kernel
theorem dX11_addShape_17 : decode cX11_addShape 17 = .ok (.invokestatic 48, 3) := by decide +kernel
theorem dX11_addShape_20 : decode cX11_addShape 20 = .ok (.ifCond .ne 5, 3) := by decide +kernel
theorem dX11_addShape_23 : decode cX11_addShape 23 = .ok (.iconst (-1), 1) := by decide +kernel
theorem dX11_addShape_24 : decode cX11_addShape 24 = .ok (.ireturn, 1) := by decide +kernel
theorem dX11_addShape_25 : decode cX11_addShape 25 = .ok (.iload 4, 2) := by decide +kernel
theorem dX11_addShape_27 : decode cX11_addShape 27 = .ok (.invokestatic 52, 3) := by decide +kernel
theorem dX11_addShape_30 : decode cX11_addShape 30 = .ok (.ifCond .eq 11, 3) := by decide +kernel
theorem dX11_addShape_33 : decode cX11_addShape 33 = .ok (.iload 5, 2) := by decide +kernel
theorem dX11_addShape_35 : decode cX11_addShape 35 = .ok (.invokestatic 52, 3) := by decide +kernel
theorem dX11_addShape_38 : decode cX11_addShape 38 = .ok (.ifCond .ne 5, 3) := by decide +kernel
theorem dX11_addShape_41 : decode cX11_addShape 41 = .ok (.iconst (-1), 1) := by decide +kernel
theorem dX11_addShape_42 : decode cX11_addShape 42 = .ok (.ireturn, 1) := by decide +kernel
theorem dX11_addShape_43 : decode cX11_addShape 43 = .ok (.aload_n 0, 1) := by decide +kernel
theorem dX11_addShape_44 : decode cX11_addShape 44 = .ok (.getfield 10, 3) := by decide +kernel
theorem dX11_addShape_47 : decode cX11_addShape 47 = .ok (.getfield 55, 3) := by decide +kernel
theorem dX11_addShape_50 : decode cX11_addShape 50 = .ok (.getfield 59, 3) := by decide +kernel
theorem dX11_addShape_53 : decode cX11_addShape 53 = .ok (.bipush 20, 2) := by decide +kernel
theorem dX11_addShape_55 : decode cX11_addShape 55 = .ok (.if_icmp .lt 6, 3) := by decide +kernel
theorem dX11_addShape_58 : decode cX11_addShape 58 = .ok (.bipush (-3), 2) := by decide +kernel
theorem dX11_addShape_60 : decode cX11_addShape 60 = .ok (.ireturn, 1) := by decide +kernel
theorem dX11_addShape_61 : decode cX11_addShape 61 = .ok (.aload_n 0, 1) := by decide +kernel
theorem dX11_addShape_62 : decode cX11_addShape 62 = .ok (.getfield 19, 3) := by decide +kernel
theorem dX11_addShape_65 : decode cX11_addShape 65 = .ok (.aload_n 0, 1) := by decide +kernel
theorem dX11_addShape_66 : decode cX11_addShape 66 = .ok (.getfield 10, 3) := by decide +kernel
theorem dX11_addShape_69 : decode cX11_addShape 69 = .ok (.invokevirtual 65, 3) := by decide +kernel
theorem dX11_addShape_72 : decode cX11_addShape 72 = .ok (.aload_n 0, 1) := by decide +kernel
theorem dX11_addShape_73 : decode cX11_addShape 73 = .ok (.getfield 10, 3) := by decide +kernel
theorem dX11_addShape_76 : decode cX11_addShape 76 = .ok (.getfield 55, 3) := by decide +kernel
theorem dX11_addShape_79 : decode cX11_addShape 79 = .ok (.iload_n 1, 1) := by decide +kernel
theorem dX11_addShape_80 : decode cX11_addShape 80 = .ok (.iload_n 2, 1) := by decide +kernel
theorem dX11_addShape_81 : decode cX11_addShape 81 = .ok (.iload_n 3, 1) := by decide +kernel
theorem dX11_addShape_82 : decode cX11_addShape 82 = .ok (.iload 4, 2) := by decide +kernel
theorem dX11_addShape_84 : decode cX11_addShape 84 = .ok (.iload 5, 2) := by decide +kernel
theorem dX11_addShape_86 : decode cX11_addShape 86 = .ok (.invokevirtual 69, 3) := by decide +kernel
theorem dX11_addShape_89 : decode cX11_addShape 89 = .ok (.ireturn, 1) := by decide +kernel
theorem dX11_removeShape_0 : decode cX11_removeShape 0 = .ok (.aload_n 0, 1) := by decide +kernel
theorem dX11_removeShape_1 : decode cX11_removeShape 1 = .ok (.getfield 10, 3) := by decide +kernel
theorem dX11_removeShape_4 : decode cX11_removeShape 4 = .ok (.getfield 55, 3) := by decide +kernel
theorem dX11_removeShape_7 : decode cX11_removeShape 7 = .ok (.iload_n 1, 1) := by decide +kernel
theorem dX11_removeShape_8 : decode cX11_removeShape 8 = .ok (.invokevirtual 73, 3) := by decide +kernel
theorem dX11_removeShape_11 : decode cX11_removeShape 11 = .ok (.ifnonnull 5, 3) := by decide +kernel
theorem dX11_removeShape_14 : decode cX11_removeShape 14 = .ok (.iconst (-1), 1) := by decide +kernel
theorem dX11_removeShape_15 : decode cX11_removeShape 15 = .ok (.ireturn, 1) := by decide +kernel
theorem dX11_removeShape_16 : decode cX11_removeShape 16 = .ok (.aload_n 0, 1) := by decide +kernel
theorem dX11_removeShape_17 : decode cX11_removeShape 17 = .ok (.getfield 19, 3) := by decide +kernel
theorem dX11_removeShape_20 : decode cX11_removeShape 20 = .ok (.aload_n 0, 1) := by decide +kernel
theorem dX11_removeShape_21 : decode cX11_removeShape 21 = .ok (.getfield 10, 3) := by decide +kernel
theorem dX11_removeShape_24 : decode cX11_removeShape 24 = .ok (.invokevirtual 65, 3) := by decide +kernel
theorem dX11_removeShape_27 : decode cX11_removeShape 27 = .ok (.aload_n 0, 1) := by decide +kernel
theorem dX11_removeShape_28 : decode cX11_removeShape 28 = .ok (.getfield 10, 3) := by decide +kernel
theorem dX11_removeShape_31 : decode cX11_removeShape 31 = .ok (.iload_n 1, 1) := by decide +kernel
theorem dX11_removeShape_32 : decode cX11_removeShape 32 = .ok (.invokevirtual 77, 3) := by decide +kernel
theorem dX11_removeShape_35 : decode cX11_removeShape 35 = .ok (.ireturn, 1) := by decide +kernel
theorem dX11_resize_0 : decode cX11_resize 0 = .ok (.aload_n 0, 1) := by decide +kernel
theorem dX11_resize_1 : decode cX11_resize 1 = .ok (.getfield 10, 3) := by decide +kernel
theorem dX11_resize_4 : decode cX11_resize 4 = .ok (.getfield 55, 3) := by decide +kernel
theorem dX11_resize_7 : decode cX11_resize 7 = .ok (.iload_n 1, 1) := by decide +kernel
theorem dX11_resize_8 : decode cX11_resize 8 = .ok (.invokevirtual 73, 3) := by decide +kernel
theorem dX11_resize_11 : decode cX11_resize 11 = .ok (.astore 4, 2) := by decide +kernel
theorem dX11_resize_13 : decode cX11_resize 13 = .ok (.aload 4, 2) := by decide +kernel
theorem dX11_resize_15 : decode cX11_resize 15 = .ok (.ifnull 17, 3) := by decide +kernel
theorem dX11_resize_18 : decode cX11_resize 18 = .ok (.iload_n 2, 1) := by decide +kernel
theorem dX11_resize_19 : decode cX11_resize 19 = .ok (.invokestatic 52, 3) := by decide +kernel
theorem dX11_resize_22 : decode cX11_resize 22 = .ok (.ifCond .eq 10, 3) := by decide +kernel
theorem dX11_resize_25 : decode cX11_resize 25 = .ok (.iload_n 3, 1) := by decide +kernel
theorem dX11_resize_26 : decode cX11_resize 26 = .ok (.invokestatic 52, 3) := by decide +kernel
theorem dX11_resize_29 : decode cX11_resize 29 = .ok (.ifCond .ne 5, 3) := by decide +kernel
theorem dX11_resize_32 : decode cX11_resize 32 = .ok (.iconst (-1), 1) := by decide +kernel
theorem dX11_resize_33 : decode cX11_resize 33 = .ok (.ireturn, 1) := by decide +kernel
theorem dX11_resize_34 : decode cX11_resize 34 = .ok (.aload_n 0, 1) := by decide +kernel
theorem dX11_resize_35 : decode cX11_resize 35 = .ok (.getfield 19, 3) := by decide +kernel
theorem dX11_resize_38 : decode cX11_resize 38 = .ok (.aload_n 0, 1) := by decide +kernel
theorem dX11_resize_39 : decode cX11_resize 39 = .ok (.getfield 10, 3) := by decide +kernel
theorem dX11_resize_42 : decode cX11_resize 42 = .ok (.invokevirtual 65, 3) := by decide +kernel
theorem dX11_resize_45 : decode cX11_resize 45 = .ok (.aload 4, 2) := by decide +kernel
theorem dX11_resize_47 : decode cX11_resize 47 = .ok (.iload_n 2, 1) := by decide +kernel
theorem dX11_resize_48 : decode cX11_resize 48 = .ok (.putfield 81, 3) := by decide +kernel
theorem dX11_resize_51 : decode cX11_resize 51 = .ok (.aload 4, 2) := by decide +kernel
theorem dX11_resize_53 : decode cX11_resize 53 = .ok (.iload_n 3, 1) := by decide +kernel
theorem dX11_resize_54 : decode cX11_resize 54 = .ok (.putfield 86, 3) := by decide +kernel
theorem dX11_resize_57 : decode cX11_resize 57 = .ok (.aload_n 0, 1) := by decide +kernel
theorem dX11_resize_58 : decode cX11_resize 58 = .ok (.getfield 10, 3) := by decide +kernel
theorem dX11_resize_61 : decode cX11_resize 61 = .ok (.getfield 89, 3) := by decide +kernel
theorem dX11_resize_64 : decode cX11_resize 64 = .ok (.iload_n 1, 1) := by decide +kernel
theorem dX11_resize_65 : decode cX11_resize 65 = .ok (.invokevirtual 93, 3) := by decide +kernel
theorem dX11_resize_68 : decode cX11_resize 68 = .ok (.ireturn, 1) := by decide +kernel
theorem dX11_shape_0 : decode cX11_shape 0 = .ok (.aload_n 0, 1) := by decide +kernel
theorem dX11_shape_1 : decode cX11_shape 1 = .ok (.getfield 10, 3) := by decide +kernel
theorem dX11_shape_4 : decode cX11_shape 4 = .ok (.getfield 55, 3) := by decide +kernel
theorem dX11_shape_7 : decode cX11_shape 7 = .ok (.iload_n 1, 1) := by decide +kernel
theorem dX11_shape_8 : decode cX11_shape 8 = .ok (.invokevirtual 73, 3) := by decide +kernel
theorem dX11_shape_11 : decode cX11_shape 11 = .ok (.astore_n 3, 1) := by decide +kernel
theorem dX11_shape_12 : decode cX11_shape 12 = .ok (.aload_n 3, 1) := by decide +kernel
theorem dX11_shape_13 : decode cX11_shape 13 = .ok (.ifnonnull 6, 3) := by decide +kernel
theorem dX11_shape_16 : decode cX11_shape 16 = .ok (.ldc 98, 2) := by decide +kernel
theorem dX11_shape_18 : decode cX11_shape 18 = .ok (.ireturn, 1) := by decide +kernel
theorem dX11_shape_19 : decode cX11_shape 19 = .ok (.iload_n 2, 1) := by decide +kernel
theorem dX11_shape_20 : decode cX11_shape 20 = .ok (.tableswitch 125 0 8 #[52, 57, 62, 67, 72, 77, 100, 105, 110], 52) := by decide +kernel
theorem dX11_shape_72 : decode cX11_shape 72 = .ok (.aload_n 3, 1) := by decide +kernel
theorem dX11_shape_73 : decode cX11_shape 73 = .ok (.getfield 99, 3) := by decide +kernel
theorem dX11_shape_76 : decode cX11_shape 76 = .ok (.ireturn, 1) := by decide +kernel
theorem dX11_shape_77 : decode cX11_shape 77 = .ok (.aload_n 3, 1) := by decide +kernel
theorem dX11_shape_78 : decode cX11_shape 78 = .ok (.getfield 102, 3) := by decide +kernel
theorem dX11_shape_81 : decode cX11_shape 81 = .ok (.ireturn, 1) := by decide +kernel
theorem dX11_shape_82 : decode cX11_shape 82 = .ok (.aload_n 3, 1) := by decide +kernel
theorem dX11_shape_83 : decode cX11_shape 83 = .ok (.getfield 105, 3) := by decide +kernel
theorem dX11_shape_86 : decode cX11_shape 86 = .ok (.ireturn, 1) := by decide +kernel
theorem dX11_shape_87 : decode cX11_shape 87 = .ok (.aload_n 3, 1) := by decide +kernel
theorem dX11_shape_88 : decode cX11_shape 88 = .ok (.getfield 81, 3) := by decide +kernel
theorem dX11_shape_91 : decode cX11_shape 91 = .ok (.ireturn, 1) := by decide +kernel
theorem dX11_shape_92 : decode cX11_shape 92 = .ok (.aload_n 3, 1) := by decide +kernel
theorem dX11_shape_93 : decode cX11_shape 93 = .ok (.getfield 86, 3) := by decide +kernel
theorem dX11_shape_96 : decode cX11_shape 96 = .ok (.ireturn, 1) := by decide +kernel
theorem dX11_shape_97 : decode cX11_shape 97 = .ok (.aload_n 0, 1) := by decide +kernel
theorem dX11_shape_98 : decode cX11_shape 98 = .ok (.getfield 10, 3) := by decide +kernel
theorem dX11_shape_101 : decode cX11_shape 101 = .ok (.getfield 55, 3) := by decide +kernel
theorem dX11_shape_104 : decode cX11_shape 104 = .ok (.getfield 108, 3) := by decide +kernel
theorem dX11_shape_107 : decode cX11_shape 107 = .ok (.iload_n 1, 1) := by decide +kernel
theorem dX11_shape_108 : decode cX11_shape 108 = .ok (.invokestatic 111, 3) := by decide +kernel
theorem dX11_shape_111 : decode cX11_shape 111 = .ok (.ifCond .eq 7, 3) := by decide +kernel
theorem dX11_shape_114 : decode cX11_shape 114 = .ok (.iconst 1, 1) := by decide +kernel
theorem dX11_shape_115 : decode cX11_shape 115 = .ok (.goto 4, 3) := by decide +kernel
theorem dX11_shape_118 : decode cX11_shape 118 = .ok (.iconst 0, 1) := by decide +kernel
theorem dX11_shape_119 : decode cX11_shape 119 = .ok (.ireturn, 1) := by decide +kernel
theorem dX11_shape_120 : decode cX11_shape 120 = .ok (.aload_n 3, 1) := by decide +kernel
theorem dX11_shape_121 : decode cX11_shape 121 = .ok (.getfield 115, 3) := by decide +kernel
theorem dX11_shape_124 : decode cX11_shape 124 = .ok (.ireturn, 1) := by decide +kernel
theorem dX11_shape_125 : decode cX11_shape 125 = .ok (.aload_n 3, 1) := by decide +kernel
theorem dX11_shape_126 : decode cX11_shape 126 = .ok (.getfield 118, 3) := by decide +kernel
theorem dX11_shape_129 : decode cX11_shape 129 = .ok (.ireturn, 1) := by decide +kernel
theorem dX11_shape_130 : decode cX11_shape 130 = .ok (.aload_n 0, 1) := by decide +kernel
theorem dX11_shape_131 : decode cX11_shape 131 = .ok (.getfield 10, 3) := by decide +kernel
theorem dX11_shape_134 : decode cX11_shape 134 = .ok (.getfield 121, 3) := by decide +kernel
theorem dX11_shape_137 : decode cX11_shape 137 = .ok (.aload_n 3, 1) := by decide +kernel
theorem dX11_shape_138 : decode cX11_shape 138 = .ok (.getfield 118, 3) := by decide +kernel
theorem dX11_shape_141 : decode cX11_shape 141 = .ok (.invokevirtual 125, 3) := by decide +kernel
theorem dX11_shape_144 : decode cX11_shape 144 = .ok (.ireturn, 1) := by decide +kernel
theorem dX11_shape_145 : decode cX11_shape 145 = .ok (.ldc 98, 2) := by decide +kernel
theorem dX11_shape_147 : decode cX11_shape 147 = .ok (.ireturn, 1) := by decide +kernel
theorem dX11_port_0 : decode cX11_port 0 = .ok (.aload_n 0, 1) := by decide +kernel
theorem dX11_port_1 : decode cX11_port 1 = .ok (.getfield 10, 3) := by decide +kernel
theorem dX11_port_4 : decode cX11_port 4 = .ok (.getfield 55, 3) := by decide +kernel
theorem dX11_port_7 : decode cX11_port 7 = .ok (.iload_n 1, 1) := by decide +kernel
theorem dX11_port_8 : decode cX11_port 8 = .ok (.invokevirtual 73, 3) := by decide +kernel
theorem dX11_port_11 : decode cX11_port 11 = .ok (.astore 4, 2) := by decide +kernel
theorem dX11_port_13 : decode cX11_port 13 = .ok (.aload 4, 2) := by decide +kernel
theorem dX11_port_15 : decode cX11_port 15 = .ok (.ifnull 17, 3) := by decide +kernel
theorem dX11_port_18 : decode cX11_port 18 = .ok (.iload_n 2, 1) := by decide +kernel
theorem dX11_port_19 : decode cX11_port 19 = .ok (.invokestatic 130, 3) := by decide +kernel
theorem dX11_port_22 : decode cX11_port 22 = .ok (.ifCond .eq 10, 3) := by decide +kernel
theorem dX11_port_25 : decode cX11_port 25 = .ok (.iload_n 3, 1) := by decide +kernel
theorem dX11_port_26 : decode cX11_port 26 = .ok (.invokestatic 133, 3) := by decide +kernel
theorem dX11_port_29 : decode cX11_port 29 = .ok (.ifCond .ne 6, 3) := by decide +kernel
theorem dX11_port_32 : decode cX11_port 32 = .ok (.ldc 98, 2) := by decide +kernel
theorem dX11_port_34 : decode cX11_port 34 = .ok (.ireturn, 1) := by decide +kernel
theorem dX11_port_35 : decode cX11_port 35 = .ok (.aload 4, 2) := by decide +kernel
theorem dX11_port_37 : decode cX11_port 37 = .ok (.iload_n 2, 1) := by decide +kernel
theorem dX11_port_38 : decode cX11_port 38 = .ok (.iload_n 3, 1) := by decide +kernel
theorem dX11_port_39 : decode cX11_port 39 = .ok (.invokevirtual 136, 3) := by decide +kernel
theorem dX11_port_42 : decode cX11_port 42 = .ok (.ireturn, 1) := by decide +kernel
theorem dX11_bring_0 : decode cX11_bring 0 = .ok (.aload_n 0, 1) := by decide +kernel
theorem dX11_bring_1 : decode cX11_bring 1 = .ok (.getfield 10, 3) := by decide +kernel
theorem dX11_bring_4 : decode cX11_bring 4 = .ok (.getfield 55, 3) := by decide +kernel
theorem dX11_bring_7 : decode cX11_bring 7 = .ok (.iload_n 1, 1) := by decide +kernel
theorem dX11_bring_8 : decode cX11_bring 8 = .ok (.invokevirtual 73, 3) := by decide +kernel
theorem dX11_bring_11 : decode cX11_bring 11 = .ok (.astore_n 3, 1) := by decide +kernel
theorem dX11_bring_12 : decode cX11_bring 12 = .ok (.aload_n 3, 1) := by decide +kernel
theorem dX11_bring_13 : decode cX11_bring 13 = .ok (.ifnonnull 5, 3) := by decide +kernel
theorem dX11_bring_16 : decode cX11_bring 16 = .ok (.iconst (-1), 1) := by decide +kernel
theorem dX11_bring_17 : decode cX11_bring 17 = .ok (.ireturn, 1) := by decide +kernel
theorem dX11_bring_18 : decode cX11_bring 18 = .ok (.aload_n 0, 1) := by decide +kernel
theorem dX11_bring_19 : decode cX11_bring 19 = .ok (.getfield 19, 3) := by decide +kernel
theorem dX11_bring_22 : decode cX11_bring 22 = .ok (.aload_n 0, 1) := by decide +kernel
theorem dX11_bring_23 : decode cX11_bring 23 = .ok (.getfield 10, 3) := by decide +kernel
theorem dX11_bring_26 : decode cX11_bring 26 = .ok (.invokevirtual 65, 3) := by decide +kernel
theorem dX11_bring_29 : decode cX11_bring 29 = .ok (.aload_n 3, 1) := by decide +kernel
theorem dX11_bring_30 : decode cX11_bring 30 = .ok (.getfield 115, 3) := by decide +kernel
theorem dX11_bring_33 : decode cX11_bring 33 = .ok (.istore 4, 2) := by decide +kernel
theorem dX11_bring_35 : decode cX11_bring 35 = .ok (.aload_n 0, 1) := by decide +kernel
theorem dX11_bring_36 : decode cX11_bring 36 = .ok (.getfield 10, 3) := by decide +kernel
theorem dX11_bring_39 : decode cX11_bring 39 = .ok (.getfield 55, 3) := by decide +kernel
theorem dX11_bring_42 : decode cX11_bring 42 = .ok (.aload_n 3, 1) := by decide +kernel
theorem dX11_bring_43 : decode cX11_bring 43 = .ok (.iload_n 2, 1) := by decide +kernel
theorem dX11_bring_44 : decode cX11_bring 44 = .ok (.ifCond .eq 7, 3) := by decide +kernel
theorem dX11_bring_47 : decode cX11_bring 47 = .ok (.iconst 0, 1) := by decide +kernel
theorem dX11_bring_48 : decode cX11_bring 48 = .ok (.goto 15, 3) := by decide +kernel
theorem dX11_bring_51 : decode cX11_bring 51 = .ok (.aload_n 0, 1) := by decide +kernel
theorem dX11_bring_52 : decode cX11_bring 52 = .ok (.getfield 10, 3) := by decide +kernel
theorem dX11_bring_55 : decode cX11_bring 55 = .ok (.getfield 55, 3) := by decide +kernel
theorem dX11_bring_58 : decode cX11_bring 58 = .ok (.invokevirtual 140, 3) := by decide +kernel
theorem dX11_bring_61 : decode cX11_bring 61 = .ok (.iconst 1, 1) := by decide +kernel
theorem dX11_bring_62 : decode cX11_bring 62 = .ok (.isub, 1) := by decide +kernel
theorem dX11_bring_63 : decode cX11_bring 63 = .ok (.invokevirtual 144, 3) := by decide +kernel
theorem dX11_bring_66 : decode cX11_bring 66 = .ok (.iload 4, 2) := by decide +kernel
theorem dX11_bring_68 : decode cX11_bring 68 = .ok (.ireturn, 1) := by decide +kernel
theorem dX11_at_0 : decode cX11_at 0 = .ok (.iload_n 1, 1) := by decide +kernel
theorem dX11_at_1 : decode cX11_at 1 = .ok (.ldc 148, 2) := by decide +kernel
theorem dX11_at_3 : decode cX11_at 3 = .ok (.ldc 149, 2) := by decide +kernel
theorem dX11_at_5 : decode cX11_at 5 = .ok (.invokestatic 44, 3) := by decide +kernel
theorem dX11_at_8 : decode cX11_at 8 = .ok (.ifCond .eq 14, 3) := by decide +kernel
theorem dX11_at_11 : decode cX11_at 11 = .ok (.iload_n 2, 1) := by decide +kernel
theorem dX11_at_12 : decode cX11_at 12 = .ok (.ldc 148, 2) := by decide +kernel
theorem dX11_at_14 : decode cX11_at 14 = .ok (.ldc 149, 2) := by decide +kernel
theorem dX11_at_16 : decode cX11_at 16 = .ok (.invokestatic 44, 3) := by decide +kernel
theorem dX11_at_19 : decode cX11_at 19 = .ok (.ifCond .ne 5, 3) := by decide +kernel
theorem dX11_at_22 : decode cX11_at 22 = .ok (.iconst (-1), 1) := by decide +kernel
theorem dX11_at_23 : decode cX11_at 23 = .ok (.ireturn, 1) := by decide +kernel
theorem dX11_at_24 : decode cX11_at 24 = .ok (.aload_n 0, 1) := by decide +kernel
theorem dX11_at_25 : decode cX11_at 25 = .ok (.getfield 10, 3) := by decide +kernel
theorem dX11_at_28 : decode cX11_at 28 = .ok (.getfield 55, 3) := by decide +kernel
theorem dX11_at_31 : decode cX11_at 31 = .ok (.iload_n 1, 1) := by decide +kernel
theorem dX11_at_32 : decode cX11_at 32 = .ok (.iload_n 2, 1) := by decide +kernel
theorem dX11_at_33 : decode cX11_at 33 = .ok (.invokevirtual 150, 3) := by decide +kernel
theorem dX11_at_36 : decode cX11_at 36 = .ok (.ireturn, 1) := by decide +kernel
theorem dX11_connect_0 : decode cX11_connect 0 = .ok (.aload_n 0, 1) := by decide +kernel
theorem dX11_connect_1 : decode cX11_connect 1 = .ok (.getfield 10, 3) := by decide +kernel
theorem dX11_connect_4 : decode cX11_connect 4 = .ok (.getfield 55, 3) := by decide +kernel
theorem dX11_connect_7 : decode cX11_connect 7 = .ok (.iload_n 1, 1) := by decide +kernel
theorem dX11_connect_8 : decode cX11_connect 8 = .ok (.invokevirtual 73, 3) := by decide +kernel
theorem dX11_connect_11 : decode cX11_connect 11 = .ok (.ifnull 22, 3) := by decide +kernel
theorem dX11_connect_14 : decode cX11_connect 14 = .ok (.aload_n 0, 1) := by decide +kernel
theorem dX11_connect_15 : decode cX11_connect 15 = .ok (.getfield 10, 3) := by decide +kernel
theorem dX11_connect_18 : decode cX11_connect 18 = .ok (.getfield 55, 3) := by decide +kernel
theorem dX11_connect_21 : decode cX11_connect 21 = .ok (.iload_n 3, 1) := by decide +kernel
theorem dX11_connect_22 : decode cX11_connect 22 = .ok (.invokevirtual 73, 3) := by decide +kernel
theorem dX11_connect_25 : decode cX11_connect 25 = .ok (.ifnull 8, 3) := by decide +kernel
theorem dX11_connect_28 : decode cX11_connect 28 = .ok (.iload_n 1, 1) := by decide +kernel
theorem dX11_connect_29 : decode cX11_connect 29 = .ok (.iload_n 3, 1) := by decide +kernel
theorem dX11_connect_30 : decode cX11_connect 30 = .ok (.if_icmp .ne 5, 3) := by decide +kernel
theorem dX11_connect_33 : decode cX11_connect 33 = .ok (.iconst (-1), 1) := by decide +kernel
theorem dX11_connect_34 : decode cX11_connect 34 = .ok (.ireturn, 1) := by decide +kernel
theorem dX11_connect_35 : decode cX11_connect 35 = .ok (.iload_n 2, 1) := by decide +kernel
theorem dX11_connect_36 : decode cX11_connect 36 = .ok (.invokestatic 130, 3) := by decide +kernel
theorem dX11_connect_39 : decode cX11_connect 39 = .ok (.ifCond .eq 21, 3) := by decide +kernel
theorem dX11_connect_42 : decode cX11_connect 42 = .ok (.iload 4, 2) := by decide +kernel
theorem dX11_connect_44 : decode cX11_connect 44 = .ok (.invokestatic 130, 3) := by decide +kernel
theorem dX11_connect_47 : decode cX11_connect 47 = .ok (.ifCond .eq 13, 3) := by decide +kernel
theorem dX11_connect_50 : decode cX11_connect 50 = .ok (.iload 5, 2) := by decide +kernel
theorem dX11_connect_52 : decode cX11_connect 52 = .ok (.iconst 0, 1) := by decide +kernel
theorem dX11_connect_53 : decode cX11_connect 53 = .ok (.iconst 2, 1) := by decide +kernel
theorem dX11_connect_54 : decode cX11_connect 54 = .ok (.invokestatic 44, 3) := by decide +kernel
theorem dX11_connect_57 : decode cX11_connect 57 = .ok (.ifCond .ne 5, 3) := by decide +kernel
theorem dX11_connect_60 : decode cX11_connect 60 = .ok (.iconst (-1), 1) := by decide +kernel
theorem dX11_connect_61 : decode cX11_connect 61 = .ok (.ireturn, 1) := by decide +kernel
theorem dX11_connect_62 : decode cX11_connect 62 = .ok (.aload_n 0, 1) := by decide +kernel
theorem dX11_connect_63 : decode cX11_connect 63 = .ok (.getfield 10, 3) := by decide +kernel
theorem dX11_connect_66 : decode cX11_connect 66 = .ok (.getfield 89, 3) := by decide +kernel
theorem dX11_connect_69 : decode cX11_connect 69 = .ok (.getfield 153, 3) := by decide +kernel
theorem dX11_connect_72 : decode cX11_connect 72 = .ok (.bipush 20, 2) := by decide +kernel
theorem dX11_connect_74 : decode cX11_connect 74 = .ok (.if_icmp .lt 6, 3) := by decide +kernel
theorem dX11_connect_77 : decode cX11_connect 77 = .ok (.bipush (-3), 2) := by decide +kernel
theorem dX11_connect_79 : decode cX11_connect 79 = .ok (.ireturn, 1) := by decide +kernel
theorem dX11_connect_80 : decode cX11_connect 80 = .ok (.aload_n 0, 1) := by decide +kernel
theorem dX11_connect_81 : decode cX11_connect 81 = .ok (.getfield 19, 3) := by decide +kernel
theorem dX11_connect_84 : decode cX11_connect 84 = .ok (.aload_n 0, 1) := by decide +kernel
theorem dX11_connect_85 : decode cX11_connect 85 = .ok (.getfield 10, 3) := by decide +kernel
theorem dX11_connect_88 : decode cX11_connect 88 = .ok (.invokevirtual 65, 3) := by decide +kernel
theorem dX11_connect_91 : decode cX11_connect 91 = .ok (.aload_n 0, 1) := by decide +kernel
theorem dX11_connect_92 : decode cX11_connect 92 = .ok (.getfield 10, 3) := by decide +kernel
theorem dX11_connect_95 : decode cX11_connect 95 = .ok (.getfield 89, 3) := by decide +kernel
theorem dX11_connect_98 : decode cX11_connect 98 = .ok (.iload_n 1, 1) := by decide +kernel
theorem dX11_connect_99 : decode cX11_connect 99 = .ok (.iload_n 2, 1) := by decide +kernel
theorem dX11_connect_100 : decode cX11_connect 100 = .ok (.iload_n 3, 1) := by decide +kernel
theorem dX11_connect_101 : decode cX11_connect 101 = .ok (.iload 4, 2) := by decide +kernel
theorem dX11_connect_103 : decode cX11_connect 103 = .ok (.iload 5, 2) := by decide +kernel
theorem dX11_connect_105 : decode cX11_connect 105 = .ok (.invokevirtual 155, 3) := by decide +kernel
theorem dX11_connect_108 : decode cX11_connect 108 = .ok (.ireturn, 1) := by decide +kernel
theorem dX11_disconnect_0 : decode cX11_disconnect 0 = .ok (.aload_n 0, 1) := by decide +kernel
theorem dX11_disconnect_1 : decode cX11_disconnect 1 = .ok (.getfield 10, 3) := by decide +kernel
theorem dX11_disconnect_4 : decode cX11_disconnect 4 = .ok (.getfield 89, 3) := by decide +kernel
theorem dX11_disconnect_7 : decode cX11_disconnect 7 = .ok (.iload_n 1, 1) := by decide +kernel
theorem dX11_disconnect_8 : decode cX11_disconnect 8 = .ok (.invokevirtual 156, 3) := by decide +kernel
theorem dX11_disconnect_11 : decode cX11_disconnect 11 = .ok (.ifnonnull 5, 3) := by decide +kernel
theorem dX11_disconnect_14 : decode cX11_disconnect 14 = .ok (.iconst (-1), 1) := by decide +kernel
theorem dX11_disconnect_15 : decode cX11_disconnect 15 = .ok (.ireturn, 1) := by decide +kernel
theorem dX11_disconnect_16 : decode cX11_disconnect 16 = .ok (.aload_n 0, 1) := by decide +kernel
theorem dX11_disconnect_17 : decode cX11_disconnect 17 = .ok (.getfield 19, 3) := by decide +kernel
theorem dX11_disconnect_20 : decode cX11_disconnect 20 = .ok (.aload_n 0, 1) := by decide +kernel
theorem dX11_disconnect_21 : decode cX11_disconnect 21 = .ok (.getfield 10, 3) := by decide +kernel
theorem dX11_disconnect_24 : decode cX11_disconnect 24 = .ok (.invokevirtual 65, 3) := by decide +kernel
theorem dX11_disconnect_27 : decode cX11_disconnect 27 = .ok (.aload_n 0, 1) := by decide +kernel
theorem dX11_disconnect_28 : decode cX11_disconnect 28 = .ok (.getfield 10, 3) := by decide +kernel
theorem dX11_disconnect_31 : decode cX11_disconnect 31 = .ok (.getfield 89, 3) := by decide +kernel
theorem dX11_disconnect_34 : decode cX11_disconnect 34 = .ok (.iload_n 1, 1) := by decide +kernel
theorem dX11_disconnect_35 : decode cX11_disconnect 35 = .ok (.invokevirtual 159, 3) := by decide +kernel
theorem dX11_disconnect_38 : decode cX11_disconnect 38 = .ok (.aload_n 0, 1) := by decide +kernel
theorem dX11_disconnect_39 : decode cX11_disconnect 39 = .ok (.getfield 10, 3) := by decide +kernel
theorem dX11_disconnect_42 : decode cX11_disconnect 42 = .ok (.getfield 89, 3) := by decide +kernel
theorem dX11_disconnect_45 : decode cX11_disconnect 45 = .ok (.getfield 153, 3) := by decide +kernel
theorem dX11_disconnect_48 : decode cX11_disconnect 48 = .ok (.ireturn, 1) := by decide +kernel
theorem dX11_connectors_0 : decode cX11_connectors 0 = .ok (.aload_n 0, 1) := by decide +kernel
theorem dX11_connectors_1 : decode cX11_connectors 1 = .ok (.getfield 10, 3) := by decide +kernel
theorem dX11_connectors_4 : decode cX11_connectors 4 = .ok (.getfield 89, 3) := by decide +kernel
theorem dX11_connectors_7 : decode cX11_connectors 7 = .ok (.getfield 153, 3) := by decide +kernel
theorem dX11_connectors_10 : decode cX11_connectors 10 = .ok (.ireturn, 1) := by decide +kernel
theorem dX11_point_0 : decode cX11_point 0 = .ok (.aload_n 0, 1) := by decide +kernel
theorem dX11_point_1 : decode cX11_point 1 = .ok (.getfield 10, 3) := by decide +kernel
theorem dX11_point_4 : decode cX11_point 4 = .ok (.getfield 89, 3) := by decide +kernel
theorem dX11_point_7 : decode cX11_point 7 = .ok (.iload_n 1, 1) := by decide +kernel
theorem dX11_point_8 : decode cX11_point 8 = .ok (.invokevirtual 156, 3) := by decide +kernel
theorem dX11_point_11 : decode cX11_point 11 = .ok (.astore 4, 2) := by decide +kernel
theorem dX11_point_13 : decode cX11_point 13 = .ok (.aload 4, 2) := by decide +kernel
theorem dX11_point_15 : decode cX11_point 15 = .ok (.ifnull 23, 3) := by decide +kernel
theorem dX11_point_18 : decode cX11_point 18 = .ok (.iload_n 2, 1) := by decide +kernel
theorem dX11_point_19 : decode cX11_point 19 = .ok (.iconst 0, 1) := by decide +kernel
theorem dX11_point_20 : decode cX11_point 20 = .ok (.aload 4, 2) := by decide +kernel
theorem dX11_point_22 : decode cX11_point 22 = .ok (.invokevirtual 163, 3) := by decide +kernel
theorem dX11_point_25 : decode cX11_point 25 = .ok (.invokestatic 44, 3) := by decide +kernel
theorem dX11_point_28 : decode cX11_point 28 = .ok (.ifCond .eq 10, 3) := by decide +kernel
theorem dX11_point_31 : decode cX11_point 31 = .ok (.iload_n 3, 1) := by decide +kernel
theorem dX11_point_32 : decode cX11_point 32 = .ok (.invokestatic 133, 3) := by decide +kernel
theorem dX11_point_35 : decode cX11_point 35 = .ok (.ifCond .ne 6, 3) := by decide +kernel
theorem dX11_point_38 : decode cX11_point 38 = .ok (.ldc 98, 2) := by decide +kernel
theorem dX11_point_40 : decode cX11_point 40 = .ok (.ireturn, 1) := by decide +kernel
theorem dX11_point_41 : decode cX11_point 41 = .ok (.aload 4, 2) := by decide +kernel
theorem dX11_point_43 : decode cX11_point 43 = .ok (.aload_n 0, 1) := by decide +kernel
theorem dX11_point_44 : decode cX11_point 44 = .ok (.getfield 10, 3) := by decide +kernel
theorem dX11_point_47 : decode cX11_point 47 = .ok (.getfield 55, 3) := by decide +kernel
theorem dX11_point_50 : decode cX11_point 50 = .ok (.iload_n 2, 1) := by decide +kernel
theorem dX11_point_51 : decode cX11_point 51 = .ok (.iload_n 3, 1) := by decide +kernel
theorem dX11_point_52 : decode cX11_point 52 = .ok (.invokevirtual 168, 3) := by decide +kernel
theorem dX11_point_55 : decode cX11_point 55 = .ok (.ireturn, 1) := by decide +kernel
theorem dX11_length_0 : decode cX11_length 0 = .ok (.aload_n 0, 1) := by decide +kernel
theorem dX11_length_1 : decode cX11_length 1 = .ok (.getfield 10, 3) := by decide +kernel
theorem dX11_length_4 : decode cX11_length 4 = .ok (.getfield 89, 3) := by decide +kernel
theorem dX11_length_7 : decode cX11_length 7 = .ok (.iload_n 1, 1) := by decide +kernel
theorem dX11_length_8 : decode cX11_length 8 = .ok (.invokevirtual 156, 3) := by decide +kernel
theorem dX11_length_11 : decode cX11_length 11 = .ok (.astore_n 2, 1) := by decide +kernel
theorem dX11_length_12 : decode cX11_length 12 = .ok (.aload_n 2, 1) := by decide +kernel
theorem dX11_length_13 : decode cX11_length 13 = .ok (.ifnonnull 7, 3) := by decide +kernel
theorem dX11_length_16 : decode cX11_length 16 = .ok (.iconst (-1), 1) := by decide +kernel
theorem dX11_length_17 : decode cX11_length 17 = .ok (.goto 14, 3) := by decide +kernel
theorem dX11_length_20 : decode cX11_length 20 = .ok (.aload_n 2, 1) := by decide +kernel
theorem dX11_length_21 : decode cX11_length 21 = .ok (.aload_n 0, 1) := by decide +kernel
theorem dX11_length_22 : decode cX11_length 22 = .ok (.getfield 10, 3) := by decide +kernel
theorem dX11_length_25 : decode cX11_length 25 = .ok (.getfield 55, 3) := by decide +kernel
theorem dX11_length_28 : decode cX11_length 28 = .ok (.invokevirtual 172, 3) := by decide +kernel
theorem dX11_length_31 : decode cX11_length 31 = .ok (.ireturn, 1) := by decide +kernel
theorem dX11_through_0 : decode cX11_through 0 = .ok (.aload_n 0, 1) := by decide +kernel
theorem dX11_through_1 : decode cX11_through 1 = .ok (.getfield 10, 3) := by decide +kernel
theorem dX11_through_4 : decode cX11_through 4 = .ok (.getfield 89, 3) := by decide +kernel
theorem dX11_through_7 : decode cX11_through 7 = .ok (.iload_n 1, 1) := by decide +kernel
theorem dX11_through_8 : decode cX11_through 8 = .ok (.invokevirtual 156, 3) := by decide +kernel
theorem dX11_through_11 : decode cX11_through 11 = .ok (.astore_n 2, 1) := by decide +kernel
theorem dX11_through_12 : decode cX11_through 12 = .ok (.aload_n 2, 1) := by decide +kernel
theorem dX11_through_13 : decode cX11_through 13 = .ok (.ifnonnull 7, 3) := by decide +kernel
theorem dX11_through_16 : decode cX11_through 16 = .ok (.iconst (-1), 1) := by decide +kernel
theorem dX11_through_17 : decode cX11_through 17 = .ok (.goto 14, 3) := by decide +kernel
theorem dX11_through_20 : decode cX11_through 20 = .ok (.aload_n 2, 1) := by decide +kernel
theorem dX11_through_21 : decode cX11_through 21 = .ok (.aload_n 0, 1) := by decide +kernel
theorem dX11_through_22 : decode cX11_through 22 = .ok (.getfield 10, 3) := by decide +kernel
theorem dX11_through_25 : decode cX11_through 25 = .ok (.getfield 55, 3) := by decide +kernel
theorem dX11_through_28 : decode cX11_through 28 = .ok (.invokevirtual 176, 3) := by decide +kernel
theorem dX11_through_31 : decode cX11_through 31 = .ok (.ireturn, 1) := by decide +kernel
theorem dX11_select_0 : decode cX11_select 0 = .ok (.aload_n 0, 1) := by decide +kernel
theorem dX11_select_1 : decode cX11_select 1 = .ok (.getfield 10, 3) := by decide +kernel
theorem dX11_select_4 : decode cX11_select 4 = .ok (.getfield 55, 3) := by decide +kernel
theorem dX11_select_7 : decode cX11_select 7 = .ok (.iload_n 1, 1) := by decide +kernel
theorem dX11_select_8 : decode cX11_select 8 = .ok (.invokevirtual 73, 3) := by decide +kernel
theorem dX11_select_11 : decode cX11_select 11 = .ok (.astore_n 3, 1) := by decide +kernel
theorem dX11_select_12 : decode cX11_select 12 = .ok (.aload_n 3, 1) := by decide +kernel
theorem dX11_select_13 : decode cX11_select 13 = .ok (.ifnonnull 5, 3) := by decide +kernel
theorem dX11_select_16 : decode cX11_select 16 = .ok (.iconst (-1), 1) := by decide +kernel
theorem dX11_select_17 : decode cX11_select 17 = .ok (.ireturn, 1) := by decide +kernel
theorem dX11_select_18 : decode cX11_select 18 = .ok (.aload_n 0, 1) := by decide +kernel
theorem dX11_select_19 : decode cX11_select 19 = .ok (.getfield 19, 3) := by decide +kernel
theorem dX11_select_22 : decode cX11_select 22 = .ok (.aload_n 0, 1) := by decide +kernel
theorem dX11_select_23 : decode cX11_select 23 = .ok (.getfield 10, 3) := by decide +kernel
theorem dX11_select_26 : decode cX11_select 26 = .ok (.invokevirtual 65, 3) := by decide +kernel
theorem dX11_select_29 : decode cX11_select 29 = .ok (.aload_n 0, 1) := by decide +kernel
theorem dX11_select_30 : decode cX11_select 30 = .ok (.getfield 10, 3) := by decide +kernel
theorem dX11_select_33 : decode cX11_select 33 = .ok (.iload_n 1, 1) := by decide +kernel
theorem dX11_select_34 : decode cX11_select 34 = .ok (.aload_n 3, 1) := by decide +kernel
theorem dX11_select_35 : decode cX11_select 35 = .ok (.invokevirtual 179, 3) := by decide +kernel
theorem dX11_select_38 : decode cX11_select 38 = .ok (.istore 4, 2) := by decide +kernel
theorem dX11_select_40 : decode cX11_select 40 = .ok (.iload_n 2, 1) := by decide +kernel
theorem dX11_select_41 : decode cX11_select 41 = .ok (.ifCond .eq 23, 3) := by decide +kernel
theorem dX11_select_44 : decode cX11_select 44 = .ok (.aload_n 0, 1) := by decide +kernel
theorem dX11_select_45 : decode cX11_select 45 = .ok (.getfield 10, 3) := by decide +kernel
theorem dX11_select_48 : decode cX11_select 48 = .ok (.getfield 55, 3) := by decide +kernel
theorem dX11_select_51 : decode cX11_select 51 = .ok (.dup, 1) := by decide +kernel
theorem dX11_select_52 : decode cX11_select 52 = .ok (.getfield 108, 3) := by decide +kernel
theorem dX11_select_55 : decode cX11_select 55 = .ok (.iload 4, 2) := by decide +kernel
theorem dX11_select_57 : decode cX11_select 57 = .ok (.ior, 1) := by decide +kernel
theorem dX11_select_58 : decode cX11_select 58 = .ok (.putfield 108, 3) := by decide +kernel
theorem dX11_select_61 : decode cX11_select 61 = .ok (.goto 22, 3) := by decide +kernel
theorem dX11_select_64 : decode cX11_select 64 = .ok (.aload_n 0, 1) := by decide +kernel
theorem dX11_select_65 : decode cX11_select 65 = .ok (.getfield 10, 3) := by decide +kernel
theorem dX11_select_68 : decode cX11_select 68 = .ok (.getfield 55, 3) := by decide +kernel
theorem dX11_select_71 : decode cX11_select 71 = .ok (.dup, 1) := by decide +kernel
theorem dX11_select_72 : decode cX11_select 72 = .ok (.getfield 108, 3) := by decide +kernel
theorem dX11_select_75 : decode cX11_select 75 = .ok (.iload 4, 2) := by decide +kernel
theorem dX11_select_77 : decode cX11_select 77 = .ok (.iconst (-1), 1) := by decide +kernel
theorem dX11_select_78 : decode cX11_select 78 = .ok (.ixor, 1) := by decide +kernel
theorem dX11_select_79 : decode cX11_select 79 = .ok (.iand, 1) := by decide +kernel
theorem dX11_select_80 : decode cX11_select 80 = .ok (.putfield 108, 3) := by decide +kernel
theorem dX11_select_83 : decode cX11_select 83 = .ok (.aload_n 0, 1) := by decide +kernel
theorem dX11_select_84 : decode cX11_select 84 = .ok (.getfield 10, 3) := by decide +kernel
theorem dX11_select_87 : decode cX11_select 87 = .ok (.getfield 55, 3) := by decide +kernel
theorem dX11_select_90 : decode cX11_select 90 = .ok (.getfield 108, 3) := by decide +kernel
theorem dX11_select_93 : decode cX11_select 93 = .ok (.invokestatic 183, 3) := by decide +kernel
theorem dX11_select_96 : decode cX11_select 96 = .ok (.ireturn, 1) := by decide +kernel
theorem dX11_selected_0 : decode cX11_selected 0 = .ok (.aload_n 0, 1) := by decide +kernel
theorem dX11_selected_1 : decode cX11_selected 1 = .ok (.getfield 10, 3) := by decide +kernel
theorem dX11_selected_4 : decode cX11_selected 4 = .ok (.getfield 55, 3) := by decide +kernel
theorem dX11_selected_7 : decode cX11_selected 7 = .ok (.getfield 108, 3) := by decide +kernel
theorem dX11_selected_10 : decode cX11_selected 10 = .ok (.ireturn, 1) := by decide +kernel
theorem dX11_group_0 : decode cX11_group 0 = .ok (.aload_n 0, 1) := by decide +kernel
theorem dX11_group_1 : decode cX11_group 1 = .ok (.getfield 33, 3) := by decide +kernel
theorem dX11_group_4 : decode cX11_group 4 = .ok (.aload_n 0, 1) := by decide +kernel
theorem dX11_group_5 : decode cX11_group 5 = .ok (.getfield 10, 3) := by decide +kernel
theorem dX11_group_8 : decode cX11_group 8 = .ok (.invokevirtual 188, 3) := by decide +kernel
theorem dX11_group_11 : decode cX11_group 11 = .ok (.aload_n 0, 1) := by decide +kernel
theorem dX11_group_12 : decode cX11_group 12 = .ok (.getfield 33, 3) := by decide +kernel
theorem dX11_group_15 : decode cX11_group 15 = .ok (.getfield 191, 3) := by decide +kernel
theorem dX11_group_18 : decode cX11_group 18 = .ok (.iconst 2, 1) := by decide +kernel
theorem dX11_group_19 : decode cX11_group 19 = .ok (.if_icmp .ge 6, 3) := by decide +kernel
theorem dX11_group_22 : decode cX11_group 22 = .ok (.bipush (-2), 2) := by decide +kernel
theorem dX11_group_24 : decode cX11_group 24 = .ok (.ireturn, 1) := by decide +kernel
theorem dX11_group_25 : decode cX11_group 25 = .ok (.aload_n 0, 1) := by decide +kernel
theorem dX11_group_26 : decode cX11_group 26 = .ok (.getfield 10, 3) := by decide +kernel
theorem dX11_group_29 : decode cX11_group 29 = .ok (.getfield 121, 3) := by decide +kernel
theorem dX11_group_32 : decode cX11_group 32 = .ok (.invokevirtual 192, 3) := by decide +kernel
theorem dX11_group_35 : decode cX11_group 35 = .ok (.istore_n 1, 1) := by decide +kernel
theorem dX11_group_36 : decode cX11_group 36 = .ok (.iload_n 1, 1) := by decide +kernel
theorem dX11_group_37 : decode cX11_group 37 = .ok (.ldc 98, 2) := by decide +kernel
theorem dX11_group_39 : decode cX11_group 39 = .ok (.if_icmp .ne 6, 3) := by decide +kernel
theorem dX11_group_42 : decode cX11_group 42 = .ok (.bipush (-3), 2) := by decide +kernel
theorem dX11_group_44 : decode cX11_group 44 = .ok (.ireturn, 1) := by decide +kernel
theorem dX11_group_45 : decode cX11_group 45 = .ok (.aload_n 0, 1) := by decide +kernel
theorem dX11_group_46 : decode cX11_group 46 = .ok (.getfield 19, 3) := by decide +kernel
theorem dX11_group_49 : decode cX11_group 49 = .ok (.aload_n 0, 1) := by decide +kernel
theorem dX11_group_50 : decode cX11_group 50 = .ok (.getfield 10, 3) := by decide +kernel
theorem dX11_group_53 : decode cX11_group 53 = .ok (.invokevirtual 65, 3) := by decide +kernel
theorem dX11_group_56 : decode cX11_group 56 = .ok (.aload_n 0, 1) := by decide +kernel
theorem dX11_group_57 : decode cX11_group 57 = .ok (.getfield 10, 3) := by decide +kernel
theorem dX11_group_60 : decode cX11_group 60 = .ok (.iload_n 1, 1) := by decide +kernel
theorem dX11_group_61 : decode cX11_group 61 = .ok (.invokevirtual 195, 3) := by decide +kernel
theorem dX11_group_64 : decode cX11_group 64 = .ok (.iload_n 1, 1) := by decide +kernel
theorem dX11_group_65 : decode cX11_group 65 = .ok (.ireturn, 1) := by decide +kernel
theorem dX11_ungroup_0 : decode cX11_ungroup 0 = .ok (.aload_n 0, 1) := by decide +kernel
theorem dX11_ungroup_1 : decode cX11_ungroup 1 = .ok (.getfield 10, 3) := by decide +kernel
theorem dX11_ungroup_4 : decode cX11_ungroup 4 = .ok (.getfield 121, 3) := by decide +kernel
theorem dX11_ungroup_7 : decode cX11_ungroup 7 = .ok (.iload_n 1, 1) := by decide +kernel
theorem dX11_ungroup_8 : decode cX11_ungroup 8 = .ok (.invokevirtual 198, 3) := by decide +kernel
theorem dX11_ungroup_11 : decode cX11_ungroup 11 = .ok (.ifCond .ne 5, 3) := by decide +kernel
theorem dX11_ungroup_14 : decode cX11_ungroup 14 = .ok (.iconst (-1), 1) := by decide +kernel
theorem dX11_ungroup_15 : decode cX11_ungroup 15 = .ok (.ireturn, 1) := by decide +kernel
theorem dX11_ungroup_16 : decode cX11_ungroup 16 = .ok (.aload_n 0, 1) := by decide +kernel
theorem dX11_ungroup_17 : decode cX11_ungroup 17 = .ok (.getfield 19, 3) := by decide +kernel
theorem dX11_ungroup_20 : decode cX11_ungroup 20 = .ok (.aload_n 0, 1) := by decide +kernel
theorem dX11_ungroup_21 : decode cX11_ungroup 21 = .ok (.getfield 10, 3) := by decide +kernel
theorem dX11_ungroup_24 : decode cX11_ungroup 24 = .ok (.invokevirtual 65, 3) := by decide +kernel
theorem dX11_ungroup_27 : decode cX11_ungroup 27 = .ok (.aload_n 0, 1) := by decide +kernel
theorem dX11_ungroup_28 : decode cX11_ungroup 28 = .ok (.getfield 10, 3) := by decide +kernel
theorem dX11_ungroup_31 : decode cX11_ungroup 31 = .ok (.iload_n 1, 1) := by decide +kernel
theorem dX11_ungroup_32 : decode cX11_ungroup 32 = .ok (.invokevirtual 201, 3) := by decide +kernel
theorem dX11_ungroup_35 : decode cX11_ungroup 35 = .ok (.ireturn, 1) := by decide +kernel
theorem dX11_shapesOf_0 : decode cX11_shapesOf 0 = .ok (.aload_n 0, 1) := by decide +kernel
theorem dX11_shapesOf_1 : decode cX11_shapesOf 1 = .ok (.getfield 10, 3) := by decide +kernel
theorem dX11_shapesOf_4 : decode cX11_shapesOf 4 = .ok (.getfield 121, 3) := by decide +kernel
theorem dX11_shapesOf_7 : decode cX11_shapesOf 7 = .ok (.iload_n 1, 1) := by decide +kernel
theorem dX11_shapesOf_8 : decode cX11_shapesOf 8 = .ok (.invokevirtual 198, 3) := by decide +kernel
theorem dX11_shapesOf_11 : decode cX11_shapesOf 11 = .ok (.ifCond .eq 14, 3) := by decide +kernel
theorem dX11_shapesOf_14 : decode cX11_shapesOf 14 = .ok (.aload_n 0, 1) := by decide +kernel
theorem dX11_shapesOf_15 : decode cX11_shapesOf 15 = .ok (.getfield 10, 3) := by decide +kernel
theorem dX11_shapesOf_18 : decode cX11_shapesOf 18 = .ok (.iload_n 1, 1) := by decide +kernel
theorem dX11_shapesOf_19 : decode cX11_shapesOf 19 = .ok (.invokevirtual 204, 3) := by decide +kernel
theorem dX11_shapesOf_22 : decode cX11_shapesOf 22 = .ok (.goto 4, 3) := by decide +kernel
theorem dX11_shapesOf_25 : decode cX11_shapesOf 25 = .ok (.iconst (-1), 1) := by decide +kernel
theorem dX11_shapesOf_26 : decode cX11_shapesOf 26 = .ok (.ireturn, 1) := by decide +kernel
theorem dX11_move_0 : decode cX11_move 0 = .ok (.iload_n 1, 1) := by decide +kernel
theorem dX11_move_1 : decode cX11_move 1 = .ok (.invokestatic 207, 3) := by decide +kernel
theorem dX11_move_4 : decode cX11_move 4 = .ok (.ifCond .eq 10, 3) := by decide +kernel
theorem dX11_move_7 : decode cX11_move 7 = .ok (.iload_n 2, 1) := by decide +kernel
theorem dX11_move_8 : decode cX11_move 8 = .ok (.invokestatic 207, 3) := by decide +kernel
theorem dX11_move_11 : decode cX11_move 11 = .ok (.ifCond .ne 5, 3) := by decide +kernel
theorem dX11_move_14 : decode cX11_move 14 = .ok (.iconst (-1), 1) := by decide +kernel
theorem dX11_move_15 : decode cX11_move 15 = .ok (.ireturn, 1) := by decide +kernel
theorem dX11_move_16 : decode cX11_move 16 = .ok (.aload_n 0, 1) := by decide +kernel
theorem dX11_move_17 : decode cX11_move 17 = .ok (.getfield 10, 3) := by decide +kernel
theorem dX11_move_20 : decode cX11_move 20 = .ok (.getfield 55, 3) := by decide +kernel
theorem dX11_move_23 : decode cX11_move 23 = .ok (.getfield 108, 3) := by decide +kernel
theorem dX11_move_26 : decode cX11_move 26 = .ok (.ifCond .ne 6, 3) := by decide +kernel
theorem dX11_move_29 : decode cX11_move 29 = .ok (.bipush (-2), 2) := by decide +kernel
theorem dX11_move_31 : decode cX11_move 31 = .ok (.ireturn, 1) := by decide +kernel
theorem dX11_move_32 : decode cX11_move 32 = .ok (.aload_n 0, 1) := by decide +kernel
theorem dX11_move_33 : decode cX11_move 33 = .ok (.iload_n 1, 1) := by decide +kernel
theorem dX11_move_34 : decode cX11_move 34 = .ok (.iload_n 2, 1) := by decide +kernel
theorem dX11_move_35 : decode cX11_move 35 = .ok (.invokevirtual 210, 3) := by decide +kernel
theorem dX11_move_38 : decode cX11_move 38 = .ok (.ifCond .ne 6, 3) := by decide +kernel
theorem dX11_move_41 : decode cX11_move 41 = .ok (.bipush (-4), 2) := by decide +kernel
theorem dX11_move_43 : decode cX11_move 43 = .ok (.ireturn, 1) := by decide +kernel
theorem dX11_move_44 : decode cX11_move 44 = .ok (.aload_n 0, 1) := by decide +kernel
theorem dX11_move_45 : decode cX11_move 45 = .ok (.getfield 19, 3) := by decide +kernel
theorem dX11_move_48 : decode cX11_move 48 = .ok (.aload_n 0, 1) := by decide +kernel
theorem dX11_move_49 : decode cX11_move 49 = .ok (.getfield 10, 3) := by decide +kernel
theorem dX11_move_52 : decode cX11_move 52 = .ok (.invokevirtual 65, 3) := by decide +kernel
theorem dX11_move_55 : decode cX11_move 55 = .ok (.aload_n 0, 1) := by decide +kernel
theorem dX11_move_56 : decode cX11_move 56 = .ok (.iload_n 1, 1) := by decide +kernel
theorem dX11_move_57 : decode cX11_move 57 = .ok (.iload_n 2, 1) := by decide +kernel
theorem dX11_move_58 : decode cX11_move 58 = .ok (.invokevirtual 213, 3) := by decide +kernel
theorem dX11_move_61 : decode cX11_move 61 = .ok (.aload_n 0, 1) := by decide +kernel
theorem dX11_move_62 : decode cX11_move 62 = .ok (.getfield 10, 3) := by decide +kernel
theorem dX11_move_65 : decode cX11_move 65 = .ok (.getfield 89, 3) := by decide +kernel
theorem dX11_move_68 : decode cX11_move 68 = .ok (.aload_n 0, 1) := by decide +kernel
theorem dX11_move_69 : decode cX11_move 69 = .ok (.getfield 10, 3) := by decide +kernel
theorem dX11_move_72 : decode cX11_move 72 = .ok (.getfield 55, 3) := by decide +kernel
theorem dX11_move_75 : decode cX11_move 75 = .ok (.getfield 108, 3) := by decide +kernel
theorem dX11_move_78 : decode cX11_move 78 = .ok (.invokevirtual 217, 3) := by decide +kernel
theorem dX11_move_81 : decode cX11_move 81 = .ok (.ireturn, 1) := by decide +kernel
theorem dX11_drag_0 : decode cX11_drag 0 = .ok (.iload_n 1, 1) := by decide +kernel
theorem dX11_drag_1 : decode cX11_drag 1 = .ok (.invokestatic 207, 3) := by decide +kernel
theorem dX11_drag_4 : decode cX11_drag 4 = .ok (.ifCond .eq 10, 3) := by decide +kernel
theorem dX11_drag_7 : decode cX11_drag 7 = .ok (.iload_n 2, 1) := by decide +kernel
theorem dX11_drag_8 : decode cX11_drag 8 = .ok (.invokestatic 207, 3) := by decide +kernel
theorem dX11_drag_11 : decode cX11_drag 11 = .ok (.ifCond .ne 5, 3) := by decide +kernel
theorem dX11_drag_14 : decode cX11_drag 14 = .ok (.iconst (-1), 1) := by decide +kernel
theorem dX11_drag_15 : decode cX11_drag 15 = .ok (.ireturn, 1) := by decide +kernel
theorem dX11_drag_16 : decode cX11_drag 16 = .ok (.aload_n 0, 1) := by decide +kernel
theorem dX11_drag_17 : decode cX11_drag 17 = .ok (.getfield 10, 3) := by decide +kernel
theorem dX11_drag_20 : decode cX11_drag 20 = .ok (.getfield 55, 3) := by decide +kernel
theorem dX11_drag_23 : decode cX11_drag 23 = .ok (.getfield 108, 3) := by decide +kernel
theorem dX11_drag_26 : decode cX11_drag 26 = .ok (.ifCond .ne 6, 3) := by decide +kernel
theorem dX11_drag_29 : decode cX11_drag 29 = .ok (.bipush (-2), 2) := by decide +kernel
theorem dX11_drag_31 : decode cX11_drag 31 = .ok (.ireturn, 1) := by decide +kernel
theorem dX11_drag_32 : decode cX11_drag 32 = .ok (.aload_n 0, 1) := by decide +kernel
theorem dX11_drag_33 : decode cX11_drag 33 = .ok (.getfield 40, 3) := by decide +kernel
theorem dX11_drag_36 : decode cX11_drag 36 = .ok (.aload_n 0, 1) := by decide +kernel
theorem dX11_drag_37 : decode cX11_drag 37 = .ok (.getfield 10, 3) := by decide +kernel
theorem dX11_drag_40 : decode cX11_drag 40 = .ok (.iconst 0, 1) := by decide +kernel
theorem dX11_drag_41 : decode cX11_drag 41 = .ok (.iload_n 1, 1) := by decide +kernel
theorem dX11_drag_42 : decode cX11_drag 42 = .ok (.invokevirtual 220, 3) := by decide +kernel
theorem dX11_drag_45 : decode cX11_drag 45 = .ok (.aload_n 0, 1) := by decide +kernel
theorem dX11_drag_46 : decode cX11_drag 46 = .ok (.getfield 40, 3) := by decide +kernel
theorem dX11_drag_49 : decode cX11_drag 49 = .ok (.getfield 224, 3) := by decide +kernel
theorem dX11_drag_52 : decode cX11_drag 52 = .ok (.istore_n 3, 1) := by decide +kernel
theorem dX11_drag_53 : decode cX11_drag 53 = .ok (.iload_n 1, 1) := by decide +kernel
theorem dX11_drag_54 : decode cX11_drag 54 = .ok (.aload_n 0, 1) := by decide +kernel
theorem dX11_drag_55 : decode cX11_drag 55 = .ok (.getfield 40, 3) := by decide +kernel
theorem dX11_drag_58 : decode cX11_drag 58 = .ok (.getfield 227, 3) := by decide +kernel
theorem dX11_drag_61 : decode cX11_drag 61 = .ok (.iadd, 1) := by decide +kernel
theorem dX11_drag_62 : decode cX11_drag 62 = .ok (.istore 4, 2) := by decide +kernel
theorem dX11_drag_64 : decode cX11_drag 64 = .ok (.aload_n 0, 1) := by decide +kernel
theorem dX11_drag_65 : decode cX11_drag 65 = .ok (.getfield 40, 3) := by decide +kernel
theorem dX11_drag_68 : decode cX11_drag 68 = .ok (.aload_n 0, 1) := by decide +kernel
theorem dX11_drag_69 : decode cX11_drag 69 = .ok (.getfield 10, 3) := by decide +kernel
theorem dX11_drag_72 : decode cX11_drag 72 = .ok (.iconst 1, 1) := by decide +kernel
theorem dX11_drag_73 : decode cX11_drag 73 = .ok (.iload_n 2, 1) := by decide +kernel
theorem dX11_drag_74 : decode cX11_drag 74 = .ok (.invokevirtual 220, 3) := by decide +kernel
theorem dX11_drag_77 : decode cX11_drag 77 = .ok (.aload_n 0, 1) := by decide +kernel
theorem dX11_drag_78 : decode cX11_drag 78 = .ok (.getfield 40, 3) := by decide +kernel
theorem dX11_drag_81 : decode cX11_drag 81 = .ok (.getfield 224, 3) := by decide +kernel
theorem dX11_drag_84 : decode cX11_drag 84 = .ok (.istore 5, 2) := by decide +kernel
theorem dX11_drag_86 : decode cX11_drag 86 = .ok (.iload_n 2, 1) := by decide +kernel
theorem dX11_drag_87 : decode cX11_drag 87 = .ok (.aload_n 0, 1) := by decide +kernel
theorem dX11_drag_88 : decode cX11_drag 88 = .ok (.getfield 40, 3) := by decide +kernel
theorem dX11_drag_91 : decode cX11_drag 91 = .ok (.getfield 227, 3) := by decide +kernel
theorem dX11_drag_94 : decode cX11_drag 94 = .ok (.iadd, 1) := by decide +kernel
theorem dX11_drag_95 : decode cX11_drag 95 = .ok (.istore 6, 2) := by decide +kernel
theorem dX11_drag_97 : decode cX11_drag 97 = .ok (.aload_n 0, 1) := by decide +kernel
theorem dX11_drag_98 : decode cX11_drag 98 = .ok (.iload 4, 2) := by decide +kernel
theorem dX11_drag_100 : decode cX11_drag 100 = .ok (.iload 6, 2) := by decide +kernel
theorem dX11_drag_102 : decode cX11_drag 102 = .ok (.invokevirtual 210, 3) := by decide +kernel
theorem dX11_drag_105 : decode cX11_drag 105 = .ok (.ifCond .ne 6, 3) := by decide +kernel
theorem dX11_drag_108 : decode cX11_drag 108 = .ok (.bipush (-4), 2) := by decide +kernel
theorem dX11_drag_110 : decode cX11_drag 110 = .ok (.ireturn, 1) := by decide +kernel
theorem dX11_drag_111 : decode cX11_drag 111 = .ok (.aload_n 0, 1) := by decide +kernel
theorem dX11_drag_112 : decode cX11_drag 112 = .ok (.getfield 19, 3) := by decide +kernel
theorem dX11_drag_115 : decode cX11_drag 115 = .ok (.aload_n 0, 1) := by decide +kernel
theorem dX11_drag_116 : decode cX11_drag 116 = .ok (.getfield 10, 3) := by decide +kernel
theorem dX11_drag_119 : decode cX11_drag 119 = .ok (.invokevirtual 65, 3) := by decide +kernel
theorem dX11_drag_122 : decode cX11_drag 122 = .ok (.aload_n 0, 1) := by decide +kernel
theorem dX11_drag_123 : decode cX11_drag 123 = .ok (.iload 4, 2) := by decide +kernel
theorem dX11_drag_125 : decode cX11_drag 125 = .ok (.iload 6, 2) := by decide +kernel
theorem dX11_drag_127 : decode cX11_drag 127 = .ok (.invokevirtual 213, 3) := by decide +kernel
theorem dX11_drag_130 : decode cX11_drag 130 = .ok (.iload_n 3, 1) := by decide +kernel
theorem dX11_drag_131 : decode cX11_drag 131 = .ok (.bipush 10, 2) := by decide +kernel
theorem dX11_drag_133 : decode cX11_drag 133 = .ok (.iload 5, 2) := by decide +kernel
theorem dX11_drag_135 : decode cX11_drag 135 = .ok (.imul, 1) := by decide +kernel
theorem dX11_drag_136 : decode cX11_drag 136 = .ok (.iadd, 1) := by decide +kernel
theorem dX11_drag_137 : decode cX11_drag 137 = .ok (.ireturn, 1) := by decide +kernel
theorem dX11_correction_0 : decode cX11_correction 0 = .ok (.iload_n 1, 1) := by decide +kernel
theorem dX11_correction_1 : decode cX11_correction 1 = .ok (.invokestatic 207, 3) := by decide +kernel
theorem dX11_correction_4 : decode cX11_correction 4 = .ok (.ifCond .eq 30, 3) := by decide +kernel
theorem dX11_correction_7 : decode cX11_correction 7 = .ok (.iload_n 2, 1) := by decide +kernel
theorem dX11_correction_8 : decode cX11_correction 8 = .ok (.invokestatic 207, 3) := by decide +kernel
theorem dX11_correction_11 : decode cX11_correction 11 = .ok (.ifCond .eq 23, 3) := by decide +kernel
theorem dX11_correction_14 : decode cX11_correction 14 = .ok (.iload_n 3, 1) := by decide +kernel
theorem dX11_correction_15 : decode cX11_correction 15 = .ok (.invokestatic 133, 3) := by decide +kernel
theorem dX11_correction_18 : decode cX11_correction 18 = .ok (.ifCond .eq 16, 3) := by decide +kernel
theorem dX11_correction_21 : decode cX11_correction 21 = .ok (.aload_n 0, 1) := by decide +kernel
theorem dX11_correction_22 : decode cX11_correction 22 = .ok (.getfield 10, 3) := by decide +kernel
theorem dX11_correction_25 : decode cX11_correction 25 = .ok (.getfield 55, 3) := by decide +kernel
theorem dX11_correction_28 : decode cX11_correction 28 = .ok (.getfield 108, 3) := by decide +kernel
theorem dX11_correction_31 : decode cX11_correction 31 = .ok (.ifCond .ne 6, 3) := by decide +kernel
theorem dX11_correction_34 : decode cX11_correction 34 = .ok (.ldc 98, 2) := by decide +kernel
theorem dX11_correction_36 : decode cX11_correction 36 = .ok (.ireturn, 1) := by decide +kernel
theorem dX11_correction_37 : decode cX11_correction 37 = .ok (.aload_n 0, 1) := by decide +kernel
theorem dX11_correction_38 : decode cX11_correction 38 = .ok (.getfield 40, 3) := by decide +kernel
theorem dX11_correction_41 : decode cX11_correction 41 = .ok (.aload_n 0, 1) := by decide +kernel
theorem dX11_correction_42 : decode cX11_correction 42 = .ok (.getfield 10, 3) := by decide +kernel
theorem dX11_correction_45 : decode cX11_correction 45 = .ok (.iload_n 3, 1) := by decide +kernel
theorem dX11_correction_46 : decode cX11_correction 46 = .ok (.iload_n 3, 1) := by decide +kernel
theorem dX11_correction_47 : decode cX11_correction 47 = .ok (.ifCond .ne 7, 3) := by decide +kernel
theorem dX11_correction_50 : decode cX11_correction 50 = .ok (.iload_n 1, 1) := by decide +kernel
theorem dX11_correction_51 : decode cX11_correction 51 = .ok (.goto 4, 3) := by decide +kernel
theorem dX11_correction_54 : decode cX11_correction 54 = .ok (.iload_n 2, 1) := by decide +kernel
theorem dX11_correction_55 : decode cX11_correction 55 = .ok (.invokevirtual 220, 3) := by decide +kernel
theorem dX11_correction_58 : decode cX11_correction 58 = .ok (.aload_n 0, 1) := by decide +kernel
theorem dX11_correction_59 : decode cX11_correction 59 = .ok (.getfield 40, 3) := by decide +kernel
theorem dX11_correction_62 : decode cX11_correction 62 = .ok (.getfield 227, 3) := by decide +kernel
theorem dX11_correction_65 : decode cX11_correction 65 = .ok (.ireturn, 1) := by decide +kernel
theorem dX11_align_0 : decode cX11_align 0 = .ok (.iload_n 1, 1) := by decide +kernel
theorem dX11_align_1 : decode cX11_align 1 = .ok (.iconst 0, 1) := by decide +kernel
theorem dX11_align_2 : decode cX11_align 2 = .ok (.iconst 5, 1) := by decide +kernel
theorem dX11_align_3 : decode cX11_align 3 = .ok (.invokestatic 44, 3) := by decide +kernel
theorem dX11_align_6 : decode cX11_align 6 = .ok (.ifCond .ne 5, 3) := by decide +kernel
theorem dX11_align_9 : decode cX11_align 9 = .ok (.iconst (-1), 1) := by decide +kernel
theorem dX11_align_10 : decode cX11_align 10 = .ok (.ireturn, 1) := by decide +kernel
theorem dX11_align_11 : decode cX11_align 11 = .ok (.aload_n 0, 1) := by decide +kernel
theorem dX11_align_12 : decode cX11_align 12 = .ok (.getfield 33, 3) := by decide +kernel
theorem dX11_align_15 : decode cX11_align 15 = .ok (.aload_n 0, 1) := by decide +kernel
theorem dX11_align_16 : decode cX11_align 16 = .ok (.getfield 10, 3) := by decide +kernel
theorem dX11_align_19 : decode cX11_align 19 = .ok (.invokevirtual 188, 3) := by decide +kernel
theorem dX11_align_22 : decode cX11_align 22 = .ok (.aload_n 0, 1) := by decide +kernel
theorem dX11_align_23 : decode cX11_align 23 = .ok (.getfield 33, 3) := by decide +kernel
theorem dX11_align_26 : decode cX11_align 26 = .ok (.getfield 191, 3) := by decide +kernel
theorem dX11_align_29 : decode cX11_align 29 = .ok (.iconst 2, 1) := by decide +kernel
theorem dX11_align_30 : decode cX11_align 30 = .ok (.if_icmp .ge 6, 3) := by decide +kernel
theorem dX11_align_33 : decode cX11_align 33 = .ok (.bipush (-2), 2) := by decide +kernel
theorem dX11_align_35 : decode cX11_align 35 = .ok (.ireturn, 1) := by decide +kernel
theorem dX11_align_36 : decode cX11_align 36 = .ok (.iload_n 1, 1) := by decide +kernel
theorem dX11_align_37 : decode cX11_align 37 = .ok (.iconst 3, 1) := by decide +kernel
theorem dX11_align_38 : decode cX11_align 38 = .ok (.if_icmp .ge 7, 3) := by decide +kernel
theorem dX11_align_41 : decode cX11_align 41 = .ok (.iconst 0, 1) := by decide +kernel
theorem dX11_align_42 : decode cX11_align 42 = .ok (.goto 4, 3) := by decide +kernel
theorem dX11_align_45 : decode cX11_align 45 = .ok (.iconst 1, 1) := by decide +kernel
theorem dX11_align_46 : decode cX11_align 46 = .ok (.istore_n 2, 1) := by decide +kernel
theorem dX11_align_47 : decode cX11_align 47 = .ok (.aload_n 0, 1) := by decide +kernel
theorem dX11_align_48 : decode cX11_align 48 = .ok (.getfield 33, 3) := by decide +kernel
theorem dX11_align_51 : decode cX11_align 51 = .ok (.aload_n 0, 1) := by decide +kernel
theorem dX11_align_52 : decode cX11_align 52 = .ok (.getfield 10, 3) := by decide +kernel
theorem dX11_align_55 : decode cX11_align 55 = .ok (.getfield 55, 3) := by decide +kernel
theorem dX11_align_58 : decode cX11_align 58 = .ok (.iload_n 2, 1) := by decide +kernel
theorem dX11_align_59 : decode cX11_align 59 = .ok (.iload_n 2, 1) := by decide +kernel
theorem dX11_align_60 : decode cX11_align 60 = .ok (.ifCond .ne 7, 3) := by decide +kernel
theorem dX11_align_63 : decode cX11_align 63 = .ok (.iload_n 1, 1) := by decide +kernel
theorem dX11_align_64 : decode cX11_align 64 = .ok (.goto 6, 3) := by decide +kernel
theorem dX11_align_67 : decode cX11_align 67 = .ok (.iload_n 1, 1) := by decide +kernel
theorem dX11_align_68 : decode cX11_align 68 = .ok (.iconst 3, 1) := by decide +kernel
theorem dX11_align_69 : decode cX11_align 69 = .ok (.isub, 1) := by decide +kernel
theorem dX11_align_70 : decode cX11_align 70 = .ok (.invokevirtual 230, 3) := by decide +kernel
theorem dX11_align_73 : decode cX11_align 73 = .ok (.aload_n 0, 1) := by decide +kernel
theorem dX11_align_74 : decode cX11_align 74 = .ok (.getfield 33, 3) := by decide +kernel
theorem dX11_align_77 : decode cX11_align 77 = .ok (.aload_n 0, 1) := by decide +kernel
theorem dX11_align_78 : decode cX11_align 78 = .ok (.getfield 10, 3) := by decide +kernel
theorem dX11_align_81 : decode cX11_align 81 = .ok (.getfield 55, 3) := by decide +kernel
theorem dX11_align_84 : decode cX11_align 84 = .ok (.iload_n 2, 1) := by decide +kernel
theorem dX11_align_85 : decode cX11_align 85 = .ok (.invokevirtual 234, 3) := by decide +kernel
theorem dX11_align_88 : decode cX11_align 88 = .ok (.ifCond .ne 6, 3) := by decide +kernel
theorem dX11_align_91 : decode cX11_align 91 = .ok (.bipush (-4), 2) := by decide +kernel
theorem dX11_align_93 : decode cX11_align 93 = .ok (.ireturn, 1) := by decide +kernel
theorem dX11_align_94 : decode cX11_align 94 = .ok (.aload_n 0, 1) := by decide +kernel
theorem dX11_align_95 : decode cX11_align 95 = .ok (.getfield 19, 3) := by decide +kernel
theorem dX11_align_98 : decode cX11_align 98 = .ok (.aload_n 0, 1) := by decide +kernel
theorem dX11_align_99 : decode cX11_align 99 = .ok (.getfield 10, 3) := by decide +kernel
theorem dX11_align_102 : decode cX11_align 102 = .ok (.invokevirtual 65, 3) := by decide +kernel
theorem dX11_align_105 : decode cX11_align 105 = .ok (.aload_n 0, 1) := by decide +kernel
theorem dX11_align_106 : decode cX11_align 106 = .ok (.getfield 33, 3) := by decide +kernel
theorem dX11_align_109 : decode cX11_align 109 = .ok (.aload_n 0, 1) := by decide +kernel
theorem dX11_align_110 : decode cX11_align 110 = .ok (.getfield 10, 3) := by decide +kernel
theorem dX11_align_113 : decode cX11_align 113 = .ok (.getfield 55, 3) := by decide +kernel
theorem dX11_align_116 : decode cX11_align 116 = .ok (.iload_n 2, 1) := by decide +kernel
theorem dX11_align_117 : decode cX11_align 117 = .ok (.invokevirtual 238, 3) := by decide +kernel
theorem dX11_align_120 : decode cX11_align 120 = .ok (.ireturn, 1) := by decide +kernel
theorem dX11_distribute_0 : decode cX11_distribute 0 = .ok (.iload_n 1, 1) := by decide +kernel
theorem dX11_distribute_1 : decode cX11_distribute 1 = .ok (.invokestatic 133, 3) := by decide +kernel
theorem dX11_distribute_4 : decode cX11_distribute 4 = .ok (.ifCond .ne 6, 3) := by decide +kernel
theorem dX11_distribute_7 : decode cX11_distribute 7 = .ok (.ldc 98, 2) := by decide +kernel
theorem dX11_distribute_9 : decode cX11_distribute 9 = .ok (.ireturn, 1) := by decide +kernel
theorem dX11_distribute_10 : decode cX11_distribute 10 = .ok (.aload_n 0, 1) := by decide +kernel
theorem dX11_distribute_11 : decode cX11_distribute 11 = .ok (.getfield 33, 3) := by decide +kernel
theorem dX11_distribute_14 : decode cX11_distribute 14 = .ok (.aload_n 0, 1) := by decide +kernel
theorem dX11_distribute_15 : decode cX11_distribute 15 = .ok (.getfield 10, 3) := by decide +kernel
theorem dX11_distribute_18 : decode cX11_distribute 18 = .ok (.invokevirtual 188, 3) := by decide +kernel
theorem dX11_distribute_21 : decode cX11_distribute 21 = .ok (.aload_n 0, 1) := by decide +kernel
theorem dX11_distribute_22 : decode cX11_distribute 22 = .ok (.getfield 33, 3) := by decide +kernel
theorem dX11_distribute_25 : decode cX11_distribute 25 = .ok (.getfield 191, 3) := by decide +kernel
theorem dX11_distribute_28 : decode cX11_distribute 28 = .ok (.iconst 3, 1) := by decide +kernel
theorem dX11_distribute_29 : decode cX11_distribute 29 = .ok (.if_icmp .ge 6, 3) := by decide +kernel
theorem dX11_distribute_32 : decode cX11_distribute 32 = .ok (.ldc 98, 2) := by decide +kernel
theorem dX11_distribute_34 : decode cX11_distribute 34 = .ok (.ireturn, 1) := by decide +kernel
theorem dX11_distribute_35 : decode cX11_distribute 35 = .ok (.aload_n 0, 1) := by decide +kernel
theorem dX11_distribute_36 : decode cX11_distribute 36 = .ok (.getfield 33, 3) := by decide +kernel
theorem dX11_distribute_39 : decode cX11_distribute 39 = .ok (.aload_n 0, 1) := by decide +kernel
theorem dX11_distribute_40 : decode cX11_distribute 40 = .ok (.getfield 10, 3) := by decide +kernel
theorem dX11_distribute_43 : decode cX11_distribute 43 = .ok (.getfield 55, 3) := by decide +kernel
theorem dX11_distribute_46 : decode cX11_distribute 46 = .ok (.iload_n 1, 1) := by decide +kernel
theorem dX11_distribute_47 : decode cX11_distribute 47 = .ok (.invokevirtual 242, 3) := by decide +kernel
theorem dX11_distribute_50 : decode cX11_distribute 50 = .ok (.istore_n 2, 1) := by decide +kernel
theorem dX11_distribute_51 : decode cX11_distribute 51 = .ok (.aload_n 0, 1) := by decide +kernel
theorem dX11_distribute_52 : decode cX11_distribute 52 = .ok (.getfield 33, 3) := by decide +kernel
theorem dX11_distribute_55 : decode cX11_distribute 55 = .ok (.aload_n 0, 1) := by decide +kernel
theorem dX11_distribute_56 : decode cX11_distribute 56 = .ok (.getfield 10, 3) := by decide +kernel
theorem dX11_distribute_59 : decode cX11_distribute 59 = .ok (.getfield 55, 3) := by decide +kernel
theorem dX11_distribute_62 : decode cX11_distribute 62 = .ok (.iload_n 1, 1) := by decide +kernel
theorem dX11_distribute_63 : decode cX11_distribute 63 = .ok (.invokevirtual 234, 3) := by decide +kernel
theorem dX11_distribute_66 : decode cX11_distribute 66 = .ok (.ifCond .ne 6, 3) := by decide +kernel
theorem dX11_distribute_69 : decode cX11_distribute 69 = .ok (.ldc 98, 2) := by decide +kernel
theorem dX11_distribute_71 : decode cX11_distribute 71 = .ok (.ireturn, 1) := by decide +kernel
theorem dX11_distribute_72 : decode cX11_distribute 72 = .ok (.aload_n 0, 1) := by decide +kernel
theorem dX11_distribute_73 : decode cX11_distribute 73 = .ok (.getfield 19, 3) := by decide +kernel
theorem dX11_distribute_76 : decode cX11_distribute 76 = .ok (.aload_n 0, 1) := by decide +kernel
theorem dX11_distribute_77 : decode cX11_distribute 77 = .ok (.getfield 10, 3) := by decide +kernel
theorem dX11_distribute_80 : decode cX11_distribute 80 = .ok (.invokevirtual 65, 3) := by decide +kernel
theorem dX11_distribute_83 : decode cX11_distribute 83 = .ok (.aload_n 0, 1) := by decide +kernel
theorem dX11_distribute_84 : decode cX11_distribute 84 = .ok (.getfield 33, 3) := by decide +kernel
theorem dX11_distribute_87 : decode cX11_distribute 87 = .ok (.aload_n 0, 1) := by decide +kernel
theorem dX11_distribute_88 : decode cX11_distribute 88 = .ok (.getfield 10, 3) := by decide +kernel
theorem dX11_distribute_91 : decode cX11_distribute 91 = .ok (.getfield 55, 3) := by decide +kernel
theorem dX11_distribute_94 : decode cX11_distribute 94 = .ok (.iload_n 1, 1) := by decide +kernel
theorem dX11_distribute_95 : decode cX11_distribute 95 = .ok (.invokevirtual 238, 3) := by decide +kernel
theorem dX11_distribute_98 : decode cX11_distribute 98 = .ok (.pop, 1) := by decide +kernel
theorem dX11_distribute_99 : decode cX11_distribute 99 = .ok (.iload_n 2, 1) := by decide +kernel
theorem dX11_distribute_100 : decode cX11_distribute 100 = .ok (.ireturn, 1) := by decide +kernel
theorem dX11_canShiftChosen_0 : decode cX11_canShiftChosen 0 = .ok (.aload_n 0, 1) := by decide +kernel
theorem dX11_canShiftChosen_1 : decode cX11_canShiftChosen 1 = .ok (.getfield 10, 3) := by decide +kernel
theorem dX11_canShiftChosen_4 : decode cX11_canShiftChosen 4 = .ok (.getfield 55, 3) := by decide +kernel
theorem dX11_canShiftChosen_7 : decode cX11_canShiftChosen 7 = .ok (.getfield 108, 3) := by decide +kernel
theorem dX11_canShiftChosen_10 : decode cX11_canShiftChosen 10 = .ok (.istore_n 3, 1) := by decide +kernel
theorem dX11_canShiftChosen_11 : decode cX11_canShiftChosen 11 = .ok (.aload_n 0, 1) := by decide +kernel
theorem dX11_canShiftChosen_12 : decode cX11_canShiftChosen 12 = .ok (.getfield 10, 3) := by decide +kernel
theorem dX11_canShiftChosen_15 : decode cX11_canShiftChosen 15 = .ok (.getfield 55, 3) := by decide +kernel
theorem dX11_canShiftChosen_18 : decode cX11_canShiftChosen 18 = .ok (.iload_n 3, 1) := by decide +kernel
theorem dX11_canShiftChosen_19 : decode cX11_canShiftChosen 19 = .ok (.iconst 0, 1) := by decide +kernel
theorem dX11_canShiftChosen_20 : decode cX11_canShiftChosen 20 = .ok (.iload_n 1, 1) := by decide +kernel
theorem dX11_canShiftChosen_21 : decode cX11_canShiftChosen 21 = .ok (.invokevirtual 245, 3) := by decide +kernel
theorem dX11_canShiftChosen_24 : decode cX11_canShiftChosen 24 = .ok (.ifCond .eq 23, 3) := by decide +kernel
theorem dX11_canShiftChosen_27 : decode cX11_canShiftChosen 27 = .ok (.aload_n 0, 1) := by decide +kernel
theorem dX11_canShiftChosen_28 : decode cX11_canShiftChosen 28 = .ok (.getfield 10, 3) := by decide +kernel
theorem dX11_canShiftChosen_31 : decode cX11_canShiftChosen 31 = .ok (.getfield 55, 3) := by decide +kernel
theorem dX11_canShiftChosen_34 : decode cX11_canShiftChosen 34 = .ok (.iload_n 3, 1) := by decide +kernel
theorem dX11_canShiftChosen_35 : decode cX11_canShiftChosen 35 = .ok (.iconst 1, 1) := by decide +kernel
theorem dX11_canShiftChosen_36 : decode cX11_canShiftChosen 36 = .ok (.iload_n 2, 1) := by decide +kernel
theorem dX11_canShiftChosen_37 : decode cX11_canShiftChosen 37 = .ok (.invokevirtual 245, 3) := by decide +kernel
theorem dX11_canShiftChosen_40 : decode cX11_canShiftChosen 40 = .ok (.ifCond .eq 7, 3) := by decide +kernel
theorem dX11_canShiftChosen_43 : decode cX11_canShiftChosen 43 = .ok (.iconst 1, 1) := by decide +kernel
theorem dX11_canShiftChosen_44 : decode cX11_canShiftChosen 44 = .ok (.goto 4, 3) := by decide +kernel
theorem dX11_canShiftChosen_47 : decode cX11_canShiftChosen 47 = .ok (.iconst 0, 1) := by decide +kernel
theorem dX11_canShiftChosen_48 : decode cX11_canShiftChosen 48 = .ok (.ireturn, 1) := by decide +kernel
theorem dX11_shiftChosen_0 : decode cX11_shiftChosen 0 = .ok (.aload_n 0, 1) := by decide +kernel
theorem dX11_shiftChosen_1 : decode cX11_shiftChosen 1 = .ok (.getfield 10, 3) := by decide +kernel
theorem dX11_shiftChosen_4 : decode cX11_shiftChosen 4 = .ok (.getfield 55, 3) := by decide +kernel
theorem dX11_shiftChosen_7 : decode cX11_shiftChosen 7 = .ok (.aload_n 0, 1) := by decide +kernel
theorem dX11_shiftChosen_8 : decode cX11_shiftChosen 8 = .ok (.getfield 10, 3) := by decide +kernel
theorem dX11_shiftChosen_11 : decode cX11_shiftChosen 11 = .ok (.getfield 55, 3) := by decide +kernel
theorem dX11_shiftChosen_14 : decode cX11_shiftChosen 14 = .ok (.getfield 108, 3) := by decide +kernel
theorem dX11_shiftChosen_17 : decode cX11_shiftChosen 17 = .ok (.iconst 0, 1) := by decide +kernel
theorem dX11_shiftChosen_18 : decode cX11_shiftChosen 18 = .ok (.iload_n 1, 1) := by decide +kernel
theorem dX11_shiftChosen_19 : decode cX11_shiftChosen 19 = .ok (.invokevirtual 247, 3) := by decide +kernel
theorem dX11_shiftChosen_22 : decode cX11_shiftChosen 22 = .ok (.aload_n 0, 1) := by decide +kernel
theorem dX11_shiftChosen_23 : decode cX11_shiftChosen 23 = .ok (.getfield 10, 3) := by decide +kernel
theorem dX11_shiftChosen_26 : decode cX11_shiftChosen 26 = .ok (.getfield 55, 3) := by decide +kernel
theorem dX11_shiftChosen_29 : decode cX11_shiftChosen 29 = .ok (.aload_n 0, 1) := by decide +kernel
theorem dX11_shiftChosen_30 : decode cX11_shiftChosen 30 = .ok (.getfield 10, 3) := by decide +kernel
theorem dX11_shiftChosen_33 : decode cX11_shiftChosen 33 = .ok (.getfield 55, 3) := by decide +kernel
theorem dX11_shiftChosen_36 : decode cX11_shiftChosen 36 = .ok (.getfield 108, 3) := by decide +kernel
theorem dX11_shiftChosen_39 : decode cX11_shiftChosen 39 = .ok (.iconst 1, 1) := by decide +kernel
theorem dX11_shiftChosen_40 : decode cX11_shiftChosen 40 = .ok (.iload_n 2, 1) := by decide +kernel
theorem dX11_shiftChosen_41 : decode cX11_shiftChosen 41 = .ok (.invokevirtual 247, 3) := by decide +kernel
theorem dX11_shiftChosen_44 : decode cX11_shiftChosen 44 = .ok (.return_, 1) := by decide +kernel
theorem dX11_addGuide_0 : decode cX11_addGuide 0 = .ok (.iload_n 1, 1) := by decide +kernel
theorem dX11_addGuide_1 : decode cX11_addGuide 1 = .ok (.invokestatic 133, 3) := by decide +kernel
theorem dX11_addGuide_4 : decode cX11_addGuide 4 = .ok (.ifCond .eq 10, 3) := by decide +kernel
theorem dX11_addGuide_7 : decode cX11_addGuide 7 = .ok (.iload_n 2, 1) := by decide +kernel
theorem dX11_addGuide_8 : decode cX11_addGuide 8 = .ok (.invokestatic 48, 3) := by decide +kernel
theorem dX11_addGuide_11 : decode cX11_addGuide 11 = .ok (.ifCond .ne 5, 3) := by decide +kernel
theorem dX11_addGuide_14 : decode cX11_addGuide 14 = .ok (.iconst (-1), 1) := by decide +kernel
theorem dX11_addGuide_15 : decode cX11_addGuide 15 = .ok (.ireturn, 1) := by decide +kernel
theorem dX11_addGuide_16 : decode cX11_addGuide 16 = .ok (.aload_n 0, 1) := by decide +kernel
theorem dX11_addGuide_17 : decode cX11_addGuide 17 = .ok (.getfield 10, 3) := by decide +kernel
theorem dX11_addGuide_20 : decode cX11_addGuide 20 = .ok (.getfield 250, 3) := by decide +kernel
theorem dX11_addGuide_23 : decode cX11_addGuide 23 = .ok (.getfield 254, 3) := by decide +kernel
theorem dX11_addGuide_26 : decode cX11_addGuide 26 = .ok (.bipush 10, 2) := by decide +kernel
theorem dX11_addGuide_28 : decode cX11_addGuide 28 = .ok (.if_icmp .lt 6, 3) := by decide +kernel
theorem dX11_addGuide_31 : decode cX11_addGuide 31 = .ok (.bipush (-3), 2) := by decide +kernel
theorem dX11_addGuide_33 : decode cX11_addGuide 33 = .ok (.ireturn, 1) := by decide +kernel
theorem dX11_addGuide_34 : decode cX11_addGuide 34 = .ok (.aload_n 0, 1) := by decide +kernel
theorem dX11_addGuide_35 : decode cX11_addGuide 35 = .ok (.getfield 19, 3) := by decide +kernel
theorem dX11_addGuide_38 : decode cX11_addGuide 38 = .ok (.aload_n 0, 1) := by decide +kernel
theorem dX11_addGuide_39 : decode cX11_addGuide 39 = .ok (.getfield 10, 3) := by decide +kernel
theorem dX11_addGuide_42 : decode cX11_addGuide 42 = .ok (.invokevirtual 65, 3) := by decide +kernel
theorem dX11_addGuide_45 : decode cX11_addGuide 45 = .ok (.aload_n 0, 1) := by decide +kernel
theorem dX11_addGuide_46 : decode cX11_addGuide 46 = .ok (.getfield 10, 3) := by decide +kernel
theorem dX11_addGuide_49 : decode cX11_addGuide 49 = .ok (.getfield 250, 3) := by decide +kernel
theorem dX11_addGuide_52 : decode cX11_addGuide 52 = .ok (.iload_n 1, 1) := by decide +kernel
theorem dX11_addGuide_53 : decode cX11_addGuide 53 = .ok (.iload_n 2, 1) := by decide +kernel
theorem dX11_addGuide_54 : decode cX11_addGuide 54 = .ok (.invokevirtual 257, 3) := by decide +kernel
theorem dX11_addGuide_57 : decode cX11_addGuide 57 = .ok (.aload_n 0, 1) := by decide +kernel
theorem dX11_addGuide_58 : decode cX11_addGuide 58 = .ok (.getfield 10, 3) := by decide +kernel
theorem dX11_addGuide_61 : decode cX11_addGuide 61 = .ok (.getfield 250, 3) := by decide +kernel
theorem dX11_addGuide_64 : decode cX11_addGuide 64 = .ok (.getfield 254, 3) := by decide +kernel
theorem dX11_addGuide_67 : decode cX11_addGuide 67 = .ok (.ireturn, 1) := by decide +kernel
theorem dX11_clearGuides_0 : decode cX11_clearGuides 0 = .ok (.aload_n 0, 1) := by decide +kernel
theorem dX11_clearGuides_1 : decode cX11_clearGuides 1 = .ok (.getfield 19, 3) := by decide +kernel
theorem dX11_clearGuides_4 : decode cX11_clearGuides 4 = .ok (.aload_n 0, 1) := by decide +kernel
theorem dX11_clearGuides_5 : decode cX11_clearGuides 5 = .ok (.getfield 10, 3) := by decide +kernel
theorem dX11_clearGuides_8 : decode cX11_clearGuides 8 = .ok (.invokevirtual 65, 3) := by decide +kernel
theorem dX11_clearGuides_11 : decode cX11_clearGuides 11 = .ok (.aload_n 0, 1) := by decide +kernel
theorem dX11_clearGuides_12 : decode cX11_clearGuides 12 = .ok (.getfield 10, 3) := by decide +kernel
theorem dX11_clearGuides_15 : decode cX11_clearGuides 15 = .ok (.getfield 250, 3) := by decide +kernel
theorem dX11_clearGuides_18 : decode cX11_clearGuides 18 = .ok (.getfield 254, 3) := by decide +kernel
theorem dX11_clearGuides_21 : decode cX11_clearGuides 21 = .ok (.istore_n 1, 1) := by decide +kernel
theorem dX11_clearGuides_22 : decode cX11_clearGuides 22 = .ok (.aload_n 0, 1) := by decide +kernel
theorem dX11_clearGuides_23 : decode cX11_clearGuides 23 = .ok (.getfield 10, 3) := by decide +kernel
theorem dX11_clearGuides_26 : decode cX11_clearGuides 26 = .ok (.getfield 250, 3) := by decide +kernel
theorem dX11_clearGuides_29 : decode cX11_clearGuides 29 = .ok (.iconst 0, 1) := by decide +kernel
theorem dX11_clearGuides_30 : decode cX11_clearGuides 30 = .ok (.putfield 254, 3) := by decide +kernel
theorem dX11_clearGuides_33 : decode cX11_clearGuides 33 = .ok (.iload_n 1, 1) := by decide +kernel
theorem dX11_clearGuides_34 : decode cX11_clearGuides 34 = .ok (.ireturn, 1) := by decide +kernel
theorem dX11_setGrid_0 : decode cX11_setGrid 0 = .ok (.iload_n 1, 1) := by decide +kernel
theorem dX11_setGrid_1 : decode cX11_setGrid 1 = .ok (.iconst 0, 1) := by decide +kernel
theorem dX11_setGrid_2 : decode cX11_setGrid 2 = .ok (.bipush 100, 2) := by decide +kernel
theorem dX11_setGrid_4 : decode cX11_setGrid 4 = .ok (.invokestatic 44, 3) := by decide +kernel
theorem dX11_setGrid_7 : decode cX11_setGrid 7 = .ok (.ifCond .ne 5, 3) := by decide +kernel
theorem dX11_setGrid_10 : decode cX11_setGrid 10 = .ok (.iconst (-1), 1) := by decide +kernel
theorem dX11_setGrid_11 : decode cX11_setGrid 11 = .ok (.ireturn, 1) := by decide +kernel
theorem dX11_setGrid_12 : decode cX11_setGrid 12 = .ok (.aload_n 0, 1) := by decide +kernel
theorem dX11_setGrid_13 : decode cX11_setGrid 13 = .ok (.getfield 19, 3) := by decide +kernel
theorem dX11_setGrid_16 : decode cX11_setGrid 16 = .ok (.aload_n 0, 1) := by decide +kernel
theorem dX11_setGrid_17 : decode cX11_setGrid 17 = .ok (.getfield 10, 3) := by decide +kernel
theorem dX11_setGrid_20 : decode cX11_setGrid 20 = .ok (.invokevirtual 65, 3) := by decide +kernel
theorem dX11_setGrid_23 : decode cX11_setGrid 23 = .ok (.aload_n 0, 1) := by decide +kernel
theorem dX11_setGrid_24 : decode cX11_setGrid 24 = .ok (.getfield 10, 3) := by decide +kernel
theorem dX11_setGrid_27 : decode cX11_setGrid 27 = .ok (.getfield 250, 3) := by decide +kernel
theorem dX11_setGrid_30 : decode cX11_setGrid 30 = .ok (.getfield 259, 3) := by decide +kernel
theorem dX11_setGrid_33 : decode cX11_setGrid 33 = .ok (.istore_n 2, 1) := by decide +kernel
theorem dX11_setGrid_34 : decode cX11_setGrid 34 = .ok (.aload_n 0, 1) := by decide +kernel
theorem dX11_setGrid_35 : decode cX11_setGrid 35 = .ok (.getfield 10, 3) := by decide +kernel
theorem dX11_setGrid_38 : decode cX11_setGrid 38 = .ok (.getfield 250, 3) := by decide +kernel
theorem dX11_setGrid_41 : decode cX11_setGrid 41 = .ok (.iload_n 1, 1) := by decide +kernel
theorem dX11_setGrid_42 : decode cX11_setGrid 42 = .ok (.putfield 259, 3) := by decide +kernel
theorem dX11_setGrid_45 : decode cX11_setGrid 45 = .ok (.iload_n 2, 1) := by decide +kernel
theorem dX11_setGrid_46 : decode cX11_setGrid 46 = .ok (.ireturn, 1) := by decide +kernel
theorem dX11_setTolerance_0 : decode cX11_setTolerance 0 = .ok (.iload_n 1, 1) := by decide +kernel
theorem dX11_setTolerance_1 : decode cX11_setTolerance 1 = .ok (.iconst 0, 1) := by decide +kernel
theorem dX11_setTolerance_2 : decode cX11_setTolerance 2 = .ok (.bipush 50, 2) := by decide +kernel
theorem dX11_setTolerance_4 : decode cX11_setTolerance 4 = .ok (.invokestatic 44, 3) := by decide +kernel
theorem dX11_setTolerance_7 : decode cX11_setTolerance 7 = .ok (.ifCond .ne 5, 3) := by decide +kernel
theorem dX11_setTolerance_10 : decode cX11_setTolerance 10 = .ok (.iconst (-1), 1) := by decide +kernel
theorem dX11_setTolerance_11 : decode cX11_setTolerance 11 = .ok (.ireturn, 1) := by decide +kernel
theorem dX11_setTolerance_12 : decode cX11_setTolerance 12 = .ok (.aload_n 0, 1) := by decide +kernel
theorem dX11_setTolerance_13 : decode cX11_setTolerance 13 = .ok (.getfield 19, 3) := by decide +kernel
theorem dX11_setTolerance_16 : decode cX11_setTolerance 16 = .ok (.aload_n 0, 1) := by decide +kernel
theorem dX11_setTolerance_17 : decode cX11_setTolerance 17 = .ok (.getfield 10, 3) := by decide +kernel
theorem dX11_setTolerance_20 : decode cX11_setTolerance 20 = .ok (.invokevirtual 65, 3) := by decide +kernel
theorem dX11_setTolerance_23 : decode cX11_setTolerance 23 = .ok (.aload_n 0, 1) := by decide +kernel
theorem dX11_setTolerance_24 : decode cX11_setTolerance 24 = .ok (.getfield 10, 3) := by decide +kernel
theorem dX11_setTolerance_27 : decode cX11_setTolerance 27 = .ok (.getfield 250, 3) := by decide +kernel
theorem dX11_setTolerance_30 : decode cX11_setTolerance 30 = .ok (.getfield 262, 3) := by decide +kernel
theorem dX11_setTolerance_33 : decode cX11_setTolerance 33 = .ok (.istore_n 2, 1) := by decide +kernel
theorem dX11_setTolerance_34 : decode cX11_setTolerance 34 = .ok (.aload_n 0, 1) := by decide +kernel
theorem dX11_setTolerance_35 : decode cX11_setTolerance 35 = .ok (.getfield 10, 3) := by decide +kernel
theorem dX11_setTolerance_38 : decode cX11_setTolerance 38 = .ok (.getfield 250, 3) := by decide +kernel
theorem dX11_setTolerance_41 : decode cX11_setTolerance 41 = .ok (.iload_n 1, 1) := by decide +kernel
theorem dX11_setTolerance_42 : decode cX11_setTolerance 42 = .ok (.putfield 262, 3) := by decide +kernel
theorem dX11_setTolerance_45 : decode cX11_setTolerance 45 = .ok (.iload_n 2, 1) := by decide +kernel
theorem dX11_setTolerance_46 : decode cX11_setTolerance 46 = .ok (.ireturn, 1) := by decide +kernel
theorem dX11_type_0 : decode cX11_type 0 = .ok (.iload_n 1, 1) := by decide +kernel
theorem dX11_type_1 : decode cX11_type 1 = .ok (.bipush 32, 2) := by decide +kernel
theorem dX11_type_3 : decode cX11_type 3 = .ok (.bipush 126, 2) := by decide +kernel
theorem dX11_type_5 : decode cX11_type 5 = .ok (.invokestatic 44, 3) := by decide +kernel
theorem dX11_type_8 : decode cX11_type 8 = .ok (.ifCond .ne 5, 3) := by decide +kernel
theorem dX11_type_11 : decode cX11_type 11 = .ok (.iconst (-1), 1) := by decide +kernel
theorem dX11_type_12 : decode cX11_type 12 = .ok (.ireturn, 1) := by decide +kernel
theorem dX11_type_13 : decode cX11_type 13 = .ok (.aload_n 0, 1) := by decide +kernel
theorem dX11_type_14 : decode cX11_type 14 = .ok (.getfield 26, 3) := by decide +kernel
theorem dX11_type_17 : decode cX11_type 17 = .ok (.iload_n 1, 1) := by decide +kernel
theorem dX11_type_18 : decode cX11_type 18 = .ok (.invokevirtual 265, 3) := by decide +kernel
theorem dX11_type_21 : decode cX11_type 21 = .ok (.ifCond .eq 13, 3) := by decide +kernel
theorem dX11_type_24 : decode cX11_type 24 = .ok (.aload_n 0, 1) := by decide +kernel
theorem dX11_type_25 : decode cX11_type 25 = .ok (.getfield 26, 3) := by decide +kernel
theorem dX11_type_28 : decode cX11_type 28 = .ok (.getfield 268, 3) := by decide +kernel
theorem dX11_type_31 : decode cX11_type 31 = .ok (.goto 5, 3) := by decide +kernel
theorem dX11_type_34 : decode cX11_type 34 = .ok (.bipush (-3), 2) := by decide +kernel
theorem dX11_type_36 : decode cX11_type 36 = .ok (.ireturn, 1) := by decide +kernel
theorem dX11_clear_0 : decode cX11_clear 0 = .ok (.aload_n 0, 1) := by decide +kernel
theorem dX11_clear_1 : decode cX11_clear 1 = .ok (.getfield 26, 3) := by decide +kernel
theorem dX11_clear_4 : decode cX11_clear 4 = .ok (.getfield 268, 3) := by decide +kernel
theorem dX11_clear_7 : decode cX11_clear 7 = .ok (.istore_n 1, 1) := by decide +kernel
theorem dX11_clear_8 : decode cX11_clear 8 = .ok (.aload_n 0, 1) := by decide +kernel
theorem dX11_clear_9 : decode cX11_clear 9 = .ok (.getfield 26, 3) := by decide +kernel
theorem dX11_clear_12 : decode cX11_clear 12 = .ok (.iconst 0, 1) := by decide +kernel
theorem dX11_clear_13 : decode cX11_clear 13 = .ok (.putfield 268, 3) := by decide +kernel
theorem dX11_clear_16 : decode cX11_clear 16 = .ok (.iload_n 1, 1) := by decide +kernel
theorem dX11_clear_17 : decode cX11_clear 17 = .ok (.ireturn, 1) := by decide +kernel
theorem dX11_read_0 : decode cX11_read 0 = .ok (.aload_n 0, 1) := by decide +kernel
theorem dX11_read_1 : decode cX11_read 1 = .ok (.getfield 26, 3) := by decide +kernel
theorem dX11_read_4 : decode cX11_read 4 = .ok (.invokevirtual 269, 3) := by decide +kernel
theorem dX11_read_7 : decode cX11_read 7 = .ok (.istore_n 1, 1) := by decide +kernel
theorem dX11_read_8 : decode cX11_read 8 = .ok (.iload_n 1, 1) := by decide +kernel
theorem dX11_read_9 : decode cX11_read 9 = .ok (.ldc 98, 2) := by decide +kernel
theorem dX11_read_11 : decode cX11_read 11 = .ok (.if_icmp .eq 8, 3) := by decide +kernel
theorem dX11_read_14 : decode cX11_read 14 = .ok (.bipush (-100), 2) := by decide +kernel
theorem dX11_read_16 : decode cX11_read 16 = .ok (.iload_n 1, 1) := by decide +kernel
theorem dX11_read_17 : decode cX11_read 17 = .ok (.isub, 1) := by decide +kernel
theorem dX11_read_18 : decode cX11_read 18 = .ok (.ireturn, 1) := by decide +kernel
theorem dX11_read_19 : decode cX11_read 19 = .ok (.aload_n 0, 1) := by decide +kernel
theorem dX11_read_20 : decode cX11_read 20 = .ok (.getfield 10, 3) := by decide +kernel
theorem dX11_read_23 : decode cX11_read 23 = .ok (.getfield 55, 3) := by decide +kernel
theorem dX11_read_26 : decode cX11_read 26 = .ok (.getfield 59, 3) := by decide +kernel
theorem dX11_read_29 : decode cX11_read 29 = .ok (.aload_n 0, 1) := by decide +kernel
theorem dX11_read_30 : decode cX11_read 30 = .ok (.getfield 26, 3) := by decide +kernel
theorem dX11_read_33 : decode cX11_read 33 = .ok (.getfield 272, 3) := by decide +kernel
theorem dX11_read_36 : decode cX11_read 36 = .ok (.iadd, 1) := by decide +kernel
theorem dX11_read_37 : decode cX11_read 37 = .ok (.bipush 20, 2) := by decide +kernel
theorem dX11_read_39 : decode cX11_read 39 = .ok (.if_icmp .le 6, 3) := by decide +kernel
theorem dX11_read_42 : decode cX11_read 42 = .ok (.bipush (-3), 2) := by decide +kernel
theorem dX11_read_44 : decode cX11_read 44 = .ok (.ireturn, 1) := by decide +kernel
theorem dX11_read_45 : decode cX11_read 45 = .ok (.aload_n 0, 1) := by decide +kernel
theorem dX11_read_46 : decode cX11_read 46 = .ok (.getfield 19, 3) := by decide +kernel
theorem dX11_read_49 : decode cX11_read 49 = .ok (.aload_n 0, 1) := by decide +kernel
theorem dX11_read_50 : decode cX11_read 50 = .ok (.getfield 10, 3) := by decide +kernel
theorem dX11_read_53 : decode cX11_read 53 = .ok (.invokevirtual 65, 3) := by decide +kernel
theorem dX11_read_56 : decode cX11_read 56 = .ok (.iconst 0, 1) := by decide +kernel
theorem dX11_read_57 : decode cX11_read 57 = .ok (.istore_n 2, 1) := by decide +kernel
theorem dX11_read_58 : decode cX11_read 58 = .ok (.iload_n 2, 1) := by decide +kernel
theorem dX11_read_59 : decode cX11_read 59 = .ok (.aload_n 0, 1) := by decide +kernel
theorem dX11_read_60 : decode cX11_read 60 = .ok (.getfield 26, 3) := by decide +kernel
theorem dX11_read_63 : decode cX11_read 63 = .ok (.getfield 272, 3) := by decide +kernel
theorem dX11_read_66 : decode cX11_read 66 = .ok (.if_icmp .ge 53, 3) := by decide +kernel
theorem dX11_read_69 : decode cX11_read 69 = .ok (.aload_n 0, 1) := by decide +kernel
theorem dX11_read_70 : decode cX11_read 70 = .ok (.getfield 26, 3) := by decide +kernel
theorem dX11_read_73 : decode cX11_read 73 = .ok (.iload_n 2, 1) := by decide +kernel
theorem dX11_read_74 : decode cX11_read 74 = .ok (.invokevirtual 275, 3) := by decide +kernel
theorem dX11_read_77 : decode cX11_read 77 = .ok (.astore_n 3, 1) := by decide +kernel
theorem dX11_read_78 : decode cX11_read 78 = .ok (.aload_n 3, 1) := by decide +kernel
theorem dX11_read_79 : decode cX11_read 79 = .ok (.ifnull 34, 3) := by decide +kernel
theorem dX11_read_82 : decode cX11_read 82 = .ok (.aload_n 0, 1) := by decide +kernel
theorem dX11_read_83 : decode cX11_read 83 = .ok (.getfield 10, 3) := by decide +kernel
theorem dX11_read_86 : decode cX11_read 86 = .ok (.getfield 55, 3) := by decide +kernel
theorem dX11_read_89 : decode cX11_read 89 = .ok (.aload_n 3, 1) := by decide +kernel
theorem dX11_read_90 : decode cX11_read 90 = .ok (.getfield 99, 3) := by decide +kernel
theorem dX11_read_93 : decode cX11_read 93 = .ok (.aload_n 3, 1) := by decide +kernel
theorem dX11_read_94 : decode cX11_read 94 = .ok (.getfield 102, 3) := by decide +kernel
theorem dX11_read_97 : decode cX11_read 97 = .ok (.aload_n 3, 1) := by decide +kernel
theorem dX11_read_98 : decode cX11_read 98 = .ok (.getfield 105, 3) := by decide +kernel
theorem dX11_read_101 : decode cX11_read 101 = .ok (.aload_n 3, 1) := by decide +kernel
theorem dX11_read_102 : decode cX11_read 102 = .ok (.getfield 81, 3) := by decide +kernel
theorem dX11_read_105 : decode cX11_read 105 = .ok (.aload_n 3, 1) := by decide +kernel
theorem dX11_read_106 : decode cX11_read 106 = .ok (.getfield 86, 3) := by decide +kernel
theorem dX11_read_109 : decode cX11_read 109 = .ok (.invokevirtual 69, 3) := by decide +kernel
theorem dX11_read_112 : decode cX11_read 112 = .ok (.pop, 1) := by decide +kernel
theorem dX11_read_113 : decode cX11_read 113 = .ok (.iinc 2 1, 3) := by decide +kernel
theorem dX11_read_116 : decode cX11_read 116 = .ok (.goto (-58), 3) := by decide +kernel
theorem dX11_read_119 : decode cX11_read 119 = .ok (.aload_n 0, 1) := by decide +kernel
theorem dX11_read_120 : decode cX11_read 120 = .ok (.getfield 26, 3) := by decide +kernel
theorem dX11_read_123 : decode cX11_read 123 = .ok (.iconst 0, 1) := by decide +kernel
theorem dX11_read_124 : decode cX11_read 124 = .ok (.putfield 268, 3) := by decide +kernel
theorem dX11_read_127 : decode cX11_read 127 = .ok (.aload_n 0, 1) := by decide +kernel
theorem dX11_read_128 : decode cX11_read 128 = .ok (.getfield 26, 3) := by decide +kernel
theorem dX11_read_131 : decode cX11_read 131 = .ok (.getfield 272, 3) := by decide +kernel
theorem dX11_read_134 : decode cX11_read 134 = .ok (.ireturn, 1) := by decide +kernel
theorem dX11_undo_0 : decode cX11_undo 0 = .ok (.aload_n 0, 1) := by decide +kernel
theorem dX11_undo_1 : decode cX11_undo 1 = .ok (.getfield 19, 3) := by decide +kernel
theorem dX11_undo_4 : decode cX11_undo 4 = .ok (.aload_n 0, 1) := by decide +kernel
theorem dX11_undo_5 : decode cX11_undo 5 = .ok (.getfield 10, 3) := by decide +kernel
theorem dX11_undo_8 : decode cX11_undo 8 = .ok (.invokevirtual 278, 3) := by decide +kernel
theorem dX11_undo_11 : decode cX11_undo 11 = .ok (.ifCond .eq 13, 3) := by decide +kernel
theorem dX11_undo_14 : decode cX11_undo 14 = .ok (.aload_n 0, 1) := by decide +kernel
theorem dX11_undo_15 : decode cX11_undo 15 = .ok (.getfield 19, 3) := by decide +kernel
theorem dX11_undo_18 : decode cX11_undo 18 = .ok (.getfield 282, 3) := by decide +kernel
theorem dX11_undo_21 : decode cX11_undo 21 = .ok (.goto 5, 3) := by decide +kernel
theorem dX11_undo_24 : decode cX11_undo 24 = .ok (.ldc 98, 2) := by decide +kernel
theorem dX11_undo_26 : decode cX11_undo 26 = .ok (.ireturn, 1) := by decide +kernel
theorem dX11_fingerprint_0 : decode cX11_fingerprint 0 = .ok (.ldc2_w 283, 3) := by decide +kernel
theorem dX11_fingerprint_3 : decode cX11_fingerprint 3 = .ok (.lstore_n 1, 1) := by decide +kernel
theorem dX11_fingerprint_4 : decode cX11_fingerprint 4 = .ok (.iconst 0, 1) := by decide +kernel
theorem dX11_fingerprint_5 : decode cX11_fingerprint 5 = .ok (.istore_n 3, 1) := by decide +kernel
theorem dX11_fingerprint_6 : decode cX11_fingerprint 6 = .ok (.iload_n 3, 1) := by decide +kernel
theorem dX11_fingerprint_7 : decode cX11_fingerprint 7 = .ok (.bipush 20, 2) := by decide +kernel
theorem dX11_fingerprint_9 : decode cX11_fingerprint 9 = .ok (.if_icmp .ge 30, 3) := by decide +kernel
theorem dX11_fingerprint_12 : decode cX11_fingerprint 12 = .ok (.aload_n 0, 1) := by decide +kernel
theorem dX11_fingerprint_13 : decode cX11_fingerprint 13 = .ok (.getfield 10, 3) := by decide +kernel
theorem dX11_fingerprint_16 : decode cX11_fingerprint 16 = .ok (.getfield 55, 3) := by decide +kernel
theorem dX11_fingerprint_19 : decode cX11_fingerprint 19 = .ok (.iload_n 3, 1) := by decide +kernel
theorem dX11_fingerprint_20 : decode cX11_fingerprint 20 = .ok (.invokevirtual 73, 3) := by decide +kernel
theorem dX11_fingerprint_23 : decode cX11_fingerprint 23 = .ok (.ifnull 10, 3) := by decide +kernel
theorem dX11_fingerprint_26 : decode cX11_fingerprint 26 = .ok (.aload_n 0, 1) := by decide +kernel
theorem dX11_fingerprint_27 : decode cX11_fingerprint 27 = .ok (.lload_n 1, 1) := by decide +kernel
theorem dX11_fingerprint_28 : decode cX11_fingerprint 28 = .ok (.iload_n 3, 1) := by decide +kernel
theorem dX11_fingerprint_29 : decode cX11_fingerprint 29 = .ok (.invokevirtual 285, 3) := by decide +kernel
theorem dX11_fingerprint_32 : decode cX11_fingerprint 32 = .ok (.lstore_n 1, 1) := by decide +kernel
theorem dX11_fingerprint_33 : decode cX11_fingerprint 33 = .ok (.iinc 3 1, 3) := by decide +kernel
theorem dX11_fingerprint_36 : decode cX11_fingerprint 36 = .ok (.goto (-30), 3) := by decide +kernel
theorem dX11_fingerprint_39 : decode cX11_fingerprint 39 = .ok (.lload_n 1, 1) := by decide +kernel
theorem dX11_fingerprint_40 : decode cX11_fingerprint 40 = .ok (.aload_n 0, 1) := by decide +kernel
theorem dX11_fingerprint_41 : decode cX11_fingerprint 41 = .ok (.getfield 10, 3) := by decide +kernel
theorem dX11_fingerprint_44 : decode cX11_fingerprint 44 = .ok (.getfield 89, 3) := by decide +kernel
theorem dX11_fingerprint_47 : decode cX11_fingerprint 47 = .ok (.getfield 153, 3) := by decide +kernel
theorem dX11_fingerprint_50 : decode cX11_fingerprint 50 = .ok (.i2l, 1) := by decide +kernel
theorem dX11_fingerprint_51 : decode cX11_fingerprint 51 = .ok (.invokestatic 289, 3) := by decide +kernel
theorem dX11_fingerprint_54 : decode cX11_fingerprint 54 = .ok (.lstore_n 1, 1) := by decide +kernel
theorem dX11_fingerprint_55 : decode cX11_fingerprint 55 = .ok (.iconst 0, 1) := by decide +kernel
theorem dX11_fingerprint_56 : decode cX11_fingerprint 56 = .ok (.istore_n 3, 1) := by decide +kernel
theorem dX11_fingerprint_57 : decode cX11_fingerprint 57 = .ok (.iload_n 3, 1) := by decide +kernel
theorem dX11_fingerprint_58 : decode cX11_fingerprint 58 = .ok (.aload_n 0, 1) := by decide +kernel
theorem dX11_fingerprint_59 : decode cX11_fingerprint 59 = .ok (.getfield 10, 3) := by decide +kernel
theorem dX11_fingerprint_62 : decode cX11_fingerprint 62 = .ok (.getfield 89, 3) := by decide +kernel
theorem dX11_fingerprint_65 : decode cX11_fingerprint 65 = .ok (.getfield 153, 3) := by decide +kernel
theorem dX11_fingerprint_68 : decode cX11_fingerprint 68 = .ok (.if_icmp .ge 16, 3) := by decide +kernel
theorem dX11_fingerprint_71 : decode cX11_fingerprint 71 = .ok (.aload_n 0, 1) := by decide +kernel
theorem dX11_fingerprint_72 : decode cX11_fingerprint 72 = .ok (.lload_n 1, 1) := by decide +kernel
theorem dX11_fingerprint_73 : decode cX11_fingerprint 73 = .ok (.iload_n 3, 1) := by decide +kernel
theorem dX11_fingerprint_74 : decode cX11_fingerprint 74 = .ok (.invokevirtual 293, 3) := by decide +kernel
theorem dX11_fingerprint_77 : decode cX11_fingerprint 77 = .ok (.lstore_n 1, 1) := by decide +kernel
theorem dX11_fingerprint_78 : decode cX11_fingerprint 78 = .ok (.iinc 3 1, 3) := by decide +kernel
theorem dX11_fingerprint_81 : decode cX11_fingerprint 81 = .ok (.goto (-24), 3) := by decide +kernel
theorem dX11_fingerprint_84 : decode cX11_fingerprint 84 = .ok (.iconst 0, 1) := by decide +kernel
theorem dX11_fingerprint_85 : decode cX11_fingerprint 85 = .ok (.istore_n 3, 1) := by decide +kernel
theorem dX11_fingerprint_86 : decode cX11_fingerprint 86 = .ok (.iload_n 3, 1) := by decide +kernel
theorem dX11_fingerprint_87 : decode cX11_fingerprint 87 = .ok (.bipush 8, 2) := by decide +kernel
theorem dX11_fingerprint_89 : decode cX11_fingerprint 89 = .ok (.if_icmp .ge 42, 3) := by decide +kernel
theorem dX11_fingerprint_92 : decode cX11_fingerprint 92 = .ok (.aload_n 0, 1) := by decide +kernel
theorem dX11_fingerprint_93 : decode cX11_fingerprint 93 = .ok (.getfield 10, 3) := by decide +kernel
theorem dX11_fingerprint_96 : decode cX11_fingerprint 96 = .ok (.getfield 121, 3) := by decide +kernel
theorem dX11_fingerprint_99 : decode cX11_fingerprint 99 = .ok (.iload_n 3, 1) := by decide +kernel
theorem dX11_fingerprint_100 : decode cX11_fingerprint 100 = .ok (.invokevirtual 198, 3) := by decide +kernel
theorem dX11_fingerprint_103 : decode cX11_fingerprint 103 = .ok (.ifCond .eq 22, 3) := by decide +kernel
theorem dX11_fingerprint_106 : decode cX11_fingerprint 106 = .ok (.lload_n 1, 1) := by decide +kernel
theorem dX11_fingerprint_107 : decode cX11_fingerprint 107 = .ok (.iload_n 3, 1) := by decide +kernel
theorem dX11_fingerprint_108 : decode cX11_fingerprint 108 = .ok (.i2l, 1) := by decide +kernel
theorem dX11_fingerprint_109 : decode cX11_fingerprint 109 = .ok (.invokestatic 289, 3) := by decide +kernel
theorem dX11_fingerprint_112 : decode cX11_fingerprint 112 = .ok (.aload_n 0, 1) := by decide +kernel
theorem dX11_fingerprint_113 : decode cX11_fingerprint 113 = .ok (.getfield 10, 3) := by decide +kernel
theorem dX11_fingerprint_116 : decode cX11_fingerprint 116 = .ok (.iload_n 3, 1) := by decide +kernel
theorem dX11_fingerprint_117 : decode cX11_fingerprint 117 = .ok (.invokevirtual 204, 3) := by decide +kernel
theorem dX11_fingerprint_120 : decode cX11_fingerprint 120 = .ok (.i2l, 1) := by decide +kernel
theorem dX11_fingerprint_121 : decode cX11_fingerprint 121 = .ok (.invokestatic 289, 3) := by decide +kernel
theorem dX11_fingerprint_124 : decode cX11_fingerprint 124 = .ok (.lstore_n 1, 1) := by decide +kernel
theorem dX11_fingerprint_125 : decode cX11_fingerprint 125 = .ok (.iinc 3 1, 3) := by decide +kernel
theorem dX11_fingerprint_128 : decode cX11_fingerprint 128 = .ok (.goto (-42), 3) := by decide +kernel
theorem dX11_fingerprint_131 : decode cX11_fingerprint 131 = .ok (.lload_n 1, 1) := by decide +kernel
theorem dX11_fingerprint_132 : decode cX11_fingerprint 132 = .ok (.lreturn, 1) := by decide +kernel
theorem dX11_shapeMixed_0 : decode cX11_shapeMixed 0 = .ok (.lload_n 1, 1) := by decide +kernel
theorem dX11_shapeMixed_1 : decode cX11_shapeMixed 1 = .ok (.iload_n 3, 1) := by decide +kernel
theorem dX11_shapeMixed_2 : decode cX11_shapeMixed 2 = .ok (.i2l, 1) := by decide +kernel
theorem dX11_shapeMixed_3 : decode cX11_shapeMixed 3 = .ok (.invokestatic 289, 3) := by decide +kernel
theorem dX11_shapeMixed_6 : decode cX11_shapeMixed 6 = .ok (.lstore 4, 2) := by decide +kernel
theorem dX11_shapeMixed_8 : decode cX11_shapeMixed 8 = .ok (.iconst 0, 1) := by decide +kernel
theorem dX11_shapeMixed_9 : decode cX11_shapeMixed 9 = .ok (.istore 6, 2) := by decide +kernel
theorem dX11_shapeMixed_11 : decode cX11_shapeMixed 11 = .ok (.iload 6, 2) := by decide +kernel
theorem dX11_shapeMixed_13 : decode cX11_shapeMixed 13 = .ok (.bipush 8, 2) := by decide +kernel
theorem dX11_shapeMixed_15 : decode cX11_shapeMixed 15 = .ok (.if_icmp .gt 24, 3) := by decide +kernel
theorem dX11_shapeMixed_18 : decode cX11_shapeMixed 18 = .ok (.lload 4, 2) := by decide +kernel
theorem dX11_shapeMixed_20 : decode cX11_shapeMixed 20 = .ok (.aload_n 0, 1) := by decide +kernel
theorem dX11_shapeMixed_21 : decode cX11_shapeMixed 21 = .ok (.iload_n 3, 1) := by decide +kernel
theorem dX11_shapeMixed_22 : decode cX11_shapeMixed 22 = .ok (.iload 6, 2) := by decide +kernel
theorem dX11_shapeMixed_24 : decode cX11_shapeMixed 24 = .ok (.invokevirtual 296, 3) := by decide +kernel
theorem dX11_shapeMixed_27 : decode cX11_shapeMixed 27 = .ok (.i2l, 1) := by decide +kernel
theorem dX11_shapeMixed_28 : decode cX11_shapeMixed 28 = .ok (.invokestatic 289, 3) := by decide +kernel
theorem dX11_shapeMixed_31 : decode cX11_shapeMixed 31 = .ok (.lstore 4, 2) := by decide +kernel
theorem dX11_shapeMixed_33 : decode cX11_shapeMixed 33 = .ok (.iinc 6 1, 3) := by decide +kernel
theorem dX11_shapeMixed_36 : decode cX11_shapeMixed 36 = .ok (.goto (-25), 3) := by decide +kernel
theorem dX11_shapeMixed_39 : decode cX11_shapeMixed 39 = .ok (.lload 4, 2) := by decide +kernel
theorem dX11_shapeMixed_41 : decode cX11_shapeMixed 41 = .ok (.lreturn, 1) := by decide +kernel
theorem dX11_connectorMixed_0 : decode cX11_connectorMixed 0 = .ok (.aload_n 0, 1) := by decide +kernel
theorem dX11_connectorMixed_1 : decode cX11_connectorMixed 1 = .ok (.getfield 10, 3) := by decide +kernel
theorem dX11_connectorMixed_4 : decode cX11_connectorMixed 4 = .ok (.getfield 89, 3) := by decide +kernel
theorem dX11_connectorMixed_7 : decode cX11_connectorMixed 7 = .ok (.iload_n 3, 1) := by decide +kernel
theorem dX11_connectorMixed_8 : decode cX11_connectorMixed 8 = .ok (.invokevirtual 156, 3) := by decide +kernel
theorem dX11_connectorMixed_11 : decode cX11_connectorMixed 11 = .ok (.astore 4, 2) := by decide +kernel
theorem dX11_connectorMixed_13 : decode cX11_connectorMixed 13 = .ok (.aload 4, 2) := by decide +kernel
theorem dX11_connectorMixed_15 : decode cX11_connectorMixed 15 = .ok (.ifnonnull 5, 3) := by decide +kernel
theorem dX11_connectorMixed_18 : decode cX11_connectorMixed 18 = .ok (.lload_n 1, 1) := by decide +kernel
theorem dX11_connectorMixed_19 : decode cX11_connectorMixed 19 = .ok (.lreturn, 1) := by decide +kernel
theorem dX11_connectorMixed_20 : decode cX11_connectorMixed 20 = .ok (.lload_n 1, 1) := by decide +kernel
theorem dX11_connectorMixed_21 : decode cX11_connectorMixed 21 = .ok (.aload 4, 2) := by decide +kernel
theorem dX11_connectorMixed_23 : decode cX11_connectorMixed 23 = .ok (.aload_n 0, 1) := by decide +kernel
theorem dX11_connectorMixed_24 : decode cX11_connectorMixed 24 = .ok (.getfield 10, 3) := by decide +kernel
theorem dX11_connectorMixed_27 : decode cX11_connectorMixed 27 = .ok (.getfield 55, 3) := by decide +kernel
theorem dX11_connectorMixed_30 : decode cX11_connectorMixed 30 = .ok (.invokevirtual 172, 3) := by decide +kernel
theorem dX11_connectorMixed_33 : decode cX11_connectorMixed 33 = .ok (.i2l, 1) := by decide +kernel
theorem dX11_connectorMixed_34 : decode cX11_connectorMixed 34 = .ok (.invokestatic 289, 3) := by decide +kernel
theorem dX11_connectorMixed_37 : decode cX11_connectorMixed 37 = .ok (.lstore 5, 2) := by decide +kernel
theorem dX11_connectorMixed_39 : decode cX11_connectorMixed 39 = .ok (.lload 5, 2) := by decide +kernel
theorem dX11_connectorMixed_41 : decode cX11_connectorMixed 41 = .ok (.aload 4, 2) := by decide +kernel
theorem dX11_connectorMixed_43 : decode cX11_connectorMixed 43 = .ok (.aload_n 0, 1) := by decide +kernel
theorem dX11_connectorMixed_44 : decode cX11_connectorMixed 44 = .ok (.getfield 10, 3) := by decide +kernel
theorem dX11_connectorMixed_47 : decode cX11_connectorMixed 47 = .ok (.getfield 55, 3) := by decide +kernel
theorem dX11_connectorMixed_50 : decode cX11_connectorMixed 50 = .ok (.invokevirtual 176, 3) := by decide +kernel
theorem dX11_connectorMixed_53 : decode cX11_connectorMixed 53 = .ok (.i2l, 1) := by decide +kernel
theorem dX11_connectorMixed_54 : decode cX11_connectorMixed 54 = .ok (.invokestatic 289, 3) := by decide +kernel
theorem dX11_connectorMixed_57 : decode cX11_connectorMixed 57 = .ok (.lstore 5, 2) := by decide +kernel
theorem dX11_connectorMixed_59 : decode cX11_connectorMixed 59 = .ok (.iconst 0, 1) := by decide +kernel
theorem dX11_connectorMixed_60 : decode cX11_connectorMixed 60 = .ok (.istore 7, 2) := by decide +kernel
theorem dX11_connectorMixed_62 : decode cX11_connectorMixed 62 = .ok (.iload 7, 2) := by decide +kernel
theorem dX11_connectorMixed_64 : decode cX11_connectorMixed 64 = .ok (.aload 4, 2) := by decide +kernel
theorem dX11_connectorMixed_66 : decode cX11_connectorMixed 66 = .ok (.invokevirtual 163, 3) := by decide +kernel
theorem dX11_connectorMixed_69 : decode cX11_connectorMixed 69 = .ok (.if_icmp .gt 55, 3) := by decide +kernel
theorem dX11_connectorMixed_72 : decode cX11_connectorMixed 72 = .ok (.lload 5, 2) := by decide +kernel
theorem dX11_connectorMixed_74 : decode cX11_connectorMixed 74 = .ok (.aload 4, 2) := by decide +kernel
theorem dX11_connectorMixed_76 : decode cX11_connectorMixed 76 = .ok (.aload_n 0, 1) := by decide +kernel
theorem dX11_connectorMixed_77 : decode cX11_connectorMixed 77 = .ok (.getfield 10, 3) := by decide +kernel
theorem dX11_connectorMixed_80 : decode cX11_connectorMixed 80 = .ok (.getfield 55, 3) := by decide +kernel
theorem dX11_connectorMixed_83 : decode cX11_connectorMixed 83 = .ok (.iload 7, 2) := by decide +kernel
theorem dX11_connectorMixed_85 : decode cX11_connectorMixed 85 = .ok (.iconst 0, 1) := by decide +kernel
theorem dX11_connectorMixed_86 : decode cX11_connectorMixed 86 = .ok (.invokevirtual 168, 3) := by decide +kernel
theorem dX11_connectorMixed_89 : decode cX11_connectorMixed 89 = .ok (.i2l, 1) := by decide +kernel
theorem dX11_connectorMixed_90 : decode cX11_connectorMixed 90 = .ok (.invokestatic 289, 3) := by decide +kernel
theorem dX11_connectorMixed_93 : decode cX11_connectorMixed 93 = .ok (.lstore 5, 2) := by decide +kernel
theorem dX11_connectorMixed_95 : decode cX11_connectorMixed 95 = .ok (.lload 5, 2) := by decide +kernel
theorem dX11_connectorMixed_97 : decode cX11_connectorMixed 97 = .ok (.aload 4, 2) := by decide +kernel
theorem dX11_connectorMixed_99 : decode cX11_connectorMixed 99 = .ok (.aload_n 0, 1) := by decide +kernel
theorem dX11_connectorMixed_100 : decode cX11_connectorMixed 100 = .ok (.getfield 10, 3) := by decide +kernel
theorem dX11_connectorMixed_103 : decode cX11_connectorMixed 103 = .ok (.getfield 55, 3) := by decide +kernel
theorem dX11_connectorMixed_106 : decode cX11_connectorMixed 106 = .ok (.iload 7, 2) := by decide +kernel
theorem dX11_connectorMixed_108 : decode cX11_connectorMixed 108 = .ok (.iconst 1, 1) := by decide +kernel
theorem dX11_connectorMixed_109 : decode cX11_connectorMixed 109 = .ok (.invokevirtual 168, 3) := by decide +kernel
theorem dX11_connectorMixed_112 : decode cX11_connectorMixed 112 = .ok (.i2l, 1) := by decide +kernel
theorem dX11_connectorMixed_113 : decode cX11_connectorMixed 113 = .ok (.invokestatic 289, 3) := by decide +kernel
theorem dX11_connectorMixed_116 : decode cX11_connectorMixed 116 = .ok (.lstore 5, 2) := by decide +kernel
theorem dX11_connectorMixed_118 : decode cX11_connectorMixed 118 = .ok (.iinc 7 1, 3) := by decide +kernel
theorem dX11_connectorMixed_121 : decode cX11_connectorMixed 121 = .ok (.goto (-59), 3) := by decide +kernel
theorem dX11_connectorMixed_124 : decode cX11_connectorMixed 124 = .ok (.lload 5, 2) := by decide +kernel
theorem dX11_connectorMixed_126 : decode cX11_connectorMixed 126 = .ok (.lreturn, 1) := by decide +kernel
theorem dX11_mixed_0 : decode cX11_mixed 0 = .ok (.ldc2_w 299, 3) := by decide +kernel
theorem dX11_mixed_3 : decode cX11_mixed 3 = .ok (.lload_n 0, 1) := by decide +kernel
theorem dX11_mixed_4 : decode cX11_mixed 4 = .ok (.lmul, 1) := by decide +kernel
theorem dX11_mixed_5 : decode cX11_mixed 5 = .ok (.lload_n 2, 1) := by decide +kernel
theorem dX11_mixed_6 : decode cX11_mixed 6 = .ok (.ladd, 1) := by decide +kernel
theorem dX11_mixed_7 : decode cX11_mixed 7 = .ok (.lreturn, 1) := by decide +kernel
theorem dX11_isWithin_0 : decode cX11_isWithin 0 = .ok (.iload_n 0, 1) := by decide +kernel
theorem dX11_isWithin_1 : decode cX11_isWithin 1 = .ok (.iload_n 1, 1) := by decide +kernel
theorem dX11_isWithin_2 : decode cX11_isWithin 2 = .ok (.if_icmp .lt 12, 3) := by decide +kernel
theorem dX11_isWithin_5 : decode cX11_isWithin 5 = .ok (.iload_n 0, 1) := by decide +kernel
theorem dX11_isWithin_6 : decode cX11_isWithin 6 = .ok (.iload_n 2, 1) := by decide +kernel
theorem dX11_isWithin_7 : decode cX11_isWithin 7 = .ok (.if_icmp .gt 7, 3) := by decide +kernel
theorem dX11_isWithin_10 : decode cX11_isWithin 10 = .ok (.iconst 1, 1) := by decide +kernel
theorem dX11_isWithin_11 : decode cX11_isWithin 11 = .ok (.goto 4, 3) := by decide +kernel
theorem dX11_isWithin_14 : decode cX11_isWithin 14 = .ok (.iconst 0, 1) := by decide +kernel
theorem dX11_isWithin_15 : decode cX11_isWithin 15 = .ok (.ireturn, 1) := by decide +kernel
theorem dX11_isCoordinate_0 : decode cX11_isCoordinate 0 = .ok (.iload_n 0, 1) := by decide +kernel
theorem dX11_isCoordinate_1 : decode cX11_isCoordinate 1 = .ok (.sipush (-10000), 3) := by decide +kernel
theorem dX11_isCoordinate_4 : decode cX11_isCoordinate 4 = .ok (.sipush 10000, 3) := by decide +kernel
theorem dX11_isCoordinate_7 : decode cX11_isCoordinate 7 = .ok (.invokestatic 44, 3) := by decide +kernel
theorem dX11_isCoordinate_10 : decode cX11_isCoordinate 10 = .ok (.ireturn, 1) := by decide +kernel
theorem dX11_isSize_0 : decode cX11_isSize 0 = .ok (.iload_n 0, 1) := by decide +kernel
theorem dX11_isSize_1 : decode cX11_isSize 1 = .ok (.iconst 1, 1) := by decide +kernel
theorem dX11_isSize_2 : decode cX11_isSize 2 = .ok (.sipush 500, 3) := by decide +kernel
theorem dX11_isSize_5 : decode cX11_isSize 5 = .ok (.invokestatic 44, 3) := by decide +kernel
theorem dX11_isSize_8 : decode cX11_isSize 8 = .ok (.ireturn, 1) := by decide +kernel
theorem dX11_isWay_0 : decode cX11_isWay 0 = .ok (.iload_n 0, 1) := by decide +kernel
theorem dX11_isWay_1 : decode cX11_isWay 1 = .ok (.sipush (-20000), 3) := by decide +kernel
theorem dX11_isWay_4 : decode cX11_isWay 4 = .ok (.sipush 20000, 3) := by decide +kernel
theorem dX11_isWay_7 : decode cX11_isWay 7 = .ok (.invokestatic 44, 3) := by decide +kernel
theorem dX11_isWay_10 : decode cX11_isWay 10 = .ok (.ireturn, 1) := by decide +kernel
theorem dX11_isPort_0 : decode cX11_isPort 0 = .ok (.iload_n 0, 1) := by decide +kernel
theorem dX11_isPort_1 : decode cX11_isPort 1 = .ok (.iconst 0, 1) := by decide +kernel
theorem dX11_isPort_2 : decode cX11_isPort 2 = .ok (.iconst 3, 1) := by decide +kernel
theorem dX11_isPort_3 : decode cX11_isPort 3 = .ok (.invokestatic 44, 3) := by decide +kernel
theorem dX11_isPort_6 : decode cX11_isPort 6 = .ok (.ireturn, 1) := by decide +kernel
theorem dX11_isAxis_0 : decode cX11_isAxis 0 = .ok (.iload_n 0, 1) := by decide +kernel
theorem dX11_isAxis_1 : decode cX11_isAxis 1 = .ok (.ifCond .eq 8, 3) := by decide +kernel
theorem dX11_isAxis_4 : decode cX11_isAxis 4 = .ok (.iload_n 0, 1) := by decide +kernel
theorem dX11_isAxis_5 : decode cX11_isAxis 5 = .ok (.iconst 1, 1) := by decide +kernel
theorem dX11_isAxis_6 : decode cX11_isAxis 6 = .ok (.if_icmp .ne 7, 3) := by decide +kernel
theorem dX11_isAxis_9 : decode cX11_isAxis 9 = .ok (.iconst 1, 1) := by decide +kernel
theorem dX11_isAxis_10 : decode cX11_isAxis 10 = .ok (.goto 4, 3) := by decide +kernel
theorem dX11_isAxis_13 : decode cX11_isAxis 13 = .ok (.iconst 0, 1) := by decide +kernel
theorem dX11_isAxis_14 : decode cX11_isAxis 14 = .ok (.ireturn, 1) := by decide +kernel
theorem dX11_hasBit_0 : decode cX11_hasBit 0 = .ok (.iload_n 0, 1) := by decide +kernel
theorem dX11_hasBit_1 : decode cX11_hasBit 1 = .ok (.iload_n 1, 1) := by decide +kernel
theorem dX11_hasBit_2 : decode cX11_hasBit 2 = .ok (.ishr, 1) := by decide +kernel
theorem dX11_hasBit_3 : decode cX11_hasBit 3 = .ok (.iconst 1, 1) := by decide +kernel
theorem dX11_hasBit_4 : decode cX11_hasBit 4 = .ok (.iand, 1) := by decide +kernel
theorem dX11_hasBit_5 : decode cX11_hasBit 5 = .ok (.ifCond .eq 7, 3) := by decide +kernel
theorem dX11_hasBit_8 : decode cX11_hasBit 8 = .ok (.iconst 1, 1) := by decide +kernel
theorem dX11_hasBit_9 : decode cX11_hasBit 9 = .ok (.goto 4, 3) := by decide +kernel
theorem dX11_hasBit_12 : decode cX11_hasBit 12 = .ok (.iconst 0, 1) := by decide +kernel
theorem dX11_hasBit_13 : decode cX11_hasBit 13 = .ok (.ireturn, 1) := by decide +kernel
theorem dX12_init_0 : decode cX12_init 0 = .ok (.aload_n 0, 1) := by decide +kernel
theorem dX12_init_1 : decode cX12_init 1 = .ok (.invokespecial 1, 3) := by decide +kernel
theorem dX12_init_4 : decode cX12_init 4 = .ok (.aload_n 0, 1) := by decide +kernel
theorem dX12_init_5 : decode cX12_init 5 = .ok (.sipush 380, 3) := by decide +kernel
theorem dX12_init_8 : decode cX12_init 8 = .ok (.newarray .int, 2) := by decide +kernel
theorem dX12_init_10 : decode cX12_init 10 = .ok (.putfield 7, 3) := by decide +kernel
theorem dX12_init_13 : decode cX12_init 13 = .ok (.aload_n 0, 1) := by decide +kernel
theorem dX12_init_14 : decode cX12_init 14 = .ok (.sipush 2280, 3) := by decide +kernel
theorem dX12_init_17 : decode cX12_init 17 = .ok (.newarray .int, 2) := by decide +kernel
theorem dX12_init_19 : decode cX12_init 19 = .ok (.putfield 13, 3) := by decide +kernel
theorem dX12_init_22 : decode cX12_init 22 = .ok (.aload_n 0, 1) := by decide +kernel
theorem dX12_init_23 : decode cX12_init 23 = .ok (.iconst 4, 1) := by decide +kernel
theorem dX12_init_24 : decode cX12_init 24 = .ok (.newarray .int, 2) := by decide +kernel
theorem dX12_init_26 : decode cX12_init 26 = .ok (.putfield 16, 3) := by decide +kernel
theorem dX12_init_29 : decode cX12_init 29 = .ok (.aload_n 0, 1) := by decide +kernel
theorem dX12_init_30 : decode cX12_init 30 = .ok (.iconst 4, 1) := by decide +kernel
theorem dX12_init_31 : decode cX12_init 31 = .ok (.newarray .int, 2) := by decide +kernel
theorem dX12_init_33 : decode cX12_init 33 = .ok (.putfield 19, 3) := by decide +kernel
theorem dX12_init_36 : decode cX12_init 36 = .ok (.aload_n 0, 1) := by decide +kernel
theorem dX12_init_37 : decode cX12_init 37 = .ok (.bipush 20, 2) := by decide +kernel
theorem dX12_init_39 : decode cX12_init 39 = .ok (.newarray .int, 2) := by decide +kernel
theorem dX12_init_41 : decode cX12_init 41 = .ok (.putfield 22, 3) := by decide +kernel
theorem dX12_init_44 : decode cX12_init 44 = .ok (.aload_n 0, 1) := by decide +kernel
theorem dX12_init_45 : decode cX12_init 45 = .ok (.bipush 20, 2) := by decide +kernel
theorem dX12_init_47 : decode cX12_init 47 = .ok (.newarray .int, 2) := by decide +kernel
theorem dX12_init_49 : decode cX12_init 49 = .ok (.putfield 25, 3) := by decide +kernel
theorem dX12_init_52 : decode cX12_init 52 = .ok (.aload_n 0, 1) := by decide +kernel
theorem dX12_init_53 : decode cX12_init 53 = .ok (.bipush 42, 2) := by decide +kernel
theorem dX12_init_55 : decode cX12_init 55 = .ok (.newarray .int, 2) := by decide +kernel
theorem dX12_init_57 : decode cX12_init 57 = .ok (.putfield 28, 3) := by decide +kernel
theorem dX12_init_60 : decode cX12_init 60 = .ok (.aload_n 0, 1) := by decide +kernel
theorem dX12_init_61 : decode cX12_init 61 = .ok (.bipush 42, 2) := by decide +kernel
theorem dX12_init_63 : decode cX12_init 63 = .ok (.newarray .int, 2) := by decide +kernel
theorem dX12_init_65 : decode cX12_init 65 = .ok (.putfield 31, 3) := by decide +kernel
theorem dX12_init_68 : decode cX12_init 68 = .ok (.aload_n 0, 1) := by decide +kernel
theorem dX12_init_69 : decode cX12_init 69 = .ok (.bipush 20, 2) := by decide +kernel
theorem dX12_init_71 : decode cX12_init 71 = .ok (.newarray .int, 2) := by decide +kernel
theorem dX12_init_73 : decode cX12_init 73 = .ok (.putfield 34, 3) := by decide +kernel
theorem dX12_init_76 : decode cX12_init 76 = .ok (.aload_n 0, 1) := by decide +kernel
theorem dX12_init_77 : decode cX12_init 77 = .ok (.bipush 20, 2) := by decide +kernel
theorem dX12_init_79 : decode cX12_init 79 = .ok (.newarray .int, 2) := by decide +kernel
theorem dX12_init_81 : decode cX12_init 81 = .ok (.putfield 37, 3) := by decide +kernel
theorem dX12_init_84 : decode cX12_init 84 = .ok (.aload_n 0, 1) := by decide +kernel
theorem dX12_init_85 : decode cX12_init 85 = .ok (.bipush 20, 2) := by decide +kernel
theorem dX12_init_87 : decode cX12_init 87 = .ok (.newarray .int, 2) := by decide +kernel
theorem dX12_init_89 : decode cX12_init 89 = .ok (.putfield 40, 3) := by decide +kernel
theorem dX12_init_92 : decode cX12_init 92 = .ok (.aload_n 0, 1) := by decide +kernel
theorem dX12_init_93 : decode cX12_init 93 = .ok (.bipush 20, 2) := by decide +kernel
theorem dX12_init_95 : decode cX12_init 95 = .ok (.newarray .int, 2) := by decide +kernel
theorem dX12_init_97 : decode cX12_init 97 = .ok (.putfield 43, 3) := by decide +kernel
theorem dX12_init_100 : decode cX12_init 100 = .ok (.aload_n 0, 1) := by decide +kernel
theorem dX12_init_101 : decode cX12_init 101 = .ok (.bipush 60, 2) := by decide +kernel
theorem dX12_init_103 : decode cX12_init 103 = .ok (.newarray .int, 2) := by decide +kernel
theorem dX12_init_105 : decode cX12_init 105 = .ok (.putfield 46, 3) := by decide +kernel
theorem dX12_init_108 : decode cX12_init 108 = .ok (.aload_n 0, 1) := by decide +kernel
theorem dX12_init_109 : decode cX12_init 109 = .ok (.bipush 20, 2) := by decide +kernel
theorem dX12_init_111 : decode cX12_init 111 = .ok (.newarray .int, 2) := by decide +kernel
theorem dX12_init_113 : decode cX12_init 113 = .ok (.putfield 49, 3) := by decide +kernel
theorem dX12_init_116 : decode cX12_init 116 = .ok (.aload_n 0, 1) := by decide +kernel
theorem dX12_init_117 : decode cX12_init 117 = .ok (.bipush 80, 2) := by decide +kernel
theorem dX12_init_119 : decode cX12_init 119 = .ok (.newarray .int, 2) := by decide +kernel
theorem dX12_init_121 : decode cX12_init 121 = .ok (.putfield 52, 3) := by decide +kernel
theorem dX12_init_124 : decode cX12_init 124 = .ok (.aload_n 0, 1) := by decide +kernel
theorem dX12_init_125 : decode cX12_init 125 = .ok (.getfield 7, 3) := by decide +kernel
theorem dX12_init_128 : decode cX12_init 128 = .ok (.iconst 5, 1) := by decide +kernel
theorem dX12_init_129 : decode cX12_init 129 = .ok (.iconst 5, 1) := by decide +kernel
theorem dX12_init_130 : decode cX12_init 130 = .ok (.iastore, 1) := by decide +kernel
theorem dX12_init_131 : decode cX12_init 131 = .ok (.return_, 1) := by decide +kernel
theorem dX12_in_0 : decode cX12_in 0 = .ok (.iload_n 0, 1) := by decide +kernel
theorem dX12_in_1 : decode cX12_in 1 = .ok (.iload_n 1, 1) := by decide +kernel
theorem dX12_in_2 : decode cX12_in 2 = .ok (.if_icmp .lt 12, 3) := by decide +kernel
theorem dX12_in_5 : decode cX12_in 5 = .ok (.iload_n 0, 1) := by decide +kernel
theorem dX12_in_6 : decode cX12_in 6 = .ok (.iload_n 2, 1) := by decide +kernel
theorem dX12_in_7 : decode cX12_in 7 = .ok (.if_icmp .gt 7, 3) := by decide +kernel
theorem dX12_in_10 : decode cX12_in 10 = .ok (.iconst 1, 1) := by decide +kernel
theorem dX12_in_11 : decode cX12_in 11 = .ok (.goto 4, 3) := by decide +kernel
theorem dX12_in_14 : decode cX12_in 14 = .ok (.iconst 0, 1) := by decide +kernel
theorem dX12_in_15 : decode cX12_in 15 = .ok (.ireturn, 1) := by decide +kernel
theorem dX12_act_0 : decode cX12_act 0 = .ok (.aload_n 0, 1) := by decide +kernel
theorem dX12_act_1 : decode cX12_act 1 = .ok (.getfield 55, 3) := by decide +kernel
theorem dX12_act_4 : decode cX12_act 4 = .ok (.bipush 6, 2) := by decide +kernel
theorem dX12_act_6 : decode cX12_act 6 = .ok (.if_icmp .ne 44, 3) := by decide +kernel
theorem dX12_act_9 : decode cX12_act 9 = .ok (.iconst 0, 1) := by decide +kernel
theorem dX12_act_10 : decode cX12_act 10 = .ok (.istore_n 1, 1) := by decide +kernel
theorem dX12_act_11 : decode cX12_act 11 = .ok (.iload_n 1, 1) := by decide +kernel
theorem dX12_act_12 : decode cX12_act 12 = .ok (.sipush 1900, 3) := by decide +kernel
theorem dX12_act_15 : decode cX12_act 15 = .ok (.if_icmp .ge 25, 3) := by decide +kernel
theorem dX12_act_18 : decode cX12_act 18 = .ok (.aload_n 0, 1) := by decide +kernel
theorem dX12_act_19 : decode cX12_act 19 = .ok (.getfield 13, 3) := by decide +kernel
theorem dX12_act_22 : decode cX12_act 22 = .ok (.iload_n 1, 1) := by decide +kernel
theorem dX12_act_23 : decode cX12_act 23 = .ok (.aload_n 0, 1) := by decide +kernel
theorem dX12_act_24 : decode cX12_act 24 = .ok (.getfield 13, 3) := by decide +kernel
theorem dX12_act_27 : decode cX12_act 27 = .ok (.iload_n 1, 1) := by decide +kernel
theorem dX12_act_28 : decode cX12_act 28 = .ok (.sipush 380, 3) := by decide +kernel
theorem dX12_act_31 : decode cX12_act 31 = .ok (.iadd, 1) := by decide +kernel
theorem dX12_act_32 : decode cX12_act 32 = .ok (.iaload, 1) := by decide +kernel
theorem dX12_act_33 : decode cX12_act 33 = .ok (.iastore, 1) := by decide +kernel
theorem dX12_act_34 : decode cX12_act 34 = .ok (.iinc 1 1, 3) := by decide +kernel
theorem dX12_act_37 : decode cX12_act 37 = .ok (.goto (-26), 3) := by decide +kernel
theorem dX12_act_40 : decode cX12_act 40 = .ok (.aload_n 0, 1) := by decide +kernel
theorem dX12_act_41 : decode cX12_act 41 = .ok (.dup, 1) := by decide +kernel
theorem dX12_act_42 : decode cX12_act 42 = .ok (.getfield 55, 3) := by decide +kernel
theorem dX12_act_45 : decode cX12_act 45 = .ok (.iconst 1, 1) := by decide +kernel
theorem dX12_act_46 : decode cX12_act 46 = .ok (.isub, 1) := by decide +kernel
theorem dX12_act_47 : decode cX12_act 47 = .ok (.putfield 55, 3) := by decide +kernel
theorem dX12_act_50 : decode cX12_act 50 = .ok (.iconst 0, 1) := by decide +kernel
theorem dX12_act_51 : decode cX12_act 51 = .ok (.istore_n 1, 1) := by decide +kernel
theorem dX12_act_52 : decode cX12_act 52 = .ok (.iload_n 1, 1) := by decide +kernel
theorem dX12_act_53 : decode cX12_act 53 = .ok (.sipush 380, 3) := by decide +kernel
theorem dX12_act_56 : decode cX12_act 56 = .ok (.if_icmp .ge 30, 3) := by decide +kernel
theorem dX12_act_59 : decode cX12_act 59 = .ok (.aload_n 0, 1) := by decide +kernel
theorem dX12_act_60 : decode cX12_act 60 = .ok (.getfield 13, 3) := by decide +kernel
theorem dX12_act_63 : decode cX12_act 63 = .ok (.sipush 380, 3) := by decide +kernel
theorem dX12_act_66 : decode cX12_act 66 = .ok (.aload_n 0, 1) := by decide +kernel
theorem dX12_act_67 : decode cX12_act 67 = .ok (.getfield 55, 3) := by decide +kernel
theorem dX12_act_70 : decode cX12_act 70 = .ok (.imul, 1) := by decide +kernel
theorem dX12_act_71 : decode cX12_act 71 = .ok (.iload_n 1, 1) := by decide +kernel
theorem dX12_act_72 : decode cX12_act 72 = .ok (.iadd, 1) := by decide +kernel
theorem dX12_act_73 : decode cX12_act 73 = .ok (.aload_n 0, 1) := by decide +kernel
theorem dX12_act_74 : decode cX12_act 74 = .ok (.getfield 7, 3) := by decide +kernel
theorem dX12_act_77 : decode cX12_act 77 = .ok (.iload_n 1, 1) := by decide +kernel
theorem dX12_act_78 : decode cX12_act 78 = .ok (.iaload, 1) := by decide +kernel
theorem dX12_act_79 : decode cX12_act 79 = .ok (.iastore, 1) := by decide +kernel
theorem dX12_act_80 : decode cX12_act 80 = .ok (.iinc 1 1, 3) := by decide +kernel
theorem dX12_act_83 : decode cX12_act 83 = .ok (.goto (-31), 3) := by decide +kernel
theorem dX12_act_86 : decode cX12_act 86 = .ok (.aload_n 0, 1) := by decide +kernel
theorem dX12_act_87 : decode cX12_act 87 = .ok (.dup, 1) := by decide +kernel
theorem dX12_act_88 : decode cX12_act 88 = .ok (.getfield 55, 3) := by decide +kernel
theorem dX12_act_91 : decode cX12_act 91 = .ok (.iconst 1, 1) := by decide +kernel
theorem dX12_act_92 : decode cX12_act 92 = .ok (.iadd, 1) := by decide +kernel
theorem dX12_act_93 : decode cX12_act 93 = .ok (.putfield 55, 3) := by decide +kernel
theorem dX12_act_96 : decode cX12_act 96 = .ok (.return_, 1) := by decide +kernel
theorem dX12_of_0 : decode cX12_of 0 = .ok (.aload_n 0, 1) := by decide +kernel
theorem dX12_of_1 : decode cX12_of 1 = .ok (.getfield 7, 3) := by decide +kernel
theorem dX12_of_4 : decode cX12_of 4 = .ok (.bipush 10, 2) := by decide +kernel
theorem dX12_of_6 : decode cX12_of 6 = .ok (.bipush 8, 2) := by decide +kernel
theorem dX12_of_8 : decode cX12_of 8 = .ok (.iload_n 1, 1) := by decide +kernel
theorem dX12_of_9 : decode cX12_of 9 = .ok (.imul, 1) := by decide +kernel
theorem dX12_of_10 : decode cX12_of 10 = .ok (.iadd, 1) := by decide +kernel
theorem dX12_of_11 : decode cX12_of 11 = .ok (.iload_n 2, 1) := by decide +kernel
theorem dX12_of_12 : decode cX12_of 12 = .ok (.iadd, 1) := by decide +kernel
theorem dX12_of_13 : decode cX12_of 13 = .ok (.iaload, 1) := by decide +kernel
theorem dX12_of_14 : decode cX12_of 14 = .ok (.ireturn, 1) := by decide +kernel
theorem dX12_isShape_0 : decode cX12_isShape 0 = .ok (.iload_n 1, 1) := by decide +kernel
theorem dX12_isShape_1 : decode cX12_isShape 1 = .ok (.iconst 0, 1) := by decide +kernel
theorem dX12_isShape_2 : decode cX12_isShape 2 = .ok (.bipush 19, 2) := by decide +kernel
theorem dX12_isShape_4 : decode cX12_isShape 4 = .ok (.invokestatic 59, 3) := by decide +kernel
theorem dX12_isShape_7 : decode cX12_isShape 7 = .ok (.ifCond .eq 17, 3) := by decide +kernel
theorem dX12_isShape_10 : decode cX12_isShape 10 = .ok (.aload_n 0, 1) := by decide +kernel
theorem dX12_isShape_11 : decode cX12_isShape 11 = .ok (.iload_n 1, 1) := by decide +kernel
theorem dX12_isShape_12 : decode cX12_isShape 12 = .ok (.iconst 0, 1) := by decide +kernel
theorem dX12_isShape_13 : decode cX12_isShape 13 = .ok (.invokevirtual 63, 3) := by decide +kernel
theorem dX12_isShape_16 : decode cX12_isShape 16 = .ok (.iconst 1, 1) := by decide +kernel
theorem dX12_isShape_17 : decode cX12_isShape 17 = .ok (.if_icmp .ne 7, 3) := by decide +kernel
theorem dX12_isShape_20 : decode cX12_isShape 20 = .ok (.iconst 1, 1) := by decide +kernel
theorem dX12_isShape_21 : decode cX12_isShape 21 = .ok (.goto 4, 3) := by decide +kernel
theorem dX12_isShape_24 : decode cX12_isShape 24 = .ok (.iconst 0, 1) := by decide +kernel
theorem dX12_isShape_25 : decode cX12_isShape 25 = .ok (.ireturn, 1) := by decide +kernel
theorem dX12_isSelected_0 : decode cX12_isSelected 0 = .ok (.aload_n 0, 1) := by decide +kernel
theorem dX12_isSelected_1 : decode cX12_isSelected 1 = .ok (.iload_n 1, 1) := by decide +kernel
theorem dX12_isSelected_2 : decode cX12_isSelected 2 = .ok (.iconst 0, 1) := by decide +kernel
theorem dX12_isSelected_3 : decode cX12_isSelected 3 = .ok (.invokevirtual 63, 3) := by decide +kernel
theorem dX12_isSelected_6 : decode cX12_isSelected 6 = .ok (.iconst 1, 1) := by decide +kernel
theorem dX12_isSelected_7 : decode cX12_isSelected 7 = .ok (.if_icmp .ne 18, 3) := by decide +kernel
theorem dX12_isSelected_10 : decode cX12_isSelected 10 = .ok (.aload_n 0, 1) := by decide +kernel
theorem dX12_isSelected_11 : decode cX12_isSelected 11 = .ok (.iload_n 1, 1) := by decide +kernel
theorem dX12_isSelected_12 : decode cX12_isSelected 12 = .ok (.bipush 6, 2) := by decide +kernel
theorem dX12_isSelected_14 : decode cX12_isSelected 14 = .ok (.invokevirtual 63, 3) := by decide +kernel
theorem dX12_isSelected_17 : decode cX12_isSelected 17 = .ok (.iconst 1, 1) := by decide +kernel
theorem dX12_isSelected_18 : decode cX12_isSelected 18 = .ok (.if_icmp .ne 7, 3) := by decide +kernel
theorem dX12_isSelected_21 : decode cX12_isSelected 21 = .ok (.iconst 1, 1) := by decide +kernel
theorem dX12_isSelected_22 : decode cX12_isSelected 22 = .ok (.goto 4, 3) := by decide +kernel
theorem dX12_isSelected_25 : decode cX12_isSelected 25 = .ok (.iconst 0, 1) := by decide +kernel
theorem dX12_isSelected_26 : decode cX12_isSelected 26 = .ok (.ireturn, 1) := by decide +kernel
theorem dX12_begin_0 : decode cX12_begin 0 = .ok (.aload_n 0, 1) := by decide +kernel
theorem dX12_begin_1 : decode cX12_begin 1 = .ok (.iload_n 1, 1) := by decide +kernel
theorem dX12_begin_2 : decode cX12_begin 2 = .ok (.iconst 2, 1) := by decide +kernel
theorem dX12_begin_3 : decode cX12_begin 3 = .ok (.iload_n 2, 1) := by decide +kernel
theorem dX12_begin_4 : decode cX12_begin 4 = .ok (.iadd, 1) := by decide +kernel
theorem dX12_begin_5 : decode cX12_begin 5 = .ok (.invokevirtual 63, 3) := by decide +kernel
theorem dX12_begin_8 : decode cX12_begin 8 = .ok (.ireturn, 1) := by decide +kernel
theorem dX12_end_0 : decode cX12_end 0 = .ok (.aload_n 0, 1) := by decide +kernel
theorem dX12_end_1 : decode cX12_end 1 = .ok (.iload_n 1, 1) := by decide +kernel
theorem dX12_end_2 : decode cX12_end 2 = .ok (.iconst 2, 1) := by decide +kernel
theorem dX12_end_3 : decode cX12_end 3 = .ok (.iload_n 2, 1) := by decide +kernel
theorem dX12_end_4 : decode cX12_end 4 = .ok (.iadd, 1) := by decide +kernel
theorem dX12_end_5 : decode cX12_end 5 = .ok (.invokevirtual 63, 3) := by decide +kernel
theorem dX12_end_8 : decode cX12_end 8 = .ok (.aload_n 0, 1) := by decide +kernel
theorem dX12_end_9 : decode cX12_end 9 = .ok (.iload_n 1, 1) := by decide +kernel
theorem dX12_end_10 : decode cX12_end 10 = .ok (.iconst 4, 1) := by decide +kernel
theorem dX12_end_11 : decode cX12_end 11 = .ok (.iload_n 2, 1) := by decide +kernel
theorem dX12_end_12 : decode cX12_end 12 = .ok (.iadd, 1) := by decide +kernel
theorem dX12_end_13 : decode cX12_end 13 = .ok (.invokevirtual 63, 3) := by decide +kernel
theorem dX12_end_16 : decode cX12_end 16 = .ok (.iadd, 1) := by decide +kernel
theorem dX12_end_17 : decode cX12_end 17 = .ok (.ireturn, 1) := by decide +kernel
theorem dX12_center_0 : decode cX12_center 0 = .ok (.aload_n 0, 1) := by decide +kernel
theorem dX12_center_1 : decode cX12_center 1 = .ok (.iload_n 1, 1) := by decide +kernel
theorem dX12_center_2 : decode cX12_center 2 = .ok (.iconst 2, 1) := by decide +kernel
theorem dX12_center_3 : decode cX12_center 3 = .ok (.iload_n 2, 1) := by decide +kernel
theorem dX12_center_4 : decode cX12_center 4 = .ok (.iadd, 1) := by decide +kernel
theorem dX12_center_5 : decode cX12_center 5 = .ok (.invokevirtual 63, 3) := by decide +kernel
theorem dX12_center_8 : decode cX12_center 8 = .ok (.aload_n 0, 1) := by decide +kernel
theorem dX12_center_9 : decode cX12_center 9 = .ok (.iload_n 1, 1) := by decide +kernel
theorem dX12_center_10 : decode cX12_center 10 = .ok (.iconst 4, 1) := by decide +kernel
theorem dX12_center_11 : decode cX12_center 11 = .ok (.iload_n 2, 1) := by decide +kernel
theorem dX12_center_12 : decode cX12_center 12 = .ok (.iadd, 1) := by decide +kernel
theorem dX12_center_13 : decode cX12_center 13 = .ok (.invokevirtual 63, 3) := by decide +kernel
theorem dX12_center_16 : decode cX12_center 16 = .ok (.iconst 2, 1) := by decide +kernel
theorem dX12_center_17 : decode cX12_center 17 = .ok (.idiv, 1) := by decide +kernel
theorem dX12_center_18 : decode cX12_center 18 = .ok (.iadd, 1) := by decide +kernel
theorem dX12_center_19 : decode cX12_center 19 = .ok (.ireturn, 1) := by decide +kernel
theorem dX12_isGroup_0 : decode cX12_isGroup 0 = .ok (.iload_n 1, 1) := by decide +kernel
theorem dX12_isGroup_1 : decode cX12_isGroup 1 = .ok (.iconst 0, 1) := by decide +kernel
theorem dX12_isGroup_2 : decode cX12_isGroup 2 = .ok (.bipush 7, 2) := by decide +kernel
theorem dX12_isGroup_4 : decode cX12_isGroup 4 = .ok (.invokestatic 59, 3) := by decide +kernel
theorem dX12_isGroup_7 : decode cX12_isGroup 7 = .ok (.ifCond .eq 23, 3) := by decide +kernel
theorem dX12_isGroup_10 : decode cX12_isGroup 10 = .ok (.aload_n 0, 1) := by decide +kernel
theorem dX12_isGroup_11 : decode cX12_isGroup 11 = .ok (.getfield 7, 3) := by decide +kernel
theorem dX12_isGroup_14 : decode cX12_isGroup 14 = .ok (.sipush 290, 3) := by decide +kernel
theorem dX12_isGroup_17 : decode cX12_isGroup 17 = .ok (.iconst 2, 1) := by decide +kernel
theorem dX12_isGroup_18 : decode cX12_isGroup 18 = .ok (.iload_n 1, 1) := by decide +kernel
theorem dX12_isGroup_19 : decode cX12_isGroup 19 = .ok (.imul, 1) := by decide +kernel
theorem dX12_isGroup_20 : decode cX12_isGroup 20 = .ok (.iadd, 1) := by decide +kernel
theorem dX12_isGroup_21 : decode cX12_isGroup 21 = .ok (.iaload, 1) := by decide +kernel
theorem dX12_isGroup_22 : decode cX12_isGroup 22 = .ok (.iconst 1, 1) := by decide +kernel
theorem dX12_isGroup_23 : decode cX12_isGroup 23 = .ok (.if_icmp .ne 7, 3) := by decide +kernel
theorem dX12_isGroup_26 : decode cX12_isGroup 26 = .ok (.iconst 1, 1) := by decide +kernel
theorem dX12_isGroup_27 : decode cX12_isGroup 27 = .ok (.goto 4, 3) := by decide +kernel
theorem dX12_isGroup_30 : decode cX12_isGroup 30 = .ok (.iconst 0, 1) := by decide +kernel
theorem dX12_isGroup_31 : decode cX12_isGroup 31 = .ok (.ireturn, 1) := by decide +kernel
theorem dX12_groupOf_0 : decode cX12_groupOf 0 = .ok (.aload_n 0, 1) := by decide +kernel
theorem dX12_groupOf_1 : decode cX12_groupOf 1 = .ok (.iload_n 1, 1) := by decide +kernel
theorem dX12_groupOf_2 : decode cX12_groupOf 2 = .ok (.bipush 7, 2) := by decide +kernel
theorem dX12_groupOf_4 : decode cX12_groupOf 4 = .ok (.invokevirtual 63, 3) := by decide +kernel
theorem dX12_groupOf_7 : decode cX12_groupOf 7 = .ok (.iconst 1, 1) := by decide +kernel
theorem dX12_groupOf_8 : decode cX12_groupOf 8 = .ok (.isub, 1) := by decide +kernel
theorem dX12_groupOf_9 : decode cX12_groupOf 9 = .ok (.ireturn, 1) := by decide +kernel
theorem dX12_above_0 : decode cX12_above 0 = .ok (.aload_n 0, 1) := by decide +kernel
theorem dX12_above_1 : decode cX12_above 1 = .ok (.getfield 7, 3) := by decide +kernel
theorem dX12_above_4 : decode cX12_above 4 = .ok (.sipush 290, 3) := by decide +kernel
theorem dX12_above_7 : decode cX12_above 7 = .ok (.iconst 2, 1) := by decide +kernel
theorem dX12_above_8 : decode cX12_above 8 = .ok (.iload_n 1, 1) := by decide +kernel
theorem dX12_above_9 : decode cX12_above 9 = .ok (.imul, 1) := by decide +kernel
theorem dX12_above_10 : decode cX12_above 10 = .ok (.iadd, 1) := by decide +kernel
theorem dX12_above_11 : decode cX12_above 11 = .ok (.iconst 1, 1) := by decide +kernel
theorem dX12_above_12 : decode cX12_above 12 = .ok (.iadd, 1) := by decide +kernel
theorem dX12_above_13 : decode cX12_above 13 = .ok (.iaload, 1) := by decide +kernel
theorem dX12_above_14 : decode cX12_above 14 = .ok (.iconst 1, 1) := by decide +kernel
theorem dX12_above_15 : decode cX12_above 15 = .ok (.isub, 1) := by decide +kernel
theorem dX12_above_16 : decode cX12_above 16 = .ok (.ireturn, 1) := by decide +kernel
theorem dX12_outermost_0 : decode cX12_outermost 0 = .ok (.aload_n 0, 1) := by decide +kernel
theorem dX12_outermost_1 : decode cX12_outermost 1 = .ok (.iload_n 1, 1) := by decide +kernel
theorem dX12_outermost_2 : decode cX12_outermost 2 = .ok (.invokevirtual 67, 3) := by decide +kernel
theorem dX12_outermost_5 : decode cX12_outermost 5 = .ok (.istore_n 2, 1) := by decide +kernel
theorem dX12_outermost_6 : decode cX12_outermost 6 = .ok (.iload_n 2, 1) := by decide +kernel
theorem dX12_outermost_7 : decode cX12_outermost 7 = .ok (.ifCond .lt 20, 3) := by decide +kernel
theorem dX12_outermost_10 : decode cX12_outermost 10 = .ok (.aload_n 0, 1) := by decide +kernel
theorem dX12_outermost_11 : decode cX12_outermost 11 = .ok (.iload_n 2, 1) := by decide +kernel
theorem dX12_outermost_12 : decode cX12_outermost 12 = .ok (.invokevirtual 71, 3) := by decide +kernel
theorem dX12_outermost_15 : decode cX12_outermost 15 = .ok (.ifCond .lt 12, 3) := by decide +kernel
theorem dX12_outermost_18 : decode cX12_outermost 18 = .ok (.aload_n 0, 1) := by decide +kernel
theorem dX12_outermost_19 : decode cX12_outermost 19 = .ok (.iload_n 2, 1) := by decide +kernel
theorem dX12_outermost_20 : decode cX12_outermost 20 = .ok (.invokevirtual 71, 3) := by decide +kernel
theorem dX12_outermost_23 : decode cX12_outermost 23 = .ok (.istore_n 2, 1) := by decide +kernel
theorem dX12_outermost_24 : decode cX12_outermost 24 = .ok (.goto (-18), 3) := by decide +kernel
theorem dX12_outermost_27 : decode cX12_outermost 27 = .ok (.iload_n 2, 1) := by decide +kernel
theorem dX12_outermost_28 : decode cX12_outermost 28 = .ok (.ireturn, 1) := by decide +kernel
theorem dX12_isWithin_0 : decode cX12_isWithin 0 = .ok (.aload_n 0, 1) := by decide +kernel
theorem dX12_isWithin_1 : decode cX12_isWithin 1 = .ok (.iload_n 1, 1) := by decide +kernel
theorem dX12_isWithin_2 : decode cX12_isWithin 2 = .ok (.invokevirtual 67, 3) := by decide +kernel
theorem dX12_isWithin_5 : decode cX12_isWithin 5 = .ok (.istore_n 3, 1) := by decide +kernel
theorem dX12_isWithin_6 : decode cX12_isWithin 6 = .ok (.iload_n 3, 1) := by decide +kernel
theorem dX12_isWithin_7 : decode cX12_isWithin 7 = .ok (.ifCond .lt 17, 3) := by decide +kernel
theorem dX12_isWithin_10 : decode cX12_isWithin 10 = .ok (.iload_n 3, 1) := by decide +kernel
theorem dX12_isWithin_11 : decode cX12_isWithin 11 = .ok (.iload_n 2, 1) := by decide +kernel
theorem dX12_isWithin_12 : decode cX12_isWithin 12 = .ok (.if_icmp .eq 12, 3) := by decide +kernel
theorem dX12_isWithin_15 : decode cX12_isWithin 15 = .ok (.aload_n 0, 1) := by decide +kernel
theorem dX12_isWithin_16 : decode cX12_isWithin 16 = .ok (.iload_n 3, 1) := by decide +kernel
theorem dX12_isWithin_17 : decode cX12_isWithin 17 = .ok (.invokevirtual 71, 3) := by decide +kernel
theorem dX12_isWithin_20 : decode cX12_isWithin 20 = .ok (.istore_n 3, 1) := by decide +kernel
theorem dX12_isWithin_21 : decode cX12_isWithin 21 = .ok (.goto (-15), 3) := by decide +kernel
theorem dX12_isWithin_24 : decode cX12_isWithin 24 = .ok (.iload_n 3, 1) := by decide +kernel
theorem dX12_isWithin_25 : decode cX12_isWithin 25 = .ok (.iload_n 2, 1) := by decide +kernel
theorem dX12_isWithin_26 : decode cX12_isWithin 26 = .ok (.if_icmp .ne 7, 3) := by decide +kernel
theorem dX12_isWithin_29 : decode cX12_isWithin 29 = .ok (.iconst 1, 1) := by decide +kernel
theorem dX12_isWithin_30 : decode cX12_isWithin 30 = .ok (.goto 4, 3) := by decide +kernel
theorem dX12_isWithin_33 : decode cX12_isWithin 33 = .ok (.iconst 0, 1) := by decide +kernel
theorem dX12_isWithin_34 : decode cX12_isWithin 34 = .ok (.ireturn, 1) := by decide +kernel
theorem dX12_setOf_0 : decode cX12_setOf 0 = .ok (.iconst 0, 1) := by decide +kernel
theorem dX12_setOf_1 : decode cX12_setOf 1 = .ok (.istore_n 2, 1) := by decide +kernel
theorem dX12_setOf_2 : decode cX12_setOf 2 = .ok (.iconst 0, 1) := by decide +kernel
theorem dX12_setOf_3 : decode cX12_setOf 3 = .ok (.istore_n 3, 1) := by decide +kernel
theorem dX12_setOf_4 : decode cX12_setOf 4 = .ok (.iload_n 3, 1) := by decide +kernel
theorem dX12_setOf_5 : decode cX12_setOf 5 = .ok (.bipush 20, 2) := by decide +kernel
theorem dX12_setOf_7 : decode cX12_setOf 7 = .ok (.if_icmp .ge 38, 3) := by decide +kernel
theorem dX12_setOf_10 : decode cX12_setOf 10 = .ok (.iload_n 2, 1) := by decide +kernel
theorem dX12_setOf_11 : decode cX12_setOf 11 = .ok (.aload_n 0, 1) := by decide +kernel
theorem dX12_setOf_12 : decode cX12_setOf 12 = .ok (.iload_n 3, 1) := by decide +kernel
theorem dX12_setOf_13 : decode cX12_setOf 13 = .ok (.iconst 0, 1) := by decide +kernel
theorem dX12_setOf_14 : decode cX12_setOf 14 = .ok (.invokevirtual 63, 3) := by decide +kernel
theorem dX12_setOf_17 : decode cX12_setOf 17 = .ok (.iconst 1, 1) := by decide +kernel
theorem dX12_setOf_18 : decode cX12_setOf 18 = .ok (.if_icmp .ne 18, 3) := by decide +kernel
theorem dX12_setOf_21 : decode cX12_setOf 21 = .ok (.aload_n 0, 1) := by decide +kernel
theorem dX12_setOf_22 : decode cX12_setOf 22 = .ok (.iload_n 3, 1) := by decide +kernel
theorem dX12_setOf_23 : decode cX12_setOf 23 = .ok (.iload_n 1, 1) := by decide +kernel
theorem dX12_setOf_24 : decode cX12_setOf 24 = .ok (.invokevirtual 74, 3) := by decide +kernel
theorem dX12_setOf_27 : decode cX12_setOf 27 = .ok (.ifCond .eq 9, 3) := by decide +kernel
theorem dX12_setOf_30 : decode cX12_setOf 30 = .ok (.iconst 1, 1) := by decide +kernel
theorem dX12_setOf_31 : decode cX12_setOf 31 = .ok (.iload_n 3, 1) := by decide +kernel
theorem dX12_setOf_32 : decode cX12_setOf 32 = .ok (.ishl, 1) := by decide +kernel
theorem dX12_setOf_33 : decode cX12_setOf 33 = .ok (.goto 4, 3) := by decide +kernel
theorem dX12_setOf_36 : decode cX12_setOf 36 = .ok (.iconst 0, 1) := by decide +kernel
theorem dX12_setOf_37 : decode cX12_setOf 37 = .ok (.ior, 1) := by decide +kernel
theorem dX12_setOf_38 : decode cX12_setOf 38 = .ok (.istore_n 2, 1) := by decide +kernel
theorem dX12_setOf_39 : decode cX12_setOf 39 = .ok (.iinc 3 1, 3) := by decide +kernel
theorem dX12_setOf_42 : decode cX12_setOf 42 = .ok (.goto (-38), 3) := by decide +kernel
theorem dX12_setOf_45 : decode cX12_setOf 45 = .ok (.iload_n 2, 1) := by decide +kernel
theorem dX12_setOf_46 : decode cX12_setOf 46 = .ok (.ireturn, 1) := by decide +kernel
theorem dX12_prunes_0 : decode cX12_prunes 0 = .ok (.iconst 0, 1) := by decide +kernel
theorem dX12_prunes_1 : decode cX12_prunes 1 = .ok (.istore_n 1, 1) := by decide +kernel
theorem dX12_prunes_2 : decode cX12_prunes 2 = .ok (.iload_n 1, 1) := by decide +kernel
theorem dX12_prunes_3 : decode cX12_prunes 3 = .ok (.bipush 8, 2) := by decide +kernel
theorem dX12_prunes_5 : decode cX12_prunes 5 = .ok (.if_icmp .ge 38, 3) := by decide +kernel
theorem dX12_prunes_8 : decode cX12_prunes 8 = .ok (.aload_n 0, 1) := by decide +kernel
theorem dX12_prunes_9 : decode cX12_prunes 9 = .ok (.iload_n 1, 1) := by decide +kernel
theorem dX12_prunes_10 : decode cX12_prunes 10 = .ok (.invokevirtual 78, 3) := by decide +kernel
theorem dX12_prunes_13 : decode cX12_prunes 13 = .ok (.ifCond .eq 24, 3) := by decide +kernel
theorem dX12_prunes_16 : decode cX12_prunes 16 = .ok (.aload_n 0, 1) := by decide +kernel
theorem dX12_prunes_17 : decode cX12_prunes 17 = .ok (.iload_n 1, 1) := by decide +kernel
theorem dX12_prunes_18 : decode cX12_prunes 18 = .ok (.invokevirtual 82, 3) := by decide +kernel
theorem dX12_prunes_21 : decode cX12_prunes 21 = .ok (.ifCond .ne 16, 3) := by decide +kernel
theorem dX12_prunes_24 : decode cX12_prunes 24 = .ok (.aload_n 0, 1) := by decide +kernel
theorem dX12_prunes_25 : decode cX12_prunes 25 = .ok (.getfield 7, 3) := by decide +kernel
theorem dX12_prunes_28 : decode cX12_prunes 28 = .ok (.sipush 290, 3) := by decide +kernel
theorem dX12_prunes_31 : decode cX12_prunes 31 = .ok (.iconst 2, 1) := by decide +kernel
theorem dX12_prunes_32 : decode cX12_prunes 32 = .ok (.iload_n 1, 1) := by decide +kernel
theorem dX12_prunes_33 : decode cX12_prunes 33 = .ok (.imul, 1) := by decide +kernel
theorem dX12_prunes_34 : decode cX12_prunes 34 = .ok (.iadd, 1) := by decide +kernel
theorem dX12_prunes_35 : decode cX12_prunes 35 = .ok (.iconst 0, 1) := by decide +kernel
theorem dX12_prunes_36 : decode cX12_prunes 36 = .ok (.iastore, 1) := by decide +kernel
theorem dX12_prunes_37 : decode cX12_prunes 37 = .ok (.iinc 1 1, 3) := by decide +kernel
theorem dX12_prunes_40 : decode cX12_prunes 40 = .ok (.goto (-38), 3) := by decide +kernel
theorem dX12_prunes_43 : decode cX12_prunes 43 = .ok (.return_, 1) := by decide +kernel
theorem dX12_isPlace_0 : decode cX12_isPlace 0 = .ok (.iload_n 0, 1) := by decide +kernel
theorem dX12_isPlace_1 : decode cX12_isPlace 1 = .ok (.sipush (-10000), 3) := by decide +kernel
theorem dX12_isPlace_4 : decode cX12_isPlace 4 = .ok (.sipush 10000, 3) := by decide +kernel
theorem dX12_isPlace_7 : decode cX12_isPlace 7 = .ok (.invokestatic 59, 3) := by decide +kernel
theorem dX12_isPlace_10 : decode cX12_isPlace 10 = .ok (.ireturn, 1) := by decide +kernel
theorem dX12_isSize_0 : decode cX12_isSize 0 = .ok (.iload_n 0, 1) := by decide +kernel
theorem dX12_isSize_1 : decode cX12_isSize 1 = .ok (.iconst 1, 1) := by decide +kernel
theorem dX12_isSize_2 : decode cX12_isSize 2 = .ok (.sipush 500, 3) := by decide +kernel
theorem dX12_isSize_5 : decode cX12_isSize 5 = .ok (.invokestatic 59, 3) := by decide +kernel
theorem dX12_isSize_8 : decode cX12_isSize 8 = .ok (.ireturn, 1) := by decide +kernel
theorem dX12_adds_0 : decode cX12_adds 0 = .ok (.aload_n 0, 1) := by decide +kernel
theorem dX12_adds_1 : decode cX12_adds 1 = .ok (.getfield 7, 3) := by decide +kernel
theorem dX12_adds_4 : decode cX12_adds 4 = .ok (.iconst 0, 1) := by decide +kernel
theorem dX12_adds_5 : decode cX12_adds 5 = .ok (.iaload, 1) := by decide +kernel
theorem dX12_adds_6 : decode cX12_adds 6 = .ok (.istore 6, 2) := by decide +kernel
theorem dX12_adds_8 : decode cX12_adds 8 = .ok (.bipush 10, 2) := by decide +kernel
theorem dX12_adds_10 : decode cX12_adds 10 = .ok (.bipush 8, 2) := by decide +kernel
theorem dX12_adds_12 : decode cX12_adds 12 = .ok (.iload 6, 2) := by decide +kernel
theorem dX12_adds_14 : decode cX12_adds 14 = .ok (.imul, 1) := by decide +kernel
theorem dX12_adds_15 : decode cX12_adds 15 = .ok (.iadd, 1) := by decide +kernel
theorem dX12_adds_16 : decode cX12_adds 16 = .ok (.istore 7, 2) := by decide +kernel
theorem dX12_adds_18 : decode cX12_adds 18 = .ok (.aload_n 0, 1) := by decide +kernel
theorem dX12_adds_19 : decode cX12_adds 19 = .ok (.getfield 7, 3) := by decide +kernel
theorem dX12_adds_22 : decode cX12_adds 22 = .ok (.iload 7, 2) := by decide +kernel
theorem dX12_adds_24 : decode cX12_adds 24 = .ok (.iconst 1, 1) := by decide +kernel
theorem dX12_adds_25 : decode cX12_adds 25 = .ok (.iastore, 1) := by decide +kernel
theorem dX12_adds_26 : decode cX12_adds 26 = .ok (.aload_n 0, 1) := by decide +kernel
theorem dX12_adds_27 : decode cX12_adds 27 = .ok (.getfield 7, 3) := by decide +kernel
theorem dX12_adds_30 : decode cX12_adds 30 = .ok (.iload 7, 2) := by decide +kernel
theorem dX12_adds_32 : decode cX12_adds 32 = .ok (.iconst 1, 1) := by decide +kernel
theorem dX12_adds_33 : decode cX12_adds 33 = .ok (.iadd, 1) := by decide +kernel
theorem dX12_adds_34 : decode cX12_adds 34 = .ok (.iload_n 1, 1) := by decide +kernel
theorem dX12_adds_35 : decode cX12_adds 35 = .ok (.iastore, 1) := by decide +kernel
theorem dX12_adds_36 : decode cX12_adds 36 = .ok (.aload_n 0, 1) := by decide +kernel
theorem dX12_adds_37 : decode cX12_adds 37 = .ok (.getfield 7, 3) := by decide +kernel
theorem dX12_adds_40 : decode cX12_adds 40 = .ok (.iload 7, 2) := by decide +kernel
theorem dX12_adds_42 : decode cX12_adds 42 = .ok (.iconst 2, 1) := by decide +kernel
theorem dX12_adds_43 : decode cX12_adds 43 = .ok (.iadd, 1) := by decide +kernel
theorem dX12_adds_44 : decode cX12_adds 44 = .ok (.iload_n 2, 1) := by decide +kernel
theorem dX12_adds_45 : decode cX12_adds 45 = .ok (.iastore, 1) := by decide +kernel
theorem dX12_adds_46 : decode cX12_adds 46 = .ok (.aload_n 0, 1) := by decide +kernel
theorem dX12_adds_47 : decode cX12_adds 47 = .ok (.getfield 7, 3) := by decide +kernel
theorem dX12_adds_50 : decode cX12_adds 50 = .ok (.iload 7, 2) := by decide +kernel
theorem dX12_adds_52 : decode cX12_adds 52 = .ok (.iconst 3, 1) := by decide +kernel
theorem dX12_adds_53 : decode cX12_adds 53 = .ok (.iadd, 1) := by decide +kernel
theorem dX12_adds_54 : decode cX12_adds 54 = .ok (.iload_n 3, 1) := by decide +kernel
theorem dX12_adds_55 : decode cX12_adds 55 = .ok (.iastore, 1) := by decide +kernel
theorem dX12_adds_56 : decode cX12_adds 56 = .ok (.aload_n 0, 1) := by decide +kernel
theorem dX12_adds_57 : decode cX12_adds 57 = .ok (.getfield 7, 3) := by decide +kernel
theorem dX12_adds_60 : decode cX12_adds 60 = .ok (.iload 7, 2) := by decide +kernel
theorem dX12_adds_62 : decode cX12_adds 62 = .ok (.iconst 4, 1) := by decide +kernel
theorem dX12_adds_63 : decode cX12_adds 63 = .ok (.iadd, 1) := by decide +kernel
theorem dX12_adds_64 : decode cX12_adds 64 = .ok (.iload 4, 2) := by decide +kernel
theorem dX12_adds_66 : decode cX12_adds 66 = .ok (.iastore, 1) := by decide +kernel
theorem dX12_adds_67 : decode cX12_adds 67 = .ok (.aload_n 0, 1) := by decide +kernel
theorem dX12_adds_68 : decode cX12_adds 68 = .ok (.getfield 7, 3) := by decide +kernel
theorem dX12_adds_71 : decode cX12_adds 71 = .ok (.iload 7, 2) := by decide +kernel
theorem dX12_adds_73 : decode cX12_adds 73 = .ok (.iconst 5, 1) := by decide +kernel
theorem dX12_adds_74 : decode cX12_adds 74 = .ok (.iadd, 1) := by decide +kernel
theorem dX12_adds_75 : decode cX12_adds 75 = .ok (.iload 5, 2) := by decide +kernel
theorem dX12_adds_77 : decode cX12_adds 77 = .ok (.iastore, 1) := by decide +kernel
theorem dX12_adds_78 : decode cX12_adds 78 = .ok (.aload_n 0, 1) := by decide +kernel
theorem dX12_adds_79 : decode cX12_adds 79 = .ok (.getfield 7, 3) := by decide +kernel
theorem dX12_adds_82 : decode cX12_adds 82 = .ok (.iload 7, 2) := by decide +kernel
theorem dX12_adds_84 : decode cX12_adds 84 = .ok (.bipush 6, 2) := by decide +kernel
theorem dX12_adds_86 : decode cX12_adds 86 = .ok (.iadd, 1) := by decide +kernel
theorem dX12_adds_87 : decode cX12_adds 87 = .ok (.iconst 0, 1) := by decide +kernel
theorem dX12_adds_88 : decode cX12_adds 88 = .ok (.iastore, 1) := by decide +kernel
theorem dX12_adds_89 : decode cX12_adds 89 = .ok (.aload_n 0, 1) := by decide +kernel
theorem dX12_adds_90 : decode cX12_adds 90 = .ok (.getfield 7, 3) := by decide +kernel
theorem dX12_adds_93 : decode cX12_adds 93 = .ok (.iload 7, 2) := by decide +kernel
theorem dX12_adds_95 : decode cX12_adds 95 = .ok (.bipush 7, 2) := by decide +kernel
theorem dX12_adds_97 : decode cX12_adds 97 = .ok (.iadd, 1) := by decide +kernel
theorem dX12_adds_98 : decode cX12_adds 98 = .ok (.iconst 0, 1) := by decide +kernel
theorem dX12_adds_99 : decode cX12_adds 99 = .ok (.iastore, 1) := by decide +kernel
theorem dX12_adds_100 : decode cX12_adds 100 = .ok (.aload_n 0, 1) := by decide +kernel
theorem dX12_adds_101 : decode cX12_adds 101 = .ok (.getfield 7, 3) := by decide +kernel
theorem dX12_adds_104 : decode cX12_adds 104 = .ok (.iconst 0, 1) := by decide +kernel
theorem dX12_adds_105 : decode cX12_adds 105 = .ok (.dup2, 1) := by decide +kernel
theorem dX12_adds_106 : decode cX12_adds 106 = .ok (.iaload, 1) := by decide +kernel
theorem dX12_adds_107 : decode cX12_adds 107 = .ok (.iconst 1, 1) := by decide +kernel
theorem dX12_adds_108 : decode cX12_adds 108 = .ok (.iadd, 1) := by decide +kernel
theorem dX12_adds_109 : decode cX12_adds 109 = .ok (.iastore, 1) := by decide +kernel
theorem dX12_adds_110 : decode cX12_adds 110 = .ok (.aload_n 0, 1) := by decide +kernel
theorem dX12_adds_111 : decode cX12_adds 111 = .ok (.getfield 7, 3) := by decide +kernel
theorem dX12_adds_114 : decode cX12_adds 114 = .ok (.iconst 1, 1) := by decide +kernel
theorem dX12_adds_115 : decode cX12_adds 115 = .ok (.dup2, 1) := by decide +kernel
theorem dX12_adds_116 : decode cX12_adds 116 = .ok (.iaload, 1) := by decide +kernel
theorem dX12_adds_117 : decode cX12_adds 117 = .ok (.iconst 1, 1) := by decide +kernel
theorem dX12_adds_118 : decode cX12_adds 118 = .ok (.iadd, 1) := by decide +kernel
theorem dX12_adds_119 : decode cX12_adds 119 = .ok (.iastore, 1) := by decide +kernel
theorem dX12_adds_120 : decode cX12_adds 120 = .ok (.aload_n 0, 1) := by decide +kernel
theorem dX12_adds_121 : decode cX12_adds 121 = .ok (.getfield 7, 3) := by decide +kernel
theorem dX12_adds_124 : decode cX12_adds 124 = .ok (.iconst 1, 1) := by decide +kernel
theorem dX12_adds_125 : decode cX12_adds 125 = .ok (.iaload, 1) := by decide +kernel
theorem dX12_adds_126 : decode cX12_adds 126 = .ok (.iconst 1, 1) := by decide +kernel
theorem dX12_adds_127 : decode cX12_adds 127 = .ok (.isub, 1) := by decide +kernel
theorem dX12_adds_128 : decode cX12_adds 128 = .ok (.istore 8, 2) := by decide +kernel
theorem dX12_adds_130 : decode cX12_adds 130 = .ok (.iload 8, 2) := by decide +kernel
theorem dX12_adds_132 : decode cX12_adds 132 = .ok (.ifCond .le 33, 3) := by decide +kernel
theorem dX12_adds_135 : decode cX12_adds 135 = .ok (.aload_n 0, 1) := by decide +kernel
theorem dX12_adds_136 : decode cX12_adds 136 = .ok (.getfield 7, 3) := by decide +kernel
theorem dX12_adds_139 : decode cX12_adds 139 = .ok (.sipush 170, 3) := by decide +kernel
theorem dX12_adds_142 : decode cX12_adds 142 = .ok (.iload 8, 2) := by decide +kernel
theorem dX12_adds_144 : decode cX12_adds 144 = .ok (.iadd, 1) := by decide +kernel
theorem dX12_adds_145 : decode cX12_adds 145 = .ok (.aload_n 0, 1) := by decide +kernel
theorem dX12_adds_146 : decode cX12_adds 146 = .ok (.getfield 7, 3) := by decide +kernel
theorem dX12_adds_149 : decode cX12_adds 149 = .ok (.sipush 170, 3) := by decide +kernel
theorem dX12_adds_152 : decode cX12_adds 152 = .ok (.iload 8, 2) := by decide +kernel
theorem dX12_adds_154 : decode cX12_adds 154 = .ok (.iadd, 1) := by decide +kernel
theorem dX12_adds_155 : decode cX12_adds 155 = .ok (.iconst 1, 1) := by decide +kernel
theorem dX12_adds_156 : decode cX12_adds 156 = .ok (.isub, 1) := by decide +kernel
theorem dX12_adds_157 : decode cX12_adds 157 = .ok (.iaload, 1) := by decide +kernel
theorem dX12_adds_158 : decode cX12_adds 158 = .ok (.iastore, 1) := by decide +kernel
theorem dX12_adds_159 : decode cX12_adds 159 = .ok (.iinc 8 (-1), 3) := by decide +kernel
theorem dX12_adds_162 : decode cX12_adds 162 = .ok (.goto (-32), 3) := by decide +kernel
theorem dX12_adds_165 : decode cX12_adds 165 = .ok (.aload_n 0, 1) := by decide +kernel
theorem dX12_adds_166 : decode cX12_adds 166 = .ok (.getfield 7, 3) := by decide +kernel
theorem dX12_adds_169 : decode cX12_adds 169 = .ok (.sipush 170, 3) := by decide +kernel
theorem dX12_adds_172 : decode cX12_adds 172 = .ok (.iload 6, 2) := by decide +kernel
theorem dX12_adds_174 : decode cX12_adds 174 = .ok (.iastore, 1) := by decide +kernel
theorem dX12_adds_175 : decode cX12_adds 175 = .ok (.iload 6, 2) := by decide +kernel
theorem dX12_adds_177 : decode cX12_adds 177 = .ok (.ireturn, 1) := by decide +kernel
theorem dX12_addShape_0 : decode cX12_addShape 0 = .ok (.iload_n 1, 1) := by decide +kernel
theorem dX12_addShape_1 : decode cX12_addShape 1 = .ok (.iconst 0, 1) := by decide +kernel
theorem dX12_addShape_2 : decode cX12_addShape 2 = .ok (.iconst 2, 1) := by decide +kernel
theorem dX12_addShape_3 : decode cX12_addShape 3 = .ok (.invokestatic 59, 3) := by decide +kernel
theorem dX12_addShape_6 : decode cX12_addShape 6 = .ok (.ifCond .eq 33, 3) := by decide +kernel
theorem dX12_addShape_9 : decode cX12_addShape 9 = .ok (.iload_n 2, 1) := by decide +kernel
theorem dX12_addShape_10 : decode cX12_addShape 10 = .ok (.invokestatic 85, 3) := by decide +kernel
theorem dX12_addShape_13 : decode cX12_addShape 13 = .ok (.ifCond .eq 26, 3) := by decide +kernel
theorem dX12_addShape_16 : decode cX12_addShape 16 = .ok (.iload_n 3, 1) := by decide +kernel
theorem dX12_addShape_17 : decode cX12_addShape 17 = .ok (.invokestatic 85, 3) := by decide +kernel
theorem dX12_addShape_20 : decode cX12_addShape 20 = .ok (.ifCond .eq 19, 3) := by decide +kernel
theorem dX12_addShape_23 : decode cX12_addShape 23 = .ok (.iload 4, 2) := by decide +kernel
theorem dX12_addShape_25 : decode cX12_addShape 25 = .ok (.invokestatic 88, 3) := by decide +kernel
theorem dX12_addShape_28 : decode cX12_addShape 28 = .ok (.ifCond .eq 11, 3) := by decide +kernel
theorem dX12_addShape_31 : decode cX12_addShape 31 = .ok (.iload 5, 2) := by decide +kernel
theorem dX12_addShape_33 : decode cX12_addShape 33 = .ok (.invokestatic 88, 3) := by decide +kernel
theorem dX12_addShape_36 : decode cX12_addShape 36 = .ok (.ifCond .ne 5, 3) := by decide +kernel
theorem dX12_addShape_39 : decode cX12_addShape 39 = .ok (.iconst (-1), 1) := by decide +kernel
theorem dX12_addShape_40 : decode cX12_addShape 40 = .ok (.ireturn, 1) := by decide +kernel
theorem dX12_addShape_41 : decode cX12_addShape 41 = .ok (.aload_n 0, 1) := by decide +kernel
theorem dX12_addShape_42 : decode cX12_addShape 42 = .ok (.getfield 7, 3) := by decide +kernel
theorem dX12_addShape_45 : decode cX12_addShape 45 = .ok (.iconst 0, 1) := by decide +kernel
theorem dX12_addShape_46 : decode cX12_addShape 46 = .ok (.iaload, 1) := by decide +kernel
theorem dX12_addShape_47 : decode cX12_addShape 47 = .ok (.bipush 20, 2) := by decide +kernel
theorem dX12_addShape_49 : decode cX12_addShape 49 = .ok (.if_icmp .ne 6, 3) := by decide +kernel
theorem dX12_addShape_52 : decode cX12_addShape 52 = .ok (.bipush (-3), 2) := by decide +kernel
theorem dX12_addShape_54 : decode cX12_addShape 54 = .ok (.ireturn, 1) := by decide +kernel
theorem dX12_addShape_55 : decode cX12_addShape 55 = .ok (.aload_n 0, 1) := by decide +kernel
theorem dX12_addShape_56 : decode cX12_addShape 56 = .ok (.invokevirtual 91, 3) := by decide +kernel
theorem dX12_addShape_59 : decode cX12_addShape 59 = .ok (.aload_n 0, 1) := by decide +kernel
theorem dX12_addShape_60 : decode cX12_addShape 60 = .ok (.iload_n 1, 1) := by decide +kernel
theorem dX12_addShape_61 : decode cX12_addShape 61 = .ok (.iload_n 2, 1) := by decide +kernel
theorem dX12_addShape_62 : decode cX12_addShape 62 = .ok (.iload_n 3, 1) := by decide +kernel
theorem dX12_addShape_63 : decode cX12_addShape 63 = .ok (.iload 4, 2) := by decide +kernel
theorem dX12_addShape_65 : decode cX12_addShape 65 = .ok (.iload 5, 2) := by decide +kernel
theorem dX12_addShape_67 : decode cX12_addShape 67 = .ok (.invokevirtual 94, 3) := by decide +kernel
theorem dX12_addShape_70 : decode cX12_addShape 70 = .ok (.ireturn, 1) := by decide +kernel
theorem dX12_depthOf_0 : decode cX12_depthOf 0 = .ok (.iconst 0, 1) := by decide +kernel
theorem dX12_depthOf_1 : decode cX12_depthOf 1 = .ok (.istore_n 2, 1) := by decide +kernel
theorem dX12_depthOf_2 : decode cX12_depthOf 2 = .ok (.aload_n 0, 1) := by decide +kernel
theorem dX12_depthOf_3 : decode cX12_depthOf 3 = .ok (.getfield 7, 3) := by decide +kernel
theorem dX12_depthOf_6 : decode cX12_depthOf 6 = .ok (.sipush 170, 3) := by decide +kernel
theorem dX12_depthOf_9 : decode cX12_depthOf 9 = .ok (.iload_n 2, 1) := by decide +kernel
theorem dX12_depthOf_10 : decode cX12_depthOf 10 = .ok (.iadd, 1) := by decide +kernel
theorem dX12_depthOf_11 : decode cX12_depthOf 11 = .ok (.iaload, 1) := by decide +kernel
theorem dX12_depthOf_12 : decode cX12_depthOf 12 = .ok (.iload_n 1, 1) := by decide +kernel
theorem dX12_depthOf_13 : decode cX12_depthOf 13 = .ok (.if_icmp .eq 9, 3) := by decide +kernel
theorem dX12_depthOf_16 : decode cX12_depthOf 16 = .ok (.iinc 2 1, 3) := by decide +kernel
theorem dX12_depthOf_19 : decode cX12_depthOf 19 = .ok (.goto (-17), 3) := by decide +kernel
theorem dX12_depthOf_22 : decode cX12_depthOf 22 = .ok (.iload_n 2, 1) := by decide +kernel
theorem dX12_depthOf_23 : decode cX12_depthOf 23 = .ok (.ireturn, 1) := by decide +kernel
theorem dX12_cuts_0 : decode cX12_cuts 0 = .ok (.aload_n 0, 1) := by decide +kernel
theorem dX12_cuts_1 : decode cX12_cuts 1 = .ok (.getfield 7, 3) := by decide +kernel
theorem dX12_cuts_4 : decode cX12_cuts 4 = .ok (.iconst 2, 1) := by decide +kernel
theorem dX12_cuts_5 : decode cX12_cuts 5 = .ok (.dup2, 1) := by decide +kernel
theorem dX12_cuts_6 : decode cX12_cuts 6 = .ok (.iaload, 1) := by decide +kernel
theorem dX12_cuts_7 : decode cX12_cuts 7 = .ok (.iconst 1, 1) := by decide +kernel
theorem dX12_cuts_8 : decode cX12_cuts 8 = .ok (.isub, 1) := by decide +kernel
theorem dX12_cuts_9 : decode cX12_cuts 9 = .ok (.iastore, 1) := by decide +kernel
theorem dX12_cuts_10 : decode cX12_cuts 10 = .ok (.sipush 190, 3) := by decide +kernel
theorem dX12_cuts_13 : decode cX12_cuts 13 = .ok (.iconst 5, 1) := by decide +kernel
theorem dX12_cuts_14 : decode cX12_cuts 14 = .ok (.iload_n 1, 1) := by decide +kernel
theorem dX12_cuts_15 : decode cX12_cuts 15 = .ok (.imul, 1) := by decide +kernel
theorem dX12_cuts_16 : decode cX12_cuts 16 = .ok (.iadd, 1) := by decide +kernel
theorem dX12_cuts_17 : decode cX12_cuts 17 = .ok (.istore_n 2, 1) := by decide +kernel
theorem dX12_cuts_18 : decode cX12_cuts 18 = .ok (.iload_n 2, 1) := by decide +kernel
theorem dX12_cuts_19 : decode cX12_cuts 19 = .ok (.sipush 190, 3) := by decide +kernel
theorem dX12_cuts_22 : decode cX12_cuts 22 = .ok (.iconst 5, 1) := by decide +kernel
theorem dX12_cuts_23 : decode cX12_cuts 23 = .ok (.aload_n 0, 1) := by decide +kernel
theorem dX12_cuts_24 : decode cX12_cuts 24 = .ok (.getfield 7, 3) := by decide +kernel
theorem dX12_cuts_27 : decode cX12_cuts 27 = .ok (.iconst 2, 1) := by decide +kernel
theorem dX12_cuts_28 : decode cX12_cuts 28 = .ok (.iaload, 1) := by decide +kernel
theorem dX12_cuts_29 : decode cX12_cuts 29 = .ok (.imul, 1) := by decide +kernel
theorem dX12_cuts_30 : decode cX12_cuts 30 = .ok (.iadd, 1) := by decide +kernel
theorem dX12_cuts_31 : decode cX12_cuts 31 = .ok (.if_icmp .ge 23, 3) := by decide +kernel
theorem dX12_cuts_34 : decode cX12_cuts 34 = .ok (.aload_n 0, 1) := by decide +kernel
theorem dX12_cuts_35 : decode cX12_cuts 35 = .ok (.getfield 7, 3) := by decide +kernel
theorem dX12_cuts_38 : decode cX12_cuts 38 = .ok (.iload_n 2, 1) := by decide +kernel
theorem dX12_cuts_39 : decode cX12_cuts 39 = .ok (.aload_n 0, 1) := by decide +kernel
theorem dX12_cuts_40 : decode cX12_cuts 40 = .ok (.getfield 7, 3) := by decide +kernel
theorem dX12_cuts_43 : decode cX12_cuts 43 = .ok (.iload_n 2, 1) := by decide +kernel
theorem dX12_cuts_44 : decode cX12_cuts 44 = .ok (.iconst 5, 1) := by decide +kernel
theorem dX12_cuts_45 : decode cX12_cuts 45 = .ok (.iadd, 1) := by decide +kernel
theorem dX12_cuts_46 : decode cX12_cuts 46 = .ok (.iaload, 1) := by decide +kernel
theorem dX12_cuts_47 : decode cX12_cuts 47 = .ok (.iastore, 1) := by decide +kernel
theorem dX12_cuts_48 : decode cX12_cuts 48 = .ok (.iinc 2 1, 3) := by decide +kernel
theorem dX12_cuts_51 : decode cX12_cuts 51 = .ok (.goto (-33), 3) := by decide +kernel
theorem dX12_cuts_54 : decode cX12_cuts 54 = .ok (.return_, 1) := by decide +kernel
theorem dX12_isAt_0 : decode cX12_isAt 0 = .ok (.aload_n 0, 1) := by decide +kernel
theorem dX12_isAt_1 : decode cX12_isAt 1 = .ok (.getfield 7, 3) := by decide +kernel
theorem dX12_isAt_4 : decode cX12_isAt 4 = .ok (.sipush 190, 3) := by decide +kernel
theorem dX12_isAt_7 : decode cX12_isAt 7 = .ok (.iconst 5, 1) := by decide +kernel
theorem dX12_isAt_8 : decode cX12_isAt 8 = .ok (.iload_n 1, 1) := by decide +kernel
theorem dX12_isAt_9 : decode cX12_isAt 9 = .ok (.imul, 1) := by decide +kernel
theorem dX12_isAt_10 : decode cX12_isAt 10 = .ok (.iadd, 1) := by decide +kernel
theorem dX12_isAt_11 : decode cX12_isAt 11 = .ok (.iaload, 1) := by decide +kernel
theorem dX12_isAt_12 : decode cX12_isAt 12 = .ok (.iload_n 2, 1) := by decide +kernel
theorem dX12_isAt_13 : decode cX12_isAt 13 = .ok (.if_icmp .eq 21, 3) := by decide +kernel
theorem dX12_isAt_16 : decode cX12_isAt 16 = .ok (.aload_n 0, 1) := by decide +kernel
theorem dX12_isAt_17 : decode cX12_isAt 17 = .ok (.getfield 7, 3) := by decide +kernel
theorem dX12_isAt_20 : decode cX12_isAt 20 = .ok (.sipush 190, 3) := by decide +kernel
theorem dX12_isAt_23 : decode cX12_isAt 23 = .ok (.iconst 5, 1) := by decide +kernel
theorem dX12_isAt_24 : decode cX12_isAt 24 = .ok (.iload_n 1, 1) := by decide +kernel
theorem dX12_isAt_25 : decode cX12_isAt 25 = .ok (.imul, 1) := by decide +kernel
theorem dX12_isAt_26 : decode cX12_isAt 26 = .ok (.iadd, 1) := by decide +kernel
theorem dX12_isAt_27 : decode cX12_isAt 27 = .ok (.iconst 2, 1) := by decide +kernel
theorem dX12_isAt_28 : decode cX12_isAt 28 = .ok (.iadd, 1) := by decide +kernel
theorem dX12_isAt_29 : decode cX12_isAt 29 = .ok (.iaload, 1) := by decide +kernel
theorem dX12_isAt_30 : decode cX12_isAt 30 = .ok (.iload_n 2, 1) := by decide +kernel
theorem dX12_isAt_31 : decode cX12_isAt 31 = .ok (.if_icmp .ne 7, 3) := by decide +kernel
theorem dX12_isAt_34 : decode cX12_isAt 34 = .ok (.iconst 1, 1) := by decide +kernel
theorem dX12_isAt_35 : decode cX12_isAt 35 = .ok (.goto 4, 3) := by decide +kernel
theorem dX12_isAt_38 : decode cX12_isAt 38 = .ok (.iconst 0, 1) := by decide +kernel
theorem dX12_isAt_39 : decode cX12_isAt 39 = .ok (.ireturn, 1) := by decide +kernel
theorem dX12_removeShape_0 : decode cX12_removeShape 0 = .ok (.aload_n 0, 1) := by decide +kernel
theorem dX12_removeShape_1 : decode cX12_removeShape 1 = .ok (.iload_n 1, 1) := by decide +kernel
theorem dX12_removeShape_2 : decode cX12_removeShape 2 = .ok (.invokevirtual 98, 3) := by decide +kernel
theorem dX12_removeShape_5 : decode cX12_removeShape 5 = .ok (.ifCond .ne 5, 3) := by decide +kernel
theorem dX12_removeShape_8 : decode cX12_removeShape 8 = .ok (.iconst (-1), 1) := by decide +kernel
theorem dX12_removeShape_9 : decode cX12_removeShape 9 = .ok (.ireturn, 1) := by decide +kernel
theorem dX12_removeShape_10 : decode cX12_removeShape 10 = .ok (.aload_n 0, 1) := by decide +kernel
theorem dX12_removeShape_11 : decode cX12_removeShape 11 = .ok (.invokevirtual 91, 3) := by decide +kernel
theorem dX12_removeShape_14 : decode cX12_removeShape 14 = .ok (.iconst 0, 1) := by decide +kernel
theorem dX12_removeShape_15 : decode cX12_removeShape 15 = .ok (.istore_n 2, 1) := by decide +kernel
theorem dX12_removeShape_16 : decode cX12_removeShape 16 = .ok (.aload_n 0, 1) := by decide +kernel
theorem dX12_removeShape_17 : decode cX12_removeShape 17 = .ok (.getfield 7, 3) := by decide +kernel
theorem dX12_removeShape_20 : decode cX12_removeShape 20 = .ok (.iconst 2, 1) := by decide +kernel
theorem dX12_removeShape_21 : decode cX12_removeShape 21 = .ok (.iaload, 1) := by decide +kernel
theorem dX12_removeShape_22 : decode cX12_removeShape 22 = .ok (.iconst 1, 1) := by decide +kernel
theorem dX12_removeShape_23 : decode cX12_removeShape 23 = .ok (.isub, 1) := by decide +kernel
theorem dX12_removeShape_24 : decode cX12_removeShape 24 = .ok (.istore_n 3, 1) := by decide +kernel
theorem dX12_removeShape_25 : decode cX12_removeShape 25 = .ok (.iload_n 3, 1) := by decide +kernel
theorem dX12_removeShape_26 : decode cX12_removeShape 26 = .ok (.ifCond .lt 26, 3) := by decide +kernel
theorem dX12_removeShape_29 : decode cX12_removeShape 29 = .ok (.aload_n 0, 1) := by decide +kernel
theorem dX12_removeShape_30 : decode cX12_removeShape 30 = .ok (.iload_n 3, 1) := by decide +kernel
theorem dX12_removeShape_31 : decode cX12_removeShape 31 = .ok (.iload_n 1, 1) := by decide +kernel
theorem dX12_removeShape_32 : decode cX12_removeShape 32 = .ok (.invokevirtual 101, 3) := by decide +kernel
theorem dX12_removeShape_35 : decode cX12_removeShape 35 = .ok (.ifCond .eq 11, 3) := by decide +kernel
theorem dX12_removeShape_38 : decode cX12_removeShape 38 = .ok (.aload_n 0, 1) := by decide +kernel
theorem dX12_removeShape_39 : decode cX12_removeShape 39 = .ok (.iload_n 3, 1) := by decide +kernel
theorem dX12_removeShape_40 : decode cX12_removeShape 40 = .ok (.invokevirtual 104, 3) := by decide +kernel
theorem dX12_removeShape_43 : decode cX12_removeShape 43 = .ok (.iinc 2 1, 3) := by decide +kernel
theorem dX12_removeShape_46 : decode cX12_removeShape 46 = .ok (.iinc 3 (-1), 3) := by decide +kernel
theorem dX12_removeShape_49 : decode cX12_removeShape 49 = .ok (.goto (-24), 3) := by decide +kernel
theorem dX12_removeShape_52 : decode cX12_removeShape 52 = .ok (.aload_n 0, 1) := by decide +kernel
theorem dX12_removeShape_53 : decode cX12_removeShape 53 = .ok (.getfield 7, 3) := by decide +kernel
theorem dX12_removeShape_56 : decode cX12_removeShape 56 = .ok (.iconst 1, 1) := by decide +kernel
theorem dX12_removeShape_57 : decode cX12_removeShape 57 = .ok (.dup2, 1) := by decide +kernel
theorem dX12_removeShape_58 : decode cX12_removeShape 58 = .ok (.iaload, 1) := by decide +kernel
theorem dX12_removeShape_59 : decode cX12_removeShape 59 = .ok (.iconst 1, 1) := by decide +kernel
theorem dX12_removeShape_60 : decode cX12_removeShape 60 = .ok (.isub, 1) := by decide +kernel
theorem dX12_removeShape_61 : decode cX12_removeShape 61 = .ok (.iastore, 1) := by decide +kernel
theorem dX12_removeShape_62 : decode cX12_removeShape 62 = .ok (.aload_n 0, 1) := by decide +kernel
theorem dX12_removeShape_63 : decode cX12_removeShape 63 = .ok (.iload_n 1, 1) := by decide +kernel
theorem dX12_removeShape_64 : decode cX12_removeShape 64 = .ok (.invokevirtual 108, 3) := by decide +kernel
theorem dX12_removeShape_67 : decode cX12_removeShape 67 = .ok (.istore_n 3, 1) := by decide +kernel
theorem dX12_removeShape_68 : decode cX12_removeShape 68 = .ok (.iload_n 3, 1) := by decide +kernel
theorem dX12_removeShape_69 : decode cX12_removeShape 69 = .ok (.aload_n 0, 1) := by decide +kernel
theorem dX12_removeShape_70 : decode cX12_removeShape 70 = .ok (.getfield 7, 3) := by decide +kernel
theorem dX12_removeShape_73 : decode cX12_removeShape 73 = .ok (.iconst 1, 1) := by decide +kernel
theorem dX12_removeShape_74 : decode cX12_removeShape 74 = .ok (.iaload, 1) := by decide +kernel
theorem dX12_removeShape_75 : decode cX12_removeShape 75 = .ok (.if_icmp .ge 31, 3) := by decide +kernel
theorem dX12_removeShape_78 : decode cX12_removeShape 78 = .ok (.aload_n 0, 1) := by decide +kernel
theorem dX12_removeShape_79 : decode cX12_removeShape 79 = .ok (.getfield 7, 3) := by decide +kernel
theorem dX12_removeShape_82 : decode cX12_removeShape 82 = .ok (.sipush 170, 3) := by decide +kernel
theorem dX12_removeShape_85 : decode cX12_removeShape 85 = .ok (.iload_n 3, 1) := by decide +kernel
theorem dX12_removeShape_86 : decode cX12_removeShape 86 = .ok (.iadd, 1) := by decide +kernel
theorem dX12_removeShape_87 : decode cX12_removeShape 87 = .ok (.aload_n 0, 1) := by decide +kernel
theorem dX12_removeShape_88 : decode cX12_removeShape 88 = .ok (.getfield 7, 3) := by decide +kernel
theorem dX12_removeShape_91 : decode cX12_removeShape 91 = .ok (.sipush 170, 3) := by decide +kernel
theorem dX12_removeShape_94 : decode cX12_removeShape 94 = .ok (.iload_n 3, 1) := by decide +kernel
theorem dX12_removeShape_95 : decode cX12_removeShape 95 = .ok (.iadd, 1) := by decide +kernel
theorem dX12_removeShape_96 : decode cX12_removeShape 96 = .ok (.iconst 1, 1) := by decide +kernel
theorem dX12_removeShape_97 : decode cX12_removeShape 97 = .ok (.iadd, 1) := by decide +kernel
theorem dX12_removeShape_98 : decode cX12_removeShape 98 = .ok (.iaload, 1) := by decide +kernel
theorem dX12_removeShape_99 : decode cX12_removeShape 99 = .ok (.iastore, 1) := by decide +kernel
theorem dX12_removeShape_100 : decode cX12_removeShape 100 = .ok (.iinc 3 1, 3) := by decide +kernel
theorem dX12_removeShape_103 : decode cX12_removeShape 103 = .ok (.goto (-35), 3) := by decide +kernel
theorem dX12_removeShape_106 : decode cX12_removeShape 106 = .ok (.aload_n 0, 1) := by decide +kernel
theorem dX12_removeShape_107 : decode cX12_removeShape 107 = .ok (.getfield 7, 3) := by decide +kernel
theorem dX12_removeShape_110 : decode cX12_removeShape 110 = .ok (.bipush 10, 2) := by decide +kernel
theorem dX12_removeShape_112 : decode cX12_removeShape 112 = .ok (.bipush 8, 2) := by decide +kernel
theorem dX12_removeShape_114 : decode cX12_removeShape 114 = .ok (.iload_n 1, 1) := by decide +kernel
theorem dX12_removeShape_115 : decode cX12_removeShape 115 = .ok (.imul, 1) := by decide +kernel
theorem dX12_removeShape_116 : decode cX12_removeShape 116 = .ok (.iadd, 1) := by decide +kernel
theorem dX12_removeShape_117 : decode cX12_removeShape 117 = .ok (.iconst 0, 1) := by decide +kernel
theorem dX12_removeShape_118 : decode cX12_removeShape 118 = .ok (.iastore, 1) := by decide +kernel
theorem dX12_removeShape_119 : decode cX12_removeShape 119 = .ok (.aload_n 0, 1) := by decide +kernel
theorem dX12_removeShape_120 : decode cX12_removeShape 120 = .ok (.invokevirtual 111, 3) := by decide +kernel
theorem dX12_removeShape_123 : decode cX12_removeShape 123 = .ok (.iload_n 2, 1) := by decide +kernel
theorem dX12_removeShape_124 : decode cX12_removeShape 124 = .ok (.ireturn, 1) := by decide +kernel
theorem dX12_resize_0 : decode cX12_resize 0 = .ok (.aload_n 0, 1) := by decide +kernel
theorem dX12_resize_1 : decode cX12_resize 1 = .ok (.iload_n 1, 1) := by decide +kernel
theorem dX12_resize_2 : decode cX12_resize 2 = .ok (.invokevirtual 98, 3) := by decide +kernel
theorem dX12_resize_5 : decode cX12_resize 5 = .ok (.ifCond .eq 17, 3) := by decide +kernel
theorem dX12_resize_8 : decode cX12_resize 8 = .ok (.iload_n 2, 1) := by decide +kernel
theorem dX12_resize_9 : decode cX12_resize 9 = .ok (.invokestatic 88, 3) := by decide +kernel
theorem dX12_resize_12 : decode cX12_resize 12 = .ok (.ifCond .eq 10, 3) := by decide +kernel
theorem dX12_resize_15 : decode cX12_resize 15 = .ok (.iload_n 3, 1) := by decide +kernel
theorem dX12_resize_16 : decode cX12_resize 16 = .ok (.invokestatic 88, 3) := by decide +kernel
theorem dX12_resize_19 : decode cX12_resize 19 = .ok (.ifCond .ne 5, 3) := by decide +kernel
theorem dX12_resize_22 : decode cX12_resize 22 = .ok (.iconst (-1), 1) := by decide +kernel
theorem dX12_resize_23 : decode cX12_resize 23 = .ok (.ireturn, 1) := by decide +kernel
theorem dX12_resize_24 : decode cX12_resize 24 = .ok (.aload_n 0, 1) := by decide +kernel
theorem dX12_resize_25 : decode cX12_resize 25 = .ok (.invokevirtual 91, 3) := by decide +kernel
theorem dX12_resize_28 : decode cX12_resize 28 = .ok (.aload_n 0, 1) := by decide +kernel
theorem dX12_resize_29 : decode cX12_resize 29 = .ok (.getfield 7, 3) := by decide +kernel
theorem dX12_resize_32 : decode cX12_resize 32 = .ok (.bipush 10, 2) := by decide +kernel
theorem dX12_resize_34 : decode cX12_resize 34 = .ok (.bipush 8, 2) := by decide +kernel
theorem dX12_resize_36 : decode cX12_resize 36 = .ok (.iload_n 1, 1) := by decide +kernel
theorem dX12_resize_37 : decode cX12_resize 37 = .ok (.imul, 1) := by decide +kernel
theorem dX12_resize_38 : decode cX12_resize 38 = .ok (.iadd, 1) := by decide +kernel
theorem dX12_resize_39 : decode cX12_resize 39 = .ok (.iconst 4, 1) := by decide +kernel
theorem dX12_resize_40 : decode cX12_resize 40 = .ok (.iadd, 1) := by decide +kernel
theorem dX12_resize_41 : decode cX12_resize 41 = .ok (.iload_n 2, 1) := by decide +kernel
theorem dX12_resize_42 : decode cX12_resize 42 = .ok (.iastore, 1) := by decide +kernel
theorem dX12_resize_43 : decode cX12_resize 43 = .ok (.aload_n 0, 1) := by decide +kernel
theorem dX12_resize_44 : decode cX12_resize 44 = .ok (.getfield 7, 3) := by decide +kernel
theorem dX12_resize_47 : decode cX12_resize 47 = .ok (.bipush 10, 2) := by decide +kernel
theorem dX12_resize_49 : decode cX12_resize 49 = .ok (.bipush 8, 2) := by decide +kernel
theorem dX12_resize_51 : decode cX12_resize 51 = .ok (.iload_n 1, 1) := by decide +kernel
theorem dX12_resize_52 : decode cX12_resize 52 = .ok (.imul, 1) := by decide +kernel
theorem dX12_resize_53 : decode cX12_resize 53 = .ok (.iadd, 1) := by decide +kernel
theorem dX12_resize_54 : decode cX12_resize 54 = .ok (.iconst 5, 1) := by decide +kernel
theorem dX12_resize_55 : decode cX12_resize 55 = .ok (.iadd, 1) := by decide +kernel
theorem dX12_resize_56 : decode cX12_resize 56 = .ok (.iload_n 3, 1) := by decide +kernel
theorem dX12_resize_57 : decode cX12_resize 57 = .ok (.iastore, 1) := by decide +kernel
theorem dX12_resize_58 : decode cX12_resize 58 = .ok (.iconst 0, 1) := by decide +kernel
theorem dX12_resize_59 : decode cX12_resize 59 = .ok (.istore 4, 2) := by decide +kernel
theorem dX12_resize_61 : decode cX12_resize 61 = .ok (.iconst 0, 1) := by decide +kernel
theorem dX12_resize_62 : decode cX12_resize 62 = .ok (.istore 5, 2) := by decide +kernel
theorem dX12_resize_64 : decode cX12_resize 64 = .ok (.iload 5, 2) := by decide +kernel
theorem dX12_resize_66 : decode cX12_resize 66 = .ok (.aload_n 0, 1) := by decide +kernel
theorem dX12_resize_67 : decode cX12_resize 67 = .ok (.getfield 7, 3) := by decide +kernel
theorem dX12_resize_70 : decode cX12_resize 70 = .ok (.iconst 2, 1) := by decide +kernel
theorem dX12_resize_71 : decode cX12_resize 71 = .ok (.iaload, 1) := by decide +kernel
theorem dX12_resize_72 : decode cX12_resize 72 = .ok (.if_icmp .ge 29, 3) := by decide +kernel
theorem dX12_resize_75 : decode cX12_resize 75 = .ok (.iload 4, 2) := by decide +kernel
theorem dX12_resize_77 : decode cX12_resize 77 = .ok (.aload_n 0, 1) := by decide +kernel
theorem dX12_resize_78 : decode cX12_resize 78 = .ok (.iload 5, 2) := by decide +kernel
theorem dX12_resize_80 : decode cX12_resize 80 = .ok (.iload_n 1, 1) := by decide +kernel
theorem dX12_resize_81 : decode cX12_resize 81 = .ok (.invokevirtual 101, 3) := by decide +kernel
theorem dX12_resize_84 : decode cX12_resize 84 = .ok (.ifCond .eq 7, 3) := by decide +kernel
theorem dX12_resize_87 : decode cX12_resize 87 = .ok (.iconst 1, 1) := by decide +kernel
theorem dX12_resize_88 : decode cX12_resize 88 = .ok (.goto 4, 3) := by decide +kernel
theorem dX12_resize_91 : decode cX12_resize 91 = .ok (.iconst 0, 1) := by decide +kernel
theorem dX12_resize_92 : decode cX12_resize 92 = .ok (.iadd, 1) := by decide +kernel
theorem dX12_resize_93 : decode cX12_resize 93 = .ok (.istore 4, 2) := by decide +kernel
theorem dX12_resize_95 : decode cX12_resize 95 = .ok (.iinc 5 1, 3) := by decide +kernel
theorem dX12_resize_98 : decode cX12_resize 98 = .ok (.goto (-34), 3) := by decide +kernel
theorem dX12_resize_101 : decode cX12_resize 101 = .ok (.iload 4, 2) := by decide +kernel
theorem dX12_resize_103 : decode cX12_resize 103 = .ok (.ireturn, 1) := by decide +kernel
theorem dX12_told_0 : decode cX12_told 0 = .ok (.iload_n 2, 1) := by decide +kernel
theorem dX12_told_1 : decode cX12_told 1 = .ok (.bipush 6, 2) := by decide +kernel
theorem dX12_told_3 : decode cX12_told 3 = .ok (.if_icmp .ge 27, 3) := by decide +kernel
theorem dX12_told_6 : decode cX12_told 6 = .ok (.iload_n 2, 1) := by decide +kernel
theorem dX12_told_7 : decode cX12_told 7 = .ok (.iconst 5, 1) := by decide +kernel
theorem dX12_told_8 : decode cX12_told 8 = .ok (.if_icmp .ne 13, 3) := by decide +kernel
theorem dX12_told_11 : decode cX12_told 11 = .ok (.aload_n 0, 1) := by decide +kernel
theorem dX12_told_12 : decode cX12_told 12 = .ok (.iload_n 1, 1) := by decide +kernel
theorem dX12_told_13 : decode cX12_told 13 = .ok (.bipush 6, 2) := by decide +kernel
theorem dX12_told_15 : decode cX12_told 15 = .ok (.invokevirtual 63, 3) := by decide +kernel
theorem dX12_told_18 : decode cX12_told 18 = .ok (.goto 11, 3) := by decide +kernel
theorem dX12_told_21 : decode cX12_told 21 = .ok (.aload_n 0, 1) := by decide +kernel
theorem dX12_told_22 : decode cX12_told 22 = .ok (.iload_n 1, 1) := by decide +kernel
theorem dX12_told_23 : decode cX12_told 23 = .ok (.iload_n 2, 1) := by decide +kernel
theorem dX12_told_24 : decode cX12_told 24 = .ok (.iconst 1, 1) := by decide +kernel
theorem dX12_told_25 : decode cX12_told 25 = .ok (.iadd, 1) := by decide +kernel
theorem dX12_told_26 : decode cX12_told 26 = .ok (.invokevirtual 63, 3) := by decide +kernel
theorem dX12_told_29 : decode cX12_told 29 = .ok (.ireturn, 1) := by decide +kernel
theorem dX12_told_30 : decode cX12_told 30 = .ok (.iload_n 2, 1) := by decide +kernel
theorem dX12_told_31 : decode cX12_told 31 = .ok (.bipush 7, 2) := by decide +kernel
theorem dX12_told_33 : decode cX12_told 33 = .ok (.if_icmp .ne 11, 3) := by decide +kernel
theorem dX12_told_36 : decode cX12_told 36 = .ok (.aload_n 0, 1) := by decide +kernel
theorem dX12_told_37 : decode cX12_told 37 = .ok (.iload_n 1, 1) := by decide +kernel
theorem dX12_told_38 : decode cX12_told 38 = .ok (.invokevirtual 67, 3) := by decide +kernel
theorem dX12_told_41 : decode cX12_told 41 = .ok (.goto 8, 3) := by decide +kernel
theorem dX12_told_44 : decode cX12_told 44 = .ok (.aload_n 0, 1) := by decide +kernel
theorem dX12_told_45 : decode cX12_told 45 = .ok (.iload_n 1, 1) := by decide +kernel
theorem dX12_told_46 : decode cX12_told 46 = .ok (.invokevirtual 114, 3) := by decide +kernel
theorem dX12_told_49 : decode cX12_told 49 = .ok (.istore_n 3, 1) := by decide +kernel
theorem dX12_told_50 : decode cX12_told 50 = .ok (.iload_n 2, 1) := by decide +kernel
theorem dX12_told_51 : decode cX12_told 51 = .ok (.bipush 6, 2) := by decide +kernel
theorem dX12_told_53 : decode cX12_told 53 = .ok (.if_icmp .ne 11, 3) := by decide +kernel
theorem dX12_told_56 : decode cX12_told 56 = .ok (.aload_n 0, 1) := by decide +kernel
theorem dX12_told_57 : decode cX12_told 57 = .ok (.iload_n 1, 1) := by decide +kernel
theorem dX12_told_58 : decode cX12_told 58 = .ok (.invokevirtual 108, 3) := by decide +kernel
theorem dX12_told_61 : decode cX12_told 61 = .ok (.goto 13, 3) := by decide +kernel
theorem dX12_told_64 : decode cX12_told 64 = .ok (.iload_n 3, 1) := by decide +kernel
theorem dX12_told_65 : decode cX12_told 65 = .ok (.ifCond .ge 8, 3) := by decide +kernel
theorem dX12_told_68 : decode cX12_told 68 = .ok (.ldc 117, 2) := by decide +kernel
theorem dX12_told_70 : decode cX12_told 70 = .ok (.goto 4, 3) := by decide +kernel
theorem dX12_told_73 : decode cX12_told 73 = .ok (.iload_n 3, 1) := by decide +kernel
theorem dX12_told_74 : decode cX12_told 74 = .ok (.ireturn, 1) := by decide +kernel
theorem dX12_shape_0 : decode cX12_shape 0 = .ok (.aload_n 0, 1) := by decide +kernel
theorem dX12_shape_1 : decode cX12_shape 1 = .ok (.iload_n 1, 1) := by decide +kernel
theorem dX12_shape_2 : decode cX12_shape 2 = .ok (.invokevirtual 98, 3) := by decide +kernel
theorem dX12_shape_5 : decode cX12_shape 5 = .ok (.ifCond .eq 22, 3) := by decide +kernel
theorem dX12_shape_8 : decode cX12_shape 8 = .ok (.iload_n 2, 1) := by decide +kernel
theorem dX12_shape_9 : decode cX12_shape 9 = .ok (.iconst 0, 1) := by decide +kernel
theorem dX12_shape_10 : decode cX12_shape 10 = .ok (.bipush 8, 2) := by decide +kernel
theorem dX12_shape_12 : decode cX12_shape 12 = .ok (.invokestatic 59, 3) := by decide +kernel
theorem dX12_shape_15 : decode cX12_shape 15 = .ok (.ifCond .eq 12, 3) := by decide +kernel
theorem dX12_shape_18 : decode cX12_shape 18 = .ok (.aload_n 0, 1) := by decide +kernel
theorem dX12_shape_19 : decode cX12_shape 19 = .ok (.iload_n 1, 1) := by decide +kernel
theorem dX12_shape_20 : decode cX12_shape 20 = .ok (.iload_n 2, 1) := by decide +kernel
theorem dX12_shape_21 : decode cX12_shape 21 = .ok (.invokevirtual 118, 3) := by decide +kernel
theorem dX12_shape_24 : decode cX12_shape 24 = .ok (.goto 5, 3) := by decide +kernel
theorem dX12_shape_27 : decode cX12_shape 27 = .ok (.ldc 117, 2) := by decide +kernel
theorem dX12_shape_29 : decode cX12_shape 29 = .ok (.ireturn, 1) := by decide +kernel
theorem dX12_portOf_0 : decode cX12_portOf 0 = .ok (.iload_n 2, 1) := by decide +kernel
theorem dX12_portOf_1 : decode cX12_portOf 1 = .ok (.iconst 2, 1) := by decide +kernel
theorem dX12_portOf_2 : decode cX12_portOf 2 = .ok (.irem, 1) := by decide +kernel
theorem dX12_portOf_3 : decode cX12_portOf 3 = .ok (.ifCond .ne 36, 3) := by decide +kernel
theorem dX12_portOf_6 : decode cX12_portOf 6 = .ok (.iload_n 3, 1) := by decide +kernel
theorem dX12_portOf_7 : decode cX12_portOf 7 = .ok (.ifCond .ne 12, 3) := by decide +kernel
theorem dX12_portOf_10 : decode cX12_portOf 10 = .ok (.aload_n 0, 1) := by decide +kernel
theorem dX12_portOf_11 : decode cX12_portOf 11 = .ok (.iload_n 1, 1) := by decide +kernel
theorem dX12_portOf_12 : decode cX12_portOf 12 = .ok (.iconst 0, 1) := by decide +kernel
theorem dX12_portOf_13 : decode cX12_portOf 13 = .ok (.invokevirtual 121, 3) := by decide +kernel
theorem dX12_portOf_16 : decode cX12_portOf 16 = .ok (.goto 22, 3) := by decide +kernel
theorem dX12_portOf_19 : decode cX12_portOf 19 = .ok (.iload_n 2, 1) := by decide +kernel
theorem dX12_portOf_20 : decode cX12_portOf 20 = .ok (.ifCond .ne 12, 3) := by decide +kernel
theorem dX12_portOf_23 : decode cX12_portOf 23 = .ok (.aload_n 0, 1) := by decide +kernel
theorem dX12_portOf_24 : decode cX12_portOf 24 = .ok (.iload_n 1, 1) := by decide +kernel
theorem dX12_portOf_25 : decode cX12_portOf 25 = .ok (.iconst 1, 1) := by decide +kernel
theorem dX12_portOf_26 : decode cX12_portOf 26 = .ok (.invokevirtual 124, 3) := by decide +kernel
theorem dX12_portOf_29 : decode cX12_portOf 29 = .ok (.goto 9, 3) := by decide +kernel
theorem dX12_portOf_32 : decode cX12_portOf 32 = .ok (.aload_n 0, 1) := by decide +kernel
theorem dX12_portOf_33 : decode cX12_portOf 33 = .ok (.iload_n 1, 1) := by decide +kernel
theorem dX12_portOf_34 : decode cX12_portOf 34 = .ok (.iconst 1, 1) := by decide +kernel
theorem dX12_portOf_35 : decode cX12_portOf 35 = .ok (.invokevirtual 127, 3) := by decide +kernel
theorem dX12_portOf_38 : decode cX12_portOf 38 = .ok (.ireturn, 1) := by decide +kernel
theorem dX12_portOf_39 : decode cX12_portOf 39 = .ok (.iload_n 3, 1) := by decide +kernel
theorem dX12_portOf_40 : decode cX12_portOf 40 = .ok (.iconst 1, 1) := by decide +kernel
theorem dX12_portOf_41 : decode cX12_portOf 41 = .ok (.if_icmp .ne 12, 3) := by decide +kernel
theorem dX12_portOf_44 : decode cX12_portOf 44 = .ok (.aload_n 0, 1) := by decide +kernel
theorem dX12_portOf_45 : decode cX12_portOf 45 = .ok (.iload_n 1, 1) := by decide +kernel
theorem dX12_portOf_46 : decode cX12_portOf 46 = .ok (.iconst 1, 1) := by decide +kernel
theorem dX12_portOf_47 : decode cX12_portOf 47 = .ok (.invokevirtual 121, 3) := by decide +kernel
theorem dX12_portOf_50 : decode cX12_portOf 50 = .ok (.goto 23, 3) := by decide +kernel
theorem dX12_portOf_53 : decode cX12_portOf 53 = .ok (.iload_n 2, 1) := by decide +kernel
theorem dX12_portOf_54 : decode cX12_portOf 54 = .ok (.iconst 3, 1) := by decide +kernel
theorem dX12_portOf_55 : decode cX12_portOf 55 = .ok (.if_icmp .ne 12, 3) := by decide +kernel
theorem dX12_portOf_58 : decode cX12_portOf 58 = .ok (.aload_n 0, 1) := by decide +kernel
theorem dX12_portOf_59 : decode cX12_portOf 59 = .ok (.iload_n 1, 1) := by decide +kernel
theorem dX12_portOf_60 : decode cX12_portOf 60 = .ok (.iconst 0, 1) := by decide +kernel
theorem dX12_portOf_61 : decode cX12_portOf 61 = .ok (.invokevirtual 124, 3) := by decide +kernel
theorem dX12_portOf_64 : decode cX12_portOf 64 = .ok (.goto 9, 3) := by decide +kernel
theorem dX12_portOf_67 : decode cX12_portOf 67 = .ok (.aload_n 0, 1) := by decide +kernel
theorem dX12_portOf_68 : decode cX12_portOf 68 = .ok (.iload_n 1, 1) := by decide +kernel
theorem dX12_portOf_69 : decode cX12_portOf 69 = .ok (.iconst 0, 1) := by decide +kernel
theorem dX12_portOf_70 : decode cX12_portOf 70 = .ok (.invokevirtual 127, 3) := by decide +kernel
theorem dX12_portOf_73 : decode cX12_portOf 73 = .ok (.ireturn, 1) := by decide +kernel
theorem dX12_port_0 : decode cX12_port 0 = .ok (.aload_n 0, 1) := by decide +kernel
theorem dX12_port_1 : decode cX12_port 1 = .ok (.iload_n 1, 1) := by decide +kernel
theorem dX12_port_2 : decode cX12_port 2 = .ok (.invokevirtual 98, 3) := by decide +kernel
theorem dX12_port_5 : decode cX12_port 5 = .ok (.ifCond .eq 31, 3) := by decide +kernel
theorem dX12_port_8 : decode cX12_port 8 = .ok (.iload_n 2, 1) := by decide +kernel
theorem dX12_port_9 : decode cX12_port 9 = .ok (.iconst 0, 1) := by decide +kernel
theorem dX12_port_10 : decode cX12_port 10 = .ok (.iconst 3, 1) := by decide +kernel
theorem dX12_port_11 : decode cX12_port 11 = .ok (.invokestatic 59, 3) := by decide +kernel
theorem dX12_port_14 : decode cX12_port 14 = .ok (.ifCond .eq 22, 3) := by decide +kernel
theorem dX12_port_17 : decode cX12_port 17 = .ok (.iload_n 3, 1) := by decide +kernel
theorem dX12_port_18 : decode cX12_port 18 = .ok (.iconst 0, 1) := by decide +kernel
theorem dX12_port_19 : decode cX12_port 19 = .ok (.iconst 1, 1) := by decide +kernel
theorem dX12_port_20 : decode cX12_port 20 = .ok (.invokestatic 59, 3) := by decide +kernel
theorem dX12_port_23 : decode cX12_port 23 = .ok (.ifCond .eq 13, 3) := by decide +kernel
theorem dX12_port_26 : decode cX12_port 26 = .ok (.aload_n 0, 1) := by decide +kernel
theorem dX12_port_27 : decode cX12_port 27 = .ok (.iload_n 1, 1) := by decide +kernel
theorem dX12_port_28 : decode cX12_port 28 = .ok (.iload_n 2, 1) := by decide +kernel
theorem dX12_port_29 : decode cX12_port 29 = .ok (.iload_n 3, 1) := by decide +kernel
theorem dX12_port_30 : decode cX12_port 30 = .ok (.invokevirtual 130, 3) := by decide +kernel
theorem dX12_port_33 : decode cX12_port 33 = .ok (.goto 5, 3) := by decide +kernel
theorem dX12_port_36 : decode cX12_port 36 = .ok (.ldc 117, 2) := by decide +kernel
theorem dX12_port_38 : decode cX12_port 38 = .ok (.ireturn, 1) := by decide +kernel
theorem dX12_bring_0 : decode cX12_bring 0 = .ok (.aload_n 0, 1) := by decide +kernel
theorem dX12_bring_1 : decode cX12_bring 1 = .ok (.iload_n 1, 1) := by decide +kernel
theorem dX12_bring_2 : decode cX12_bring 2 = .ok (.invokevirtual 98, 3) := by decide +kernel
theorem dX12_bring_5 : decode cX12_bring 5 = .ok (.ifCond .ne 5, 3) := by decide +kernel
theorem dX12_bring_8 : decode cX12_bring 8 = .ok (.iconst (-1), 1) := by decide +kernel
theorem dX12_bring_9 : decode cX12_bring 9 = .ok (.ireturn, 1) := by decide +kernel
theorem dX12_bring_10 : decode cX12_bring 10 = .ok (.aload_n 0, 1) := by decide +kernel
theorem dX12_bring_11 : decode cX12_bring 11 = .ok (.invokevirtual 91, 3) := by decide +kernel
theorem dX12_bring_14 : decode cX12_bring 14 = .ok (.aload_n 0, 1) := by decide +kernel
theorem dX12_bring_15 : decode cX12_bring 15 = .ok (.iload_n 1, 1) := by decide +kernel
theorem dX12_bring_16 : decode cX12_bring 16 = .ok (.invokevirtual 108, 3) := by decide +kernel
theorem dX12_bring_19 : decode cX12_bring 19 = .ok (.istore_n 3, 1) := by decide +kernel
theorem dX12_bring_20 : decode cX12_bring 20 = .ok (.iload_n 2, 1) := by decide +kernel
theorem dX12_bring_21 : decode cX12_bring 21 = .ok (.ifCond .eq 53, 3) := by decide +kernel
theorem dX12_bring_24 : decode cX12_bring 24 = .ok (.iload_n 3, 1) := by decide +kernel
theorem dX12_bring_25 : decode cX12_bring 25 = .ok (.istore 4, 2) := by decide +kernel
theorem dX12_bring_27 : decode cX12_bring 27 = .ok (.iload 4, 2) := by decide +kernel
theorem dX12_bring_29 : decode cX12_bring 29 = .ok (.ifCond .le 33, 3) := by decide +kernel
theorem dX12_bring_32 : decode cX12_bring 32 = .ok (.aload_n 0, 1) := by decide +kernel
theorem dX12_bring_33 : decode cX12_bring 33 = .ok (.getfield 7, 3) := by decide +kernel
theorem dX12_bring_36 : decode cX12_bring 36 = .ok (.sipush 170, 3) := by decide +kernel
theorem dX12_bring_39 : decode cX12_bring 39 = .ok (.iload 4, 2) := by decide +kernel
theorem dX12_bring_41 : decode cX12_bring 41 = .ok (.iadd, 1) := by decide +kernel
theorem dX12_bring_42 : decode cX12_bring 42 = .ok (.aload_n 0, 1) := by decide +kernel
theorem dX12_bring_43 : decode cX12_bring 43 = .ok (.getfield 7, 3) := by decide +kernel
theorem dX12_bring_46 : decode cX12_bring 46 = .ok (.sipush 170, 3) := by decide +kernel
theorem dX12_bring_49 : decode cX12_bring 49 = .ok (.iload 4, 2) := by decide +kernel
theorem dX12_bring_51 : decode cX12_bring 51 = .ok (.iadd, 1) := by decide +kernel
theorem dX12_bring_52 : decode cX12_bring 52 = .ok (.iconst 1, 1) := by decide +kernel
theorem dX12_bring_53 : decode cX12_bring 53 = .ok (.isub, 1) := by decide +kernel
theorem dX12_bring_54 : decode cX12_bring 54 = .ok (.iaload, 1) := by decide +kernel
theorem dX12_bring_55 : decode cX12_bring 55 = .ok (.iastore, 1) := by decide +kernel
theorem dX12_bring_56 : decode cX12_bring 56 = .ok (.iinc 4 (-1), 3) := by decide +kernel
theorem dX12_bring_59 : decode cX12_bring 59 = .ok (.goto (-32), 3) := by decide +kernel
theorem dX12_bring_62 : decode cX12_bring 62 = .ok (.aload_n 0, 1) := by decide +kernel
theorem dX12_bring_63 : decode cX12_bring 63 = .ok (.getfield 7, 3) := by decide +kernel
theorem dX12_bring_66 : decode cX12_bring 66 = .ok (.sipush 170, 3) := by decide +kernel
theorem dX12_bring_69 : decode cX12_bring 69 = .ok (.iload_n 1, 1) := by decide +kernel
theorem dX12_bring_70 : decode cX12_bring 70 = .ok (.iastore, 1) := by decide +kernel
theorem dX12_bring_71 : decode cX12_bring 71 = .ok (.goto 67, 3) := by decide +kernel
theorem dX12_bring_74 : decode cX12_bring 74 = .ok (.iload_n 3, 1) := by decide +kernel
theorem dX12_bring_75 : decode cX12_bring 75 = .ok (.istore 4, 2) := by decide +kernel
theorem dX12_bring_77 : decode cX12_bring 77 = .ok (.iload 4, 2) := by decide +kernel
theorem dX12_bring_79 : decode cX12_bring 79 = .ok (.aload_n 0, 1) := by decide +kernel
theorem dX12_bring_80 : decode cX12_bring 80 = .ok (.getfield 7, 3) := by decide +kernel
theorem dX12_bring_83 : decode cX12_bring 83 = .ok (.iconst 1, 1) := by decide +kernel
theorem dX12_bring_84 : decode cX12_bring 84 = .ok (.iaload, 1) := by decide +kernel
theorem dX12_bring_85 : decode cX12_bring 85 = .ok (.iconst 1, 1) := by decide +kernel
theorem dX12_bring_86 : decode cX12_bring 86 = .ok (.isub, 1) := by decide +kernel
theorem dX12_bring_87 : decode cX12_bring 87 = .ok (.if_icmp .ge 33, 3) := by decide +kernel
theorem dX12_bring_90 : decode cX12_bring 90 = .ok (.aload_n 0, 1) := by decide +kernel
theorem dX12_bring_91 : decode cX12_bring 91 = .ok (.getfield 7, 3) := by decide +kernel
theorem dX12_bring_94 : decode cX12_bring 94 = .ok (.sipush 170, 3) := by decide +kernel
theorem dX12_bring_97 : decode cX12_bring 97 = .ok (.iload 4, 2) := by decide +kernel
theorem dX12_bring_99 : decode cX12_bring 99 = .ok (.iadd, 1) := by decide +kernel
theorem dX12_bring_100 : decode cX12_bring 100 = .ok (.aload_n 0, 1) := by decide +kernel
theorem dX12_bring_101 : decode cX12_bring 101 = .ok (.getfield 7, 3) := by decide +kernel
theorem dX12_bring_104 : decode cX12_bring 104 = .ok (.sipush 170, 3) := by decide +kernel
theorem dX12_bring_107 : decode cX12_bring 107 = .ok (.iload 4, 2) := by decide +kernel
theorem dX12_bring_109 : decode cX12_bring 109 = .ok (.iadd, 1) := by decide +kernel
theorem dX12_bring_110 : decode cX12_bring 110 = .ok (.iconst 1, 1) := by decide +kernel
theorem dX12_bring_111 : decode cX12_bring 111 = .ok (.iadd, 1) := by decide +kernel
theorem dX12_bring_112 : decode cX12_bring 112 = .ok (.iaload, 1) := by decide +kernel
theorem dX12_bring_113 : decode cX12_bring 113 = .ok (.iastore, 1) := by decide +kernel
theorem dX12_bring_114 : decode cX12_bring 114 = .ok (.iinc 4 1, 3) := by decide +kernel
theorem dX12_bring_117 : decode cX12_bring 117 = .ok (.goto (-40), 3) := by decide +kernel
theorem dX12_bring_120 : decode cX12_bring 120 = .ok (.aload_n 0, 1) := by decide +kernel
theorem dX12_bring_121 : decode cX12_bring 121 = .ok (.getfield 7, 3) := by decide +kernel
theorem dX12_bring_124 : decode cX12_bring 124 = .ok (.sipush 170, 3) := by decide +kernel
theorem dX12_bring_127 : decode cX12_bring 127 = .ok (.aload_n 0, 1) := by decide +kernel
theorem dX12_bring_128 : decode cX12_bring 128 = .ok (.getfield 7, 3) := by decide +kernel
theorem dX12_bring_131 : decode cX12_bring 131 = .ok (.iconst 1, 1) := by decide +kernel
theorem dX12_bring_132 : decode cX12_bring 132 = .ok (.iaload, 1) := by decide +kernel
theorem dX12_bring_133 : decode cX12_bring 133 = .ok (.iadd, 1) := by decide +kernel
theorem dX12_bring_134 : decode cX12_bring 134 = .ok (.iconst 1, 1) := by decide +kernel
theorem dX12_bring_135 : decode cX12_bring 135 = .ok (.isub, 1) := by decide +kernel
theorem dX12_bring_136 : decode cX12_bring 136 = .ok (.iload_n 1, 1) := by decide +kernel
theorem dX12_bring_137 : decode cX12_bring 137 = .ok (.iastore, 1) := by decide +kernel
theorem dX12_bring_138 : decode cX12_bring 138 = .ok (.iload_n 3, 1) := by decide +kernel
theorem dX12_bring_139 : decode cX12_bring 139 = .ok (.ireturn, 1) := by decide +kernel
theorem dX12_contains_0 : decode cX12_contains 0 = .ok (.aload_n 0, 1) := by decide +kernel
theorem dX12_contains_1 : decode cX12_contains 1 = .ok (.iload_n 1, 1) := by decide +kernel
theorem dX12_contains_2 : decode cX12_contains 2 = .ok (.iconst 1, 1) := by decide +kernel
theorem dX12_contains_3 : decode cX12_contains 3 = .ok (.invokevirtual 63, 3) := by decide +kernel
theorem dX12_contains_6 : decode cX12_contains 6 = .ok (.ifCond .ne 47, 3) := by decide +kernel
theorem dX12_contains_9 : decode cX12_contains 9 = .ok (.iload_n 2, 1) := by decide +kernel
theorem dX12_contains_10 : decode cX12_contains 10 = .ok (.aload_n 0, 1) := by decide +kernel
theorem dX12_contains_11 : decode cX12_contains 11 = .ok (.iload_n 1, 1) := by decide +kernel
theorem dX12_contains_12 : decode cX12_contains 12 = .ok (.iconst 0, 1) := by decide +kernel
theorem dX12_contains_13 : decode cX12_contains 13 = .ok (.invokevirtual 124, 3) := by decide +kernel
theorem dX12_contains_16 : decode cX12_contains 16 = .ok (.aload_n 0, 1) := by decide +kernel
theorem dX12_contains_17 : decode cX12_contains 17 = .ok (.iload_n 1, 1) := by decide +kernel
theorem dX12_contains_18 : decode cX12_contains 18 = .ok (.iconst 0, 1) := by decide +kernel
theorem dX12_contains_19 : decode cX12_contains 19 = .ok (.invokevirtual 127, 3) := by decide +kernel
theorem dX12_contains_22 : decode cX12_contains 22 = .ok (.invokestatic 59, 3) := by decide +kernel
theorem dX12_contains_25 : decode cX12_contains 25 = .ok (.ifCond .eq 26, 3) := by decide +kernel
theorem dX12_contains_28 : decode cX12_contains 28 = .ok (.iload_n 3, 1) := by decide +kernel
theorem dX12_contains_29 : decode cX12_contains 29 = .ok (.aload_n 0, 1) := by decide +kernel
theorem dX12_contains_30 : decode cX12_contains 30 = .ok (.iload_n 1, 1) := by decide +kernel
theorem dX12_contains_31 : decode cX12_contains 31 = .ok (.iconst 1, 1) := by decide +kernel
theorem dX12_contains_32 : decode cX12_contains 32 = .ok (.invokevirtual 124, 3) := by decide +kernel
theorem dX12_contains_35 : decode cX12_contains 35 = .ok (.aload_n 0, 1) := by decide +kernel
theorem dX12_contains_36 : decode cX12_contains 36 = .ok (.iload_n 1, 1) := by decide +kernel
theorem dX12_contains_37 : decode cX12_contains 37 = .ok (.iconst 1, 1) := by decide +kernel
theorem dX12_contains_38 : decode cX12_contains 38 = .ok (.invokevirtual 127, 3) := by decide +kernel
theorem dX12_contains_41 : decode cX12_contains 41 = .ok (.invokestatic 59, 3) := by decide +kernel
theorem dX12_contains_44 : decode cX12_contains 44 = .ok (.ifCond .eq 7, 3) := by decide +kernel
theorem dX12_contains_47 : decode cX12_contains 47 = .ok (.iconst 1, 1) := by decide +kernel
theorem dX12_contains_48 : decode cX12_contains 48 = .ok (.goto 4, 3) := by decide +kernel
theorem dX12_contains_51 : decode cX12_contains 51 = .ok (.iconst 0, 1) := by decide +kernel
theorem dX12_contains_52 : decode cX12_contains 52 = .ok (.ireturn, 1) := by decide +kernel
theorem dX12_contains_53 : decode cX12_contains 53 = .ok (.aload_n 0, 1) := by decide +kernel
theorem dX12_contains_54 : decode cX12_contains 54 = .ok (.iload_n 1, 1) := by decide +kernel
theorem dX12_contains_55 : decode cX12_contains 55 = .ok (.iconst 4, 1) := by decide +kernel
theorem dX12_contains_56 : decode cX12_contains 56 = .ok (.invokevirtual 63, 3) := by decide +kernel
theorem dX12_contains_59 : decode cX12_contains 59 = .ok (.i2l, 1) := by decide +kernel
theorem dX12_contains_60 : decode cX12_contains 60 = .ok (.lstore 4, 2) := by decide +kernel
theorem dX12_contains_62 : decode cX12_contains 62 = .ok (.aload_n 0, 1) := by decide +kernel
theorem dX12_contains_63 : decode cX12_contains 63 = .ok (.iload_n 1, 1) := by decide +kernel
theorem dX12_contains_64 : decode cX12_contains 64 = .ok (.iconst 5, 1) := by decide +kernel
theorem dX12_contains_65 : decode cX12_contains 65 = .ok (.invokevirtual 63, 3) := by decide +kernel
theorem dX12_contains_68 : decode cX12_contains 68 = .ok (.i2l, 1) := by decide +kernel
theorem dX12_contains_69 : decode cX12_contains 69 = .ok (.lstore 6, 2) := by decide +kernel
theorem dX12_contains_71 : decode cX12_contains 71 = .ok (.ldc2_w 134, 3) := by decide +kernel
theorem dX12_contains_74 : decode cX12_contains 74 = .ok (.iload_n 2, 1) := by decide +kernel
theorem dX12_contains_75 : decode cX12_contains 75 = .ok (.i2l, 1) := by decide +kernel
theorem dX12_contains_76 : decode cX12_contains 76 = .ok (.lmul, 1) := by decide +kernel
theorem dX12_contains_77 : decode cX12_contains 77 = .ok (.ldc2_w 134, 3) := by decide +kernel
theorem dX12_contains_80 : decode cX12_contains 80 = .ok (.aload_n 0, 1) := by decide +kernel
theorem dX12_contains_81 : decode cX12_contains 81 = .ok (.iload_n 1, 1) := by decide +kernel
theorem dX12_contains_82 : decode cX12_contains 82 = .ok (.iconst 0, 1) := by decide +kernel
theorem dX12_contains_83 : decode cX12_contains 83 = .ok (.invokevirtual 124, 3) := by decide +kernel
theorem dX12_contains_86 : decode cX12_contains 86 = .ok (.i2l, 1) := by decide +kernel
theorem dX12_contains_87 : decode cX12_contains 87 = .ok (.lmul, 1) := by decide +kernel
theorem dX12_contains_88 : decode cX12_contains 88 = .ok (.lsub, 1) := by decide +kernel
theorem dX12_contains_89 : decode cX12_contains 89 = .ok (.lload 4, 2) := by decide +kernel
theorem dX12_contains_91 : decode cX12_contains 91 = .ok (.lsub, 1) := by decide +kernel
theorem dX12_contains_92 : decode cX12_contains 92 = .ok (.lstore 8, 2) := by decide +kernel
theorem dX12_contains_94 : decode cX12_contains 94 = .ok (.ldc2_w 134, 3) := by decide +kernel
theorem dX12_contains_97 : decode cX12_contains 97 = .ok (.iload_n 3, 1) := by decide +kernel
theorem dX12_contains_98 : decode cX12_contains 98 = .ok (.i2l, 1) := by decide +kernel
theorem dX12_contains_99 : decode cX12_contains 99 = .ok (.lmul, 1) := by decide +kernel
theorem dX12_contains_100 : decode cX12_contains 100 = .ok (.ldc2_w 134, 3) := by decide +kernel
theorem dX12_contains_103 : decode cX12_contains 103 = .ok (.aload_n 0, 1) := by decide +kernel
theorem dX12_contains_104 : decode cX12_contains 104 = .ok (.iload_n 1, 1) := by decide +kernel
theorem dX12_contains_105 : decode cX12_contains 105 = .ok (.iconst 1, 1) := by decide +kernel
theorem dX12_contains_106 : decode cX12_contains 106 = .ok (.invokevirtual 124, 3) := by decide +kernel
theorem dX12_contains_109 : decode cX12_contains 109 = .ok (.i2l, 1) := by decide +kernel
theorem dX12_contains_110 : decode cX12_contains 110 = .ok (.lmul, 1) := by decide +kernel
theorem dX12_contains_111 : decode cX12_contains 111 = .ok (.lsub, 1) := by decide +kernel
theorem dX12_contains_112 : decode cX12_contains 112 = .ok (.lload 6, 2) := by decide +kernel
theorem dX12_contains_114 : decode cX12_contains 114 = .ok (.lsub, 1) := by decide +kernel
theorem dX12_contains_115 : decode cX12_contains 115 = .ok (.lstore 10, 2) := by decide +kernel
theorem dX12_contains_117 : decode cX12_contains 117 = .ok (.lload 8, 2) := by decide +kernel
theorem dX12_contains_119 : decode cX12_contains 119 = .ok (.lconst 0, 1) := by decide +kernel
theorem dX12_contains_120 : decode cX12_contains 120 = .ok (.lcmp, 1) := by decide +kernel
theorem dX12_contains_121 : decode cX12_contains 121 = .ok (.ifCond .ge 9, 3) := by decide +kernel
theorem dX12_contains_124 : decode cX12_contains 124 = .ok (.lload 8, 2) := by decide +kernel
theorem dX12_contains_126 : decode cX12_contains 126 = .ok (.lneg, 1) := by decide +kernel
theorem dX12_contains_127 : decode cX12_contains 127 = .ok (.goto 5, 3) := by decide +kernel
theorem dX12_contains_130 : decode cX12_contains 130 = .ok (.lload 8, 2) := by decide +kernel
theorem dX12_contains_132 : decode cX12_contains 132 = .ok (.lstore 8, 2) := by decide +kernel
theorem dX12_contains_134 : decode cX12_contains 134 = .ok (.lload 10, 2) := by decide +kernel
theorem dX12_contains_136 : decode cX12_contains 136 = .ok (.lconst 0, 1) := by decide +kernel
theorem dX12_contains_137 : decode cX12_contains 137 = .ok (.lcmp, 1) := by decide +kernel
theorem dX12_contains_138 : decode cX12_contains 138 = .ok (.ifCond .ge 9, 3) := by decide +kernel
theorem dX12_contains_141 : decode cX12_contains 141 = .ok (.lload 10, 2) := by decide +kernel
theorem dX12_contains_143 : decode cX12_contains 143 = .ok (.lneg, 1) := by decide +kernel
theorem dX12_contains_144 : decode cX12_contains 144 = .ok (.goto 5, 3) := by decide +kernel
theorem dX12_contains_147 : decode cX12_contains 147 = .ok (.lload 10, 2) := by decide +kernel
theorem dX12_contains_149 : decode cX12_contains 149 = .ok (.lstore 10, 2) := by decide +kernel
theorem dX12_contains_151 : decode cX12_contains 151 = .ok (.aload_n 0, 1) := by decide +kernel
theorem dX12_contains_152 : decode cX12_contains 152 = .ok (.iload_n 1, 1) := by decide +kernel
theorem dX12_contains_153 : decode cX12_contains 153 = .ok (.iconst 1, 1) := by decide +kernel
theorem dX12_contains_154 : decode cX12_contains 154 = .ok (.invokevirtual 63, 3) := by decide +kernel
theorem dX12_contains_157 : decode cX12_contains 157 = .ok (.iconst 1, 1) := by decide +kernel
theorem dX12_contains_158 : decode cX12_contains 158 = .ok (.if_icmp .ne 49, 3) := by decide +kernel
theorem dX12_contains_161 : decode cX12_contains 161 = .ok (.lload 8, 2) := by decide +kernel
theorem dX12_contains_163 : decode cX12_contains 163 = .ok (.lload 8, 2) := by decide +kernel
theorem dX12_contains_165 : decode cX12_contains 165 = .ok (.lmul, 1) := by decide +kernel
theorem dX12_contains_166 : decode cX12_contains 166 = .ok (.lload 6, 2) := by decide +kernel
theorem dX12_contains_168 : decode cX12_contains 168 = .ok (.lmul, 1) := by decide +kernel
theorem dX12_contains_169 : decode cX12_contains 169 = .ok (.lload 6, 2) := by decide +kernel
theorem dX12_contains_171 : decode cX12_contains 171 = .ok (.lmul, 1) := by decide +kernel
theorem dX12_contains_172 : decode cX12_contains 172 = .ok (.lload 10, 2) := by decide +kernel
theorem dX12_contains_174 : decode cX12_contains 174 = .ok (.lload 10, 2) := by decide +kernel
theorem dX12_contains_176 : decode cX12_contains 176 = .ok (.lmul, 1) := by decide +kernel
theorem dX12_contains_177 : decode cX12_contains 177 = .ok (.lload 4, 2) := by decide +kernel
theorem dX12_contains_179 : decode cX12_contains 179 = .ok (.lmul, 1) := by decide +kernel
theorem dX12_contains_180 : decode cX12_contains 180 = .ok (.lload 4, 2) := by decide +kernel
theorem dX12_contains_182 : decode cX12_contains 182 = .ok (.lmul, 1) := by decide +kernel
theorem dX12_contains_183 : decode cX12_contains 183 = .ok (.ladd, 1) := by decide +kernel
theorem dX12_contains_184 : decode cX12_contains 184 = .ok (.lload 4, 2) := by decide +kernel
theorem dX12_contains_186 : decode cX12_contains 186 = .ok (.lload 4, 2) := by decide +kernel
theorem dX12_contains_188 : decode cX12_contains 188 = .ok (.lmul, 1) := by decide +kernel
theorem dX12_contains_189 : decode cX12_contains 189 = .ok (.lload 6, 2) := by decide +kernel
theorem dX12_contains_191 : decode cX12_contains 191 = .ok (.lmul, 1) := by decide +kernel
theorem dX12_contains_192 : decode cX12_contains 192 = .ok (.lload 6, 2) := by decide +kernel
theorem dX12_contains_194 : decode cX12_contains 194 = .ok (.lmul, 1) := by decide +kernel
theorem dX12_contains_195 : decode cX12_contains 195 = .ok (.lcmp, 1) := by decide +kernel
theorem dX12_contains_196 : decode cX12_contains 196 = .ok (.ifCond .gt 7, 3) := by decide +kernel
theorem dX12_contains_199 : decode cX12_contains 199 = .ok (.iconst 1, 1) := by decide +kernel
theorem dX12_contains_200 : decode cX12_contains 200 = .ok (.goto 32, 3) := by decide +kernel
theorem dX12_contains_203 : decode cX12_contains 203 = .ok (.iconst 0, 1) := by decide +kernel
theorem dX12_contains_204 : decode cX12_contains 204 = .ok (.goto 28, 3) := by decide +kernel
theorem dX12_contains_207 : decode cX12_contains 207 = .ok (.lload 8, 2) := by decide +kernel
theorem dX12_contains_209 : decode cX12_contains 209 = .ok (.lload 6, 2) := by decide +kernel
theorem dX12_contains_211 : decode cX12_contains 211 = .ok (.lmul, 1) := by decide +kernel
theorem dX12_contains_212 : decode cX12_contains 212 = .ok (.lload 10, 2) := by decide +kernel
theorem dX12_contains_214 : decode cX12_contains 214 = .ok (.lload 4, 2) := by decide +kernel
theorem dX12_contains_216 : decode cX12_contains 216 = .ok (.lmul, 1) := by decide +kernel
theorem dX12_contains_217 : decode cX12_contains 217 = .ok (.ladd, 1) := by decide +kernel
theorem dX12_contains_218 : decode cX12_contains 218 = .ok (.lload 4, 2) := by decide +kernel
theorem dX12_contains_220 : decode cX12_contains 220 = .ok (.lload 6, 2) := by decide +kernel
theorem dX12_contains_222 : decode cX12_contains 222 = .ok (.lmul, 1) := by decide +kernel
theorem dX12_contains_223 : decode cX12_contains 223 = .ok (.lcmp, 1) := by decide +kernel
theorem dX12_contains_224 : decode cX12_contains 224 = .ok (.ifCond .gt 7, 3) := by decide +kernel
theorem dX12_contains_227 : decode cX12_contains 227 = .ok (.iconst 1, 1) := by decide +kernel
theorem dX12_contains_228 : decode cX12_contains 228 = .ok (.goto 4, 3) := by decide +kernel
theorem dX12_contains_231 : decode cX12_contains 231 = .ok (.iconst 0, 1) := by decide +kernel
theorem dX12_contains_232 : decode cX12_contains 232 = .ok (.ireturn, 1) := by decide +kernel
theorem dX12_at_0 : decode cX12_at 0 = .ok (.iload_n 1, 1) := by decide +kernel
theorem dX12_at_1 : decode cX12_at 1 = .ok (.ldc 136, 2) := by decide +kernel
theorem dX12_at_3 : decode cX12_at 3 = .ok (.ldc 137, 2) := by decide +kernel
theorem dX12_at_5 : decode cX12_at 5 = .ok (.invokestatic 59, 3) := by decide +kernel
theorem dX12_at_8 : decode cX12_at 8 = .ok (.ifCond .eq 14, 3) := by decide +kernel
theorem dX12_at_11 : decode cX12_at 11 = .ok (.iload_n 2, 1) := by decide +kernel
theorem dX12_at_12 : decode cX12_at 12 = .ok (.ldc 136, 2) := by decide +kernel
theorem dX12_at_14 : decode cX12_at 14 = .ok (.ldc 137, 2) := by decide +kernel
theorem dX12_at_16 : decode cX12_at 16 = .ok (.invokestatic 59, 3) := by decide +kernel
theorem dX12_at_19 : decode cX12_at 19 = .ok (.ifCond .ne 5, 3) := by decide +kernel
theorem dX12_at_22 : decode cX12_at 22 = .ok (.iconst (-1), 1) := by decide +kernel
theorem dX12_at_23 : decode cX12_at 23 = .ok (.ireturn, 1) := by decide +kernel
theorem dX12_at_24 : decode cX12_at 24 = .ok (.iconst 0, 1) := by decide +kernel
theorem dX12_at_25 : decode cX12_at 25 = .ok (.istore_n 3, 1) := by decide +kernel
theorem dX12_at_26 : decode cX12_at 26 = .ok (.iload_n 3, 1) := by decide +kernel
theorem dX12_at_27 : decode cX12_at 27 = .ok (.aload_n 0, 1) := by decide +kernel
theorem dX12_at_28 : decode cX12_at 28 = .ok (.getfield 7, 3) := by decide +kernel
theorem dX12_at_31 : decode cX12_at 31 = .ok (.iconst 1, 1) := by decide +kernel
theorem dX12_at_32 : decode cX12_at 32 = .ok (.iaload, 1) := by decide +kernel
theorem dX12_at_33 : decode cX12_at 33 = .ok (.if_icmp .ge 39, 3) := by decide +kernel
theorem dX12_at_36 : decode cX12_at 36 = .ok (.aload_n 0, 1) := by decide +kernel
theorem dX12_at_37 : decode cX12_at 37 = .ok (.aload_n 0, 1) := by decide +kernel
theorem dX12_at_38 : decode cX12_at 38 = .ok (.getfield 7, 3) := by decide +kernel
theorem dX12_at_41 : decode cX12_at 41 = .ok (.sipush 170, 3) := by decide +kernel
theorem dX12_at_44 : decode cX12_at 44 = .ok (.iload_n 3, 1) := by decide +kernel
theorem dX12_at_45 : decode cX12_at 45 = .ok (.iadd, 1) := by decide +kernel
theorem dX12_at_46 : decode cX12_at 46 = .ok (.iaload, 1) := by decide +kernel
theorem dX12_at_47 : decode cX12_at 47 = .ok (.iload_n 1, 1) := by decide +kernel
theorem dX12_at_48 : decode cX12_at 48 = .ok (.iload_n 2, 1) := by decide +kernel
theorem dX12_at_49 : decode cX12_at 49 = .ok (.invokevirtual 138, 3) := by decide +kernel
theorem dX12_at_52 : decode cX12_at 52 = .ok (.ifCond .eq 14, 3) := by decide +kernel
theorem dX12_at_55 : decode cX12_at 55 = .ok (.aload_n 0, 1) := by decide +kernel
theorem dX12_at_56 : decode cX12_at 56 = .ok (.getfield 7, 3) := by decide +kernel
theorem dX12_at_59 : decode cX12_at 59 = .ok (.sipush 170, 3) := by decide +kernel
theorem dX12_at_62 : decode cX12_at 62 = .ok (.iload_n 3, 1) := by decide +kernel
theorem dX12_at_63 : decode cX12_at 63 = .ok (.iadd, 1) := by decide +kernel
theorem dX12_at_64 : decode cX12_at 64 = .ok (.iaload, 1) := by decide +kernel
theorem dX12_at_65 : decode cX12_at 65 = .ok (.ireturn, 1) := by decide +kernel
theorem dX12_at_66 : decode cX12_at 66 = .ok (.iinc 3 1, 3) := by decide +kernel
theorem dX12_at_69 : decode cX12_at 69 = .ok (.goto (-43), 3) := by decide +kernel
theorem dX12_at_72 : decode cX12_at 72 = .ok (.ldc 117, 2) := by decide +kernel
theorem dX12_at_74 : decode cX12_at 74 = .ok (.ireturn, 1) := by decide +kernel
theorem dX12_isLine_0 : decode cX12_isLine 0 = .ok (.iload_n 1, 1) := by decide +kernel
theorem dX12_isLine_1 : decode cX12_isLine 1 = .ok (.iconst 0, 1) := by decide +kernel
theorem dX12_isLine_2 : decode cX12_isLine 2 = .ok (.aload_n 0, 1) := by decide +kernel
theorem dX12_isLine_3 : decode cX12_isLine 3 = .ok (.getfield 7, 3) := by decide +kernel
theorem dX12_isLine_6 : decode cX12_isLine 6 = .ok (.iconst 2, 1) := by decide +kernel
theorem dX12_isLine_7 : decode cX12_isLine 7 = .ok (.iaload, 1) := by decide +kernel
theorem dX12_isLine_8 : decode cX12_isLine 8 = .ok (.iconst 1, 1) := by decide +kernel
theorem dX12_isLine_9 : decode cX12_isLine 9 = .ok (.isub, 1) := by decide +kernel
theorem dX12_isLine_10 : decode cX12_isLine 10 = .ok (.invokestatic 59, 3) := by decide +kernel
theorem dX12_isLine_13 : decode cX12_isLine 13 = .ok (.ireturn, 1) := by decide +kernel
theorem dX12_connect_0 : decode cX12_connect 0 = .ok (.aload_n 0, 1) := by decide +kernel
theorem dX12_connect_1 : decode cX12_connect 1 = .ok (.iload_n 1, 1) := by decide +kernel
theorem dX12_connect_2 : decode cX12_connect 2 = .ok (.invokevirtual 98, 3) := by decide +kernel
theorem dX12_connect_5 : decode cX12_connect 5 = .ok (.ifCond .eq 45, 3) := by decide +kernel
theorem dX12_connect_8 : decode cX12_connect 8 = .ok (.aload_n 0, 1) := by decide +kernel
theorem dX12_connect_9 : decode cX12_connect 9 = .ok (.iload_n 3, 1) := by decide +kernel
theorem dX12_connect_10 : decode cX12_connect 10 = .ok (.invokevirtual 98, 3) := by decide +kernel
theorem dX12_connect_13 : decode cX12_connect 13 = .ok (.ifCond .eq 37, 3) := by decide +kernel
theorem dX12_connect_16 : decode cX12_connect 16 = .ok (.iload_n 1, 1) := by decide +kernel
theorem dX12_connect_17 : decode cX12_connect 17 = .ok (.iload_n 3, 1) := by decide +kernel
theorem dX12_connect_18 : decode cX12_connect 18 = .ok (.if_icmp .eq 32, 3) := by decide +kernel
theorem dX12_connect_21 : decode cX12_connect 21 = .ok (.iload_n 2, 1) := by decide +kernel
theorem dX12_connect_22 : decode cX12_connect 22 = .ok (.iconst 0, 1) := by decide +kernel
theorem dX12_connect_23 : decode cX12_connect 23 = .ok (.iconst 3, 1) := by decide +kernel
theorem dX12_connect_24 : decode cX12_connect 24 = .ok (.invokestatic 59, 3) := by decide +kernel
theorem dX12_connect_27 : decode cX12_connect 27 = .ok (.ifCond .eq 23, 3) := by decide +kernel
theorem dX12_connect_30 : decode cX12_connect 30 = .ok (.iload 4, 2) := by decide +kernel
theorem dX12_connect_32 : decode cX12_connect 32 = .ok (.iconst 0, 1) := by decide +kernel
theorem dX12_connect_33 : decode cX12_connect 33 = .ok (.iconst 3, 1) := by decide +kernel
theorem dX12_connect_34 : decode cX12_connect 34 = .ok (.invokestatic 59, 3) := by decide +kernel
theorem dX12_connect_37 : decode cX12_connect 37 = .ok (.ifCond .eq 13, 3) := by decide +kernel
theorem dX12_connect_40 : decode cX12_connect 40 = .ok (.iload 5, 2) := by decide +kernel
theorem dX12_connect_42 : decode cX12_connect 42 = .ok (.iconst 0, 1) := by decide +kernel
theorem dX12_connect_43 : decode cX12_connect 43 = .ok (.iconst 2, 1) := by decide +kernel
theorem dX12_connect_44 : decode cX12_connect 44 = .ok (.invokestatic 59, 3) := by decide +kernel
theorem dX12_connect_47 : decode cX12_connect 47 = .ok (.ifCond .ne 5, 3) := by decide +kernel
theorem dX12_connect_50 : decode cX12_connect 50 = .ok (.iconst (-1), 1) := by decide +kernel
theorem dX12_connect_51 : decode cX12_connect 51 = .ok (.ireturn, 1) := by decide +kernel
theorem dX12_connect_52 : decode cX12_connect 52 = .ok (.aload_n 0, 1) := by decide +kernel
theorem dX12_connect_53 : decode cX12_connect 53 = .ok (.getfield 7, 3) := by decide +kernel
theorem dX12_connect_56 : decode cX12_connect 56 = .ok (.iconst 2, 1) := by decide +kernel
theorem dX12_connect_57 : decode cX12_connect 57 = .ok (.iaload, 1) := by decide +kernel
theorem dX12_connect_58 : decode cX12_connect 58 = .ok (.bipush 20, 2) := by decide +kernel
theorem dX12_connect_60 : decode cX12_connect 60 = .ok (.if_icmp .ne 6, 3) := by decide +kernel
theorem dX12_connect_63 : decode cX12_connect 63 = .ok (.bipush (-3), 2) := by decide +kernel
theorem dX12_connect_65 : decode cX12_connect 65 = .ok (.ireturn, 1) := by decide +kernel
theorem dX12_connect_66 : decode cX12_connect 66 = .ok (.aload_n 0, 1) := by decide +kernel
theorem dX12_connect_67 : decode cX12_connect 67 = .ok (.invokevirtual 91, 3) := by decide +kernel
theorem dX12_connect_70 : decode cX12_connect 70 = .ok (.sipush 190, 3) := by decide +kernel
theorem dX12_connect_73 : decode cX12_connect 73 = .ok (.iconst 5, 1) := by decide +kernel
theorem dX12_connect_74 : decode cX12_connect 74 = .ok (.aload_n 0, 1) := by decide +kernel
theorem dX12_connect_75 : decode cX12_connect 75 = .ok (.getfield 7, 3) := by decide +kernel
theorem dX12_connect_78 : decode cX12_connect 78 = .ok (.iconst 2, 1) := by decide +kernel
theorem dX12_connect_79 : decode cX12_connect 79 = .ok (.iaload, 1) := by decide +kernel
theorem dX12_connect_80 : decode cX12_connect 80 = .ok (.imul, 1) := by decide +kernel
theorem dX12_connect_81 : decode cX12_connect 81 = .ok (.iadd, 1) := by decide +kernel
theorem dX12_connect_82 : decode cX12_connect 82 = .ok (.istore 6, 2) := by decide +kernel
theorem dX12_connect_84 : decode cX12_connect 84 = .ok (.aload_n 0, 1) := by decide +kernel
theorem dX12_connect_85 : decode cX12_connect 85 = .ok (.getfield 7, 3) := by decide +kernel
theorem dX12_connect_88 : decode cX12_connect 88 = .ok (.iload 6, 2) := by decide +kernel
theorem dX12_connect_90 : decode cX12_connect 90 = .ok (.iload_n 1, 1) := by decide +kernel
theorem dX12_connect_91 : decode cX12_connect 91 = .ok (.iastore, 1) := by decide +kernel
theorem dX12_connect_92 : decode cX12_connect 92 = .ok (.aload_n 0, 1) := by decide +kernel
theorem dX12_connect_93 : decode cX12_connect 93 = .ok (.getfield 7, 3) := by decide +kernel
theorem dX12_connect_96 : decode cX12_connect 96 = .ok (.iload 6, 2) := by decide +kernel
theorem dX12_connect_98 : decode cX12_connect 98 = .ok (.iconst 1, 1) := by decide +kernel
theorem dX12_connect_99 : decode cX12_connect 99 = .ok (.iadd, 1) := by decide +kernel
theorem dX12_connect_100 : decode cX12_connect 100 = .ok (.iload_n 2, 1) := by decide +kernel
theorem dX12_connect_101 : decode cX12_connect 101 = .ok (.iastore, 1) := by decide +kernel
theorem dX12_connect_102 : decode cX12_connect 102 = .ok (.aload_n 0, 1) := by decide +kernel
theorem dX12_connect_103 : decode cX12_connect 103 = .ok (.getfield 7, 3) := by decide +kernel
theorem dX12_connect_106 : decode cX12_connect 106 = .ok (.iload 6, 2) := by decide +kernel
