theorem dX0_init_0 : decode cX0_init 0 = .ok (.aload_n 0, 1) := by decide +kernel
theorem dX0_init_1 : decode cX0_init 1 = .ok (.invokespecial 3, 3) := by decide +kernel
theorem dX0_init_4 : decode cX0_init 4 = .ok (.return_, 1) := by decide +kernel
theorem dX0_copy_0 : decode cX0_copy 0 = .ok (.aload_n 0, 1) := by decide +kernel
theorem dX0_copy_1 : decode cX0_copy 1 = .ok (.aload_n 1, 1) := by decide +kernel
theorem dX0_copy_2 : decode cX0_copy 2 = .ok (.getfield 9, 3) := by decide +kernel
theorem dX0_copy_5 : decode cX0_copy 5 = .ok (.putfield 9, 3) := by decide +kernel
theorem dX0_copy_8 : decode cX0_copy 8 = .ok (.aload_n 0, 1) := by decide +kernel
theorem dX0_copy_9 : decode cX0_copy 9 = .ok (.aload_n 1, 1) := by decide +kernel
theorem dX0_copy_10 : decode cX0_copy 10 = .ok (.getfield 15, 3) := by decide +kernel
theorem dX0_copy_13 : decode cX0_copy 13 = .ok (.putfield 15, 3) := by decide +kernel
theorem dX0_copy_16 : decode cX0_copy 16 = .ok (.aload_n 0, 1) := by decide +kernel
theorem dX0_copy_17 : decode cX0_copy 17 = .ok (.aload_n 1, 1) := by decide +kernel
theorem dX0_copy_18 : decode cX0_copy 18 = .ok (.getfield 18, 3) := by decide +kernel
theorem dX0_copy_21 : decode cX0_copy 21 = .ok (.putfield 18, 3) := by decide +kernel
theorem dX0_copy_24 : decode cX0_copy 24 = .ok (.aload_n 0, 1) := by decide +kernel
theorem dX0_copy_25 : decode cX0_copy 25 = .ok (.aload_n 1, 1) := by decide +kernel
theorem dX0_copy_26 : decode cX0_copy 26 = .ok (.getfield 21, 3) := by decide +kernel
theorem dX0_copy_29 : decode cX0_copy 29 = .ok (.putfield 21, 3) := by decide +kernel
theorem dX0_copy_32 : decode cX0_copy 32 = .ok (.aload_n 0, 1) := by decide +kernel
theorem dX0_copy_33 : decode cX0_copy 33 = .ok (.aload_n 1, 1) := by decide +kernel
theorem dX0_copy_34 : decode cX0_copy 34 = .ok (.getfield 24, 3) := by decide +kernel
theorem dX0_copy_37 : decode cX0_copy 37 = .ok (.putfield 24, 3) := by decide +kernel
theorem dX0_copy_40 : decode cX0_copy 40 = .ok (.return_, 1) := by decide +kernel
theorem dX0_isAt_0 : decode cX0_isAt 0 = .ok (.aload_n 0, 1) := by decide +kernel
theorem dX0_isAt_1 : decode cX0_isAt 1 = .ok (.getfield 9, 3) := by decide +kernel
theorem dX0_isAt_4 : decode cX0_isAt 4 = .ok (.iload_n 1, 1) := by decide +kernel
theorem dX0_isAt_5 : decode cX0_isAt 5 = .ok (.if_icmp .eq 11, 3) := by decide +kernel
theorem dX0_isAt_8 : decode cX0_isAt 8 = .ok (.aload_n 0, 1) := by decide +kernel
theorem dX0_isAt_9 : decode cX0_isAt 9 = .ok (.getfield 18, 3) := by decide +kernel
theorem dX0_isAt_12 : decode cX0_isAt 12 = .ok (.iload_n 1, 1) := by decide +kernel
theorem dX0_isAt_13 : decode cX0_isAt 13 = .ok (.if_icmp .ne 7, 3) := by decide +kernel
theorem dX0_isAt_16 : decode cX0_isAt 16 = .ok (.iconst 1, 1) := by decide +kernel
theorem dX0_isAt_17 : decode cX0_isAt 17 = .ok (.goto 4, 3) := by decide +kernel
theorem dX0_isAt_20 : decode cX0_isAt 20 = .ok (.iconst 0, 1) := by decide +kernel
theorem dX0_isAt_21 : decode cX0_isAt 21 = .ok (.ireturn, 1) := by decide +kernel
theorem dX0_lastPoint_0 : decode cX0_lastPoint 0 = .ok (.aload_n 0, 1) := by decide +kernel
theorem dX0_lastPoint_1 : decode cX0_lastPoint 1 = .ok (.getfield 24, 3) := by decide +kernel
theorem dX0_lastPoint_4 : decode cX0_lastPoint 4 = .ok (.iconst 1, 1) := by decide +kernel
theorem dX0_lastPoint_5 : decode cX0_lastPoint 5 = .ok (.iadd, 1) := by decide +kernel
theorem dX0_lastPoint_6 : decode cX0_lastPoint 6 = .ok (.ireturn, 1) := by decide +kernel
theorem dX0_place_0 : decode cX0_place 0 = .ok (.aload_n 1, 1) := by decide +kernel
theorem dX0_place_1 : decode cX0_place 1 = .ok (.aload_n 0, 1) := by decide +kernel
theorem dX0_place_2 : decode cX0_place 2 = .ok (.getfield 9, 3) := by decide +kernel
theorem dX0_place_5 : decode cX0_place 5 = .ok (.invokevirtual 27, 3) := by decide +kernel
theorem dX0_place_8 : decode cX0_place 8 = .ok (.astore 4, 2) := by decide +kernel
theorem dX0_place_10 : decode cX0_place 10 = .ok (.aload_n 1, 1) := by decide +kernel
theorem dX0_place_11 : decode cX0_place 11 = .ok (.aload_n 0, 1) := by decide +kernel
theorem dX0_place_12 : decode cX0_place 12 = .ok (.getfield 18, 3) := by decide +kernel
theorem dX0_place_15 : decode cX0_place 15 = .ok (.invokevirtual 27, 3) := by decide +kernel
theorem dX0_place_18 : decode cX0_place 18 = .ok (.astore 5, 2) := by decide +kernel
theorem dX0_place_20 : decode cX0_place 20 = .ok (.aload 4, 2) := by decide +kernel
theorem dX0_place_22 : decode cX0_place 22 = .ok (.ifnull 8, 3) := by decide +kernel
theorem dX0_place_25 : decode cX0_place 25 = .ok (.aload 5, 2) := by decide +kernel
theorem dX0_place_27 : decode cX0_place 27 = .ok (.ifnonnull 6, 3) := by decide +kernel
theorem dX0_place_30 : decode cX0_place 30 = .ok (.ldc 33, 2) := by decide +kernel
theorem dX0_place_32 : decode cX0_place 32 = .ok (.ireturn, 1) := by decide +kernel
theorem dX0_place_33 : decode cX0_place 33 = .ok (.aload 4, 2) := by decide +kernel
theorem dX0_place_35 : decode cX0_place 35 = .ok (.aload_n 0, 1) := by decide +kernel
theorem dX0_place_36 : decode cX0_place 36 = .ok (.getfield 15, 3) := by decide +kernel
theorem dX0_place_39 : decode cX0_place 39 = .ok (.iload_n 3, 1) := by decide +kernel
theorem dX0_place_40 : decode cX0_place 40 = .ok (.invokevirtual 34, 3) := by decide +kernel
theorem dX0_place_43 : decode cX0_place 43 = .ok (.istore 6, 2) := by decide +kernel
theorem dX0_place_45 : decode cX0_place 45 = .ok (.aload 5, 2) := by decide +kernel
theorem dX0_place_47 : decode cX0_place 47 = .ok (.aload_n 0, 1) := by decide +kernel
theorem dX0_place_48 : decode cX0_place 48 = .ok (.getfield 21, 3) := by decide +kernel
theorem dX0_place_51 : decode cX0_place 51 = .ok (.iload_n 3, 1) := by decide +kernel
theorem dX0_place_52 : decode cX0_place 52 = .ok (.invokevirtual 34, 3) := by decide +kernel
theorem dX0_place_55 : decode cX0_place 55 = .ok (.istore 7, 2) := by decide +kernel
theorem dX0_place_57 : decode cX0_place 57 = .ok (.iload_n 2, 1) := by decide +kernel
theorem dX0_place_58 : decode cX0_place 58 = .ok (.ifCond .gt 6, 3) := by decide +kernel
theorem dX0_place_61 : decode cX0_place 61 = .ok (.iload 6, 2) := by decide +kernel
theorem dX0_place_63 : decode cX0_place 63 = .ok (.ireturn, 1) := by decide +kernel
theorem dX0_place_64 : decode cX0_place 64 = .ok (.iload_n 2, 1) := by decide +kernel
theorem dX0_place_65 : decode cX0_place 65 = .ok (.aload_n 0, 1) := by decide +kernel
theorem dX0_place_66 : decode cX0_place 66 = .ok (.invokevirtual 40, 3) := by decide +kernel
theorem dX0_place_69 : decode cX0_place 69 = .ok (.if_icmp .lt 6, 3) := by decide +kernel
theorem dX0_place_72 : decode cX0_place 72 = .ok (.iload 7, 2) := by decide +kernel
theorem dX0_place_74 : decode cX0_place 74 = .ok (.ireturn, 1) := by decide +kernel
theorem dX0_place_75 : decode cX0_place 75 = .ok (.aload_n 0, 1) := by decide +kernel
theorem dX0_place_76 : decode cX0_place 76 = .ok (.getfield 15, 3) := by decide +kernel
theorem dX0_place_79 : decode cX0_place 79 = .ok (.iconst 1, 1) := by decide +kernel
theorem dX0_place_80 : decode cX0_place 80 = .ok (.if_icmp .eq 11, 3) := by decide +kernel
theorem dX0_place_83 : decode cX0_place 83 = .ok (.aload_n 0, 1) := by decide +kernel
theorem dX0_place_84 : decode cX0_place 84 = .ok (.getfield 15, 3) := by decide +kernel
theorem dX0_place_87 : decode cX0_place 87 = .ok (.iconst 3, 1) := by decide +kernel
theorem dX0_place_88 : decode cX0_place 88 = .ok (.if_icmp .ne 7, 3) := by decide +kernel
theorem dX0_place_91 : decode cX0_place 91 = .ok (.iconst 0, 1) := by decide +kernel
theorem dX0_place_92 : decode cX0_place 92 = .ok (.goto 4, 3) := by decide +kernel
theorem dX0_place_95 : decode cX0_place 95 = .ok (.iconst 1, 1) := by decide +kernel
theorem dX0_place_96 : decode cX0_place 96 = .ok (.istore 8, 2) := by decide +kernel
theorem dX0_place_98 : decode cX0_place 98 = .ok (.aload_n 0, 1) := by decide +kernel
theorem dX0_place_99 : decode cX0_place 99 = .ok (.getfield 24, 3) := by decide +kernel
theorem dX0_place_102 : decode cX0_place 102 = .ok (.iconst 1, 1) := by decide +kernel
theorem dX0_place_103 : decode cX0_place 103 = .ok (.if_icmp .ne 17, 3) := by decide +kernel
theorem dX0_place_106 : decode cX0_place 106 = .ok (.iload_n 3, 1) := by decide +kernel
theorem dX0_place_107 : decode cX0_place 107 = .ok (.iload 8, 2) := by decide +kernel
theorem dX0_place_109 : decode cX0_place 109 = .ok (.if_icmp .ne 8, 3) := by decide +kernel
theorem dX0_place_112 : decode cX0_place 112 = .ok (.iload 7, 2) := by decide +kernel
theorem dX0_place_114 : decode cX0_place 114 = .ok (.goto 5, 3) := by decide +kernel
theorem dX0_place_117 : decode cX0_place 117 = .ok (.iload 6, 2) := by decide +kernel
theorem dX0_place_119 : decode cX0_place 119 = .ok (.ireturn, 1) := by decide +kernel
theorem dX0_place_120 : decode cX0_place 120 = .ok (.iload_n 3, 1) := by decide +kernel
theorem dX0_place_121 : decode cX0_place 121 = .ok (.iload 8, 2) := by decide +kernel
theorem dX0_place_123 : decode cX0_place 123 = .ok (.if_icmp .ne 13, 3) := by decide +kernel
theorem dX0_place_126 : decode cX0_place 126 = .ok (.iload 6, 2) := by decide +kernel
theorem dX0_place_128 : decode cX0_place 128 = .ok (.iload 7, 2) := by decide +kernel
theorem dX0_place_130 : decode cX0_place 130 = .ok (.iadd, 1) := by decide +kernel
theorem dX0_place_131 : decode cX0_place 131 = .ok (.iconst 2, 1) := by decide +kernel
theorem dX0_place_132 : decode cX0_place 132 = .ok (.invokestatic 44, 3) := by decide +kernel
theorem dX0_place_135 : decode cX0_place 135 = .ok (.ireturn, 1) := by decide +kernel
theorem dX0_place_136 : decode cX0_place 136 = .ok (.iload_n 2, 1) := by decide +kernel
theorem dX0_place_137 : decode cX0_place 137 = .ok (.iconst 1, 1) := by decide +kernel
theorem dX0_place_138 : decode cX0_place 138 = .ok (.if_icmp .ne 8, 3) := by decide +kernel
theorem dX0_place_141 : decode cX0_place 141 = .ok (.iload 6, 2) := by decide +kernel
theorem dX0_place_143 : decode cX0_place 143 = .ok (.goto 5, 3) := by decide +kernel
theorem dX0_place_146 : decode cX0_place 146 = .ok (.iload 7, 2) := by decide +kernel
theorem dX0_place_148 : decode cX0_place 148 = .ok (.ireturn, 1) := by decide +kernel
theorem dX0_extent_0 : decode cX0_extent 0 = .ok (.iconst 0, 1) := by decide +kernel
theorem dX0_extent_1 : decode cX0_extent 1 = .ok (.istore_n 2, 1) := by decide +kernel
theorem dX0_extent_2 : decode cX0_extent 2 = .ok (.iconst 0, 1) := by decide +kernel
theorem dX0_extent_3 : decode cX0_extent 3 = .ok (.istore_n 3, 1) := by decide +kernel
theorem dX0_extent_4 : decode cX0_extent 4 = .ok (.iload_n 3, 1) := by decide +kernel
theorem dX0_extent_5 : decode cX0_extent 5 = .ok (.aload_n 0, 1) := by decide +kernel
theorem dX0_extent_6 : decode cX0_extent 6 = .ok (.invokevirtual 40, 3) := by decide +kernel
theorem dX0_extent_9 : decode cX0_extent 9 = .ok (.if_icmp .ge 55, 3) := by decide +kernel
theorem dX0_extent_12 : decode cX0_extent 12 = .ok (.iload_n 2, 1) := by decide +kernel
theorem dX0_extent_13 : decode cX0_extent 13 = .ok (.aload_n 0, 1) := by decide +kernel
theorem dX0_extent_14 : decode cX0_extent 14 = .ok (.aload_n 1, 1) := by decide +kernel
theorem dX0_extent_15 : decode cX0_extent 15 = .ok (.iload_n 3, 1) := by decide +kernel
theorem dX0_extent_16 : decode cX0_extent 16 = .ok (.iconst 1, 1) := by decide +kernel
theorem dX0_extent_17 : decode cX0_extent 17 = .ok (.iadd, 1) := by decide +kernel
theorem dX0_extent_18 : decode cX0_extent 18 = .ok (.iconst 0, 1) := by decide +kernel
theorem dX0_extent_19 : decode cX0_extent 19 = .ok (.invokevirtual 49, 3) := by decide +kernel
theorem dX0_extent_22 : decode cX0_extent 22 = .ok (.aload_n 0, 1) := by decide +kernel
theorem dX0_extent_23 : decode cX0_extent 23 = .ok (.aload_n 1, 1) := by decide +kernel
theorem dX0_extent_24 : decode cX0_extent 24 = .ok (.iload_n 3, 1) := by decide +kernel
theorem dX0_extent_25 : decode cX0_extent 25 = .ok (.iconst 0, 1) := by decide +kernel
theorem dX0_extent_26 : decode cX0_extent 26 = .ok (.invokevirtual 49, 3) := by decide +kernel
theorem dX0_extent_29 : decode cX0_extent 29 = .ok (.isub, 1) := by decide +kernel
theorem dX0_extent_30 : decode cX0_extent 30 = .ok (.invokestatic 53, 3) := by decide +kernel
theorem dX0_extent_33 : decode cX0_extent 33 = .ok (.iadd, 1) := by decide +kernel
theorem dX0_extent_34 : decode cX0_extent 34 = .ok (.istore_n 2, 1) := by decide +kernel
theorem dX0_extent_35 : decode cX0_extent 35 = .ok (.iload_n 2, 1) := by decide +kernel
theorem dX0_extent_36 : decode cX0_extent 36 = .ok (.aload_n 0, 1) := by decide +kernel
theorem dX0_extent_37 : decode cX0_extent 37 = .ok (.aload_n 1, 1) := by decide +kernel
theorem dX0_extent_38 : decode cX0_extent 38 = .ok (.iload_n 3, 1) := by decide +kernel
theorem dX0_extent_39 : decode cX0_extent 39 = .ok (.iconst 1, 1) := by decide +kernel
theorem dX0_extent_40 : decode cX0_extent 40 = .ok (.iadd, 1) := by decide +kernel
theorem dX0_extent_41 : decode cX0_extent 41 = .ok (.iconst 1, 1) := by decide +kernel
theorem dX0_extent_42 : decode cX0_extent 42 = .ok (.invokevirtual 49, 3) := by decide +kernel
theorem dX0_extent_45 : decode cX0_extent 45 = .ok (.aload_n 0, 1) := by decide +kernel
theorem dX0_extent_46 : decode cX0_extent 46 = .ok (.aload_n 1, 1) := by decide +kernel
theorem dX0_extent_47 : decode cX0_extent 47 = .ok (.iload_n 3, 1) := by decide +kernel
theorem dX0_extent_48 : decode cX0_extent 48 = .ok (.iconst 1, 1) := by decide +kernel
theorem dX0_extent_49 : decode cX0_extent 49 = .ok (.invokevirtual 49, 3) := by decide +kernel
theorem dX0_extent_52 : decode cX0_extent 52 = .ok (.isub, 1) := by decide +kernel
theorem dX0_extent_53 : decode cX0_extent 53 = .ok (.invokestatic 53, 3) := by decide +kernel
theorem dX0_extent_56 : decode cX0_extent 56 = .ok (.iadd, 1) := by decide +kernel
theorem dX0_extent_57 : decode cX0_extent 57 = .ok (.istore_n 2, 1) := by decide +kernel
theorem dX0_extent_58 : decode cX0_extent 58 = .ok (.iinc 3 1, 3) := by decide +kernel
theorem dX0_extent_61 : decode cX0_extent 61 = .ok (.goto (-57), 3) := by decide +kernel
theorem dX0_extent_64 : decode cX0_extent 64 = .ok (.iload_n 2, 1) := by decide +kernel
theorem dX0_extent_65 : decode cX0_extent 65 = .ok (.ireturn, 1) := by decide +kernel
theorem dX0_crossed_0 : decode cX0_crossed 0 = .ok (.iconst 0, 1) := by decide +kernel
theorem dX0_crossed_1 : decode cX0_crossed 1 = .ok (.istore_n 2, 1) := by decide +kernel
theorem dX0_crossed_2 : decode cX0_crossed 2 = .ok (.iconst 0, 1) := by decide +kernel
theorem dX0_crossed_3 : decode cX0_crossed 3 = .ok (.istore_n 3, 1) := by decide +kernel
theorem dX0_crossed_4 : decode cX0_crossed 4 = .ok (.iload_n 3, 1) := by decide +kernel
theorem dX0_crossed_5 : decode cX0_crossed 5 = .ok (.aload_n 0, 1) := by decide +kernel
theorem dX0_crossed_6 : decode cX0_crossed 6 = .ok (.invokevirtual 40, 3) := by decide +kernel
theorem dX0_crossed_9 : decode cX0_crossed 9 = .ok (.if_icmp .ge 110, 3) := by decide +kernel
theorem dX0_crossed_12 : decode cX0_crossed 12 = .ok (.aload_n 0, 1) := by decide +kernel
theorem dX0_crossed_13 : decode cX0_crossed 13 = .ok (.aload_n 1, 1) := by decide +kernel
theorem dX0_crossed_14 : decode cX0_crossed 14 = .ok (.iload_n 3, 1) := by decide +kernel
theorem dX0_crossed_15 : decode cX0_crossed 15 = .ok (.iconst 0, 1) := by decide +kernel
theorem dX0_crossed_16 : decode cX0_crossed 16 = .ok (.invokevirtual 49, 3) := by decide +kernel
theorem dX0_crossed_19 : decode cX0_crossed 19 = .ok (.istore 4, 2) := by decide +kernel
theorem dX0_crossed_21 : decode cX0_crossed 21 = .ok (.aload_n 0, 1) := by decide +kernel
theorem dX0_crossed_22 : decode cX0_crossed 22 = .ok (.aload_n 1, 1) := by decide +kernel
theorem dX0_crossed_23 : decode cX0_crossed 23 = .ok (.iload_n 3, 1) := by decide +kernel
theorem dX0_crossed_24 : decode cX0_crossed 24 = .ok (.iconst 1, 1) := by decide +kernel
theorem dX0_crossed_25 : decode cX0_crossed 25 = .ok (.invokevirtual 49, 3) := by decide +kernel
theorem dX0_crossed_28 : decode cX0_crossed 28 = .ok (.istore 5, 2) := by decide +kernel
theorem dX0_crossed_30 : decode cX0_crossed 30 = .ok (.aload_n 0, 1) := by decide +kernel
theorem dX0_crossed_31 : decode cX0_crossed 31 = .ok (.aload_n 1, 1) := by decide +kernel
theorem dX0_crossed_32 : decode cX0_crossed 32 = .ok (.iload_n 3, 1) := by decide +kernel
theorem dX0_crossed_33 : decode cX0_crossed 33 = .ok (.iconst 1, 1) := by decide +kernel
theorem dX0_crossed_34 : decode cX0_crossed 34 = .ok (.iadd, 1) := by decide +kernel
theorem dX0_crossed_35 : decode cX0_crossed 35 = .ok (.iconst 0, 1) := by decide +kernel
theorem dX0_crossed_36 : decode cX0_crossed 36 = .ok (.invokevirtual 49, 3) := by decide +kernel
theorem dX0_crossed_39 : decode cX0_crossed 39 = .ok (.istore 6, 2) := by decide +kernel
theorem dX0_crossed_41 : decode cX0_crossed 41 = .ok (.aload_n 0, 1) := by decide +kernel
theorem dX0_crossed_42 : decode cX0_crossed 42 = .ok (.aload_n 1, 1) := by decide +kernel
theorem dX0_crossed_43 : decode cX0_crossed 43 = .ok (.iload_n 3, 1) := by decide +kernel
theorem dX0_crossed_44 : decode cX0_crossed 44 = .ok (.iconst 1, 1) := by decide +kernel
theorem dX0_crossed_45 : decode cX0_crossed 45 = .ok (.iadd, 1) := by decide +kernel
theorem dX0_crossed_46 : decode cX0_crossed 46 = .ok (.iconst 1, 1) := by decide +kernel
theorem dX0_crossed_47 : decode cX0_crossed 47 = .ok (.invokevirtual 49, 3) := by decide +kernel
theorem dX0_crossed_50 : decode cX0_crossed 50 = .ok (.istore 7, 2) := by decide +kernel
theorem dX0_crossed_52 : decode cX0_crossed 52 = .ok (.iconst 0, 1) := by decide +kernel
theorem dX0_crossed_53 : decode cX0_crossed 53 = .ok (.istore 8, 2) := by decide +kernel
theorem dX0_crossed_55 : decode cX0_crossed 55 = .ok (.iload 8, 2) := by decide +kernel
theorem dX0_crossed_57 : decode cX0_crossed 57 = .ok (.bipush 20, 2) := by decide +kernel
theorem dX0_crossed_59 : decode cX0_crossed 59 = .ok (.if_icmp .ge 54, 3) := by decide +kernel
theorem dX0_crossed_62 : decode cX0_crossed 62 = .ok (.aload_n 1, 1) := by decide +kernel
theorem dX0_crossed_63 : decode cX0_crossed 63 = .ok (.iload 8, 2) := by decide +kernel
theorem dX0_crossed_65 : decode cX0_crossed 65 = .ok (.invokevirtual 27, 3) := by decide +kernel
theorem dX0_crossed_68 : decode cX0_crossed 68 = .ok (.astore 9, 2) := by decide +kernel
theorem dX0_crossed_70 : decode cX0_crossed 70 = .ok (.aload 9, 2) := by decide +kernel
theorem dX0_crossed_72 : decode cX0_crossed 72 = .ok (.ifnull 35, 3) := by decide +kernel
theorem dX0_crossed_75 : decode cX0_crossed 75 = .ok (.aload_n 0, 1) := by decide +kernel
theorem dX0_crossed_76 : decode cX0_crossed 76 = .ok (.iload 8, 2) := by decide +kernel
theorem dX0_crossed_78 : decode cX0_crossed 78 = .ok (.invokevirtual 57, 3) := by decide +kernel
theorem dX0_crossed_81 : decode cX0_crossed 81 = .ok (.ifCond .ne 26, 3) := by decide +kernel
theorem dX0_crossed_84 : decode cX0_crossed 84 = .ok (.aload 9, 2) := by decide +kernel
theorem dX0_crossed_86 : decode cX0_crossed 86 = .ok (.iload 4, 2) := by decide +kernel
theorem dX0_crossed_88 : decode cX0_crossed 88 = .ok (.iload 5, 2) := by decide +kernel
theorem dX0_crossed_90 : decode cX0_crossed 90 = .ok (.iload 6, 2) := by decide +kernel
theorem dX0_crossed_92 : decode cX0_crossed 92 = .ok (.iload 7, 2) := by decide +kernel
theorem dX0_crossed_94 : decode cX0_crossed 94 = .ok (.invokevirtual 61, 3) := by decide +kernel
theorem dX0_crossed_97 : decode cX0_crossed 97 = .ok (.ifCond .eq 10, 3) := by decide +kernel
theorem dX0_crossed_100 : decode cX0_crossed 100 = .ok (.iload_n 2, 1) := by decide +kernel
theorem dX0_crossed_101 : decode cX0_crossed 101 = .ok (.iconst 1, 1) := by decide +kernel
theorem dX0_crossed_102 : decode cX0_crossed 102 = .ok (.iload 8, 2) := by decide +kernel
theorem dX0_crossed_104 : decode cX0_crossed 104 = .ok (.ishl, 1) := by decide +kernel
theorem dX0_crossed_105 : decode cX0_crossed 105 = .ok (.ior, 1) := by decide +kernel
theorem dX0_crossed_106 : decode cX0_crossed 106 = .ok (.istore_n 2, 1) := by decide +kernel
theorem dX0_crossed_107 : decode cX0_crossed 107 = .ok (.iinc 8 1, 3) := by decide +kernel
theorem dX0_crossed_110 : decode cX0_crossed 110 = .ok (.goto (-55), 3) := by decide +kernel
theorem dX0_crossed_113 : decode cX0_crossed 113 = .ok (.iinc 3 1, 3) := by decide +kernel
theorem dX0_crossed_116 : decode cX0_crossed 116 = .ok (.goto (-112), 3) := by decide +kernel
theorem dX0_crossed_119 : decode cX0_crossed 119 = .ok (.iload_n 2, 1) := by decide +kernel
theorem dX0_crossed_120 : decode cX0_crossed 120 = .ok (.ireturn, 1) := by decide +kernel
theorem dX1_init_0 : decode cX1_init 0 = .ok (.aload_n 0, 1) := by decide +kernel
theorem dX1_init_1 : decode cX1_init 1 = .ok (.invokespecial 3, 3) := by decide +kernel
theorem dX1_init_4 : decode cX1_init 4 = .ok (.aload_n 0, 1) := by decide +kernel
theorem dX1_init_5 : decode cX1_init 5 = .ok (.bipush 20, 2) := by decide +kernel
theorem dX1_init_7 : decode cX1_init 7 = .ok (.anewarray 9, 3) := by decide +kernel
theorem dX1_init_10 : decode cX1_init 10 = .ok (.putfield 11, 3) := by decide +kernel
theorem dX1_init_13 : decode cX1_init 13 = .ok (.iconst 0, 1) := by decide +kernel
theorem dX1_init_14 : decode cX1_init 14 = .ok (.istore_n 1, 1) := by decide +kernel
theorem dX1_init_15 : decode cX1_init 15 = .ok (.iload_n 1, 1) := by decide +kernel
theorem dX1_init_16 : decode cX1_init 16 = .ok (.aload_n 0, 1) := by decide +kernel
theorem dX1_init_17 : decode cX1_init 17 = .ok (.getfield 11, 3) := by decide +kernel
theorem dX1_init_20 : decode cX1_init 20 = .ok (.arraylength, 1) := by decide +kernel
theorem dX1_init_21 : decode cX1_init 21 = .ok (.if_icmp .ge 22, 3) := by decide +kernel
theorem dX1_init_24 : decode cX1_init 24 = .ok (.aload_n 0, 1) := by decide +kernel
theorem dX1_init_25 : decode cX1_init 25 = .ok (.getfield 11, 3) := by decide +kernel
theorem dX1_init_28 : decode cX1_init 28 = .ok (.iload_n 1, 1) := by decide +kernel
theorem dX1_init_29 : decode cX1_init 29 = .ok (.new 9, 3) := by decide +kernel
theorem dX1_init_32 : decode cX1_init 32 = .ok (.dup, 1) := by decide +kernel
theorem dX1_init_33 : decode cX1_init 33 = .ok (.invokespecial 17, 3) := by decide +kernel
theorem dX1_init_36 : decode cX1_init 36 = .ok (.aastore, 1) := by decide +kernel
theorem dX1_init_37 : decode cX1_init 37 = .ok (.iinc 1 1, 3) := by decide +kernel
theorem dX1_init_40 : decode cX1_init 40 = .ok (.goto (-25), 3) := by decide +kernel
theorem dX1_init_43 : decode cX1_init 43 = .ok (.return_, 1) := by decide +kernel
theorem dX1_copy_0 : decode cX1_copy 0 = .ok (.iconst 0, 1) := by decide +kernel
theorem dX1_copy_1 : decode cX1_copy 1 = .ok (.istore_n 2, 1) := by decide +kernel
theorem dX1_copy_2 : decode cX1_copy 2 = .ok (.iload_n 2, 1) := by decide +kernel
theorem dX1_copy_3 : decode cX1_copy 3 = .ok (.aload_n 0, 1) := by decide +kernel
theorem dX1_copy_4 : decode cX1_copy 4 = .ok (.getfield 11, 3) := by decide +kernel
theorem dX1_copy_7 : decode cX1_copy 7 = .ok (.arraylength, 1) := by decide +kernel
theorem dX1_copy_8 : decode cX1_copy 8 = .ok (.if_icmp .ge 51, 3) := by decide +kernel
theorem dX1_copy_11 : decode cX1_copy 11 = .ok (.iload_n 2, 1) := by decide +kernel
theorem dX1_copy_12 : decode cX1_copy 12 = .ok (.aload_n 1, 1) := by decide +kernel
theorem dX1_copy_13 : decode cX1_copy 13 = .ok (.getfield 11, 3) := by decide +kernel
theorem dX1_copy_16 : decode cX1_copy 16 = .ok (.arraylength, 1) := by decide +kernel
theorem dX1_copy_17 : decode cX1_copy 17 = .ok (.if_icmp .ge 42, 3) := by decide +kernel
theorem dX1_copy_20 : decode cX1_copy 20 = .ok (.aload_n 0, 1) := by decide +kernel
theorem dX1_copy_21 : decode cX1_copy 21 = .ok (.getfield 11, 3) := by decide +kernel
theorem dX1_copy_24 : decode cX1_copy 24 = .ok (.iload_n 2, 1) := by decide +kernel
theorem dX1_copy_25 : decode cX1_copy 25 = .ok (.aaload, 1) := by decide +kernel
theorem dX1_copy_26 : decode cX1_copy 26 = .ok (.ifnull 27, 3) := by decide +kernel
theorem dX1_copy_29 : decode cX1_copy 29 = .ok (.aload_n 1, 1) := by decide +kernel
theorem dX1_copy_30 : decode cX1_copy 30 = .ok (.getfield 11, 3) := by decide +kernel
theorem dX1_copy_33 : decode cX1_copy 33 = .ok (.iload_n 2, 1) := by decide +kernel
theorem dX1_copy_34 : decode cX1_copy 34 = .ok (.aaload, 1) := by decide +kernel
theorem dX1_copy_35 : decode cX1_copy 35 = .ok (.ifnull 18, 3) := by decide +kernel
theorem dX1_copy_38 : decode cX1_copy 38 = .ok (.aload_n 0, 1) := by decide +kernel
theorem dX1_copy_39 : decode cX1_copy 39 = .ok (.getfield 11, 3) := by decide +kernel
theorem dX1_copy_42 : decode cX1_copy 42 = .ok (.iload_n 2, 1) := by decide +kernel
theorem dX1_copy_43 : decode cX1_copy 43 = .ok (.aaload, 1) := by decide +kernel
theorem dX1_copy_44 : decode cX1_copy 44 = .ok (.aload_n 1, 1) := by decide +kernel
theorem dX1_copy_45 : decode cX1_copy 45 = .ok (.getfield 11, 3) := by decide +kernel
theorem dX1_copy_48 : decode cX1_copy 48 = .ok (.iload_n 2, 1) := by decide +kernel
theorem dX1_copy_49 : decode cX1_copy 49 = .ok (.aaload, 1) := by decide +kernel
theorem dX1_copy_50 : decode cX1_copy 50 = .ok (.invokevirtual 18, 3) := by decide +kernel
theorem dX1_copy_53 : decode cX1_copy 53 = .ok (.iinc 2 1, 3) := by decide +kernel
theorem dX1_copy_56 : decode cX1_copy 56 = .ok (.goto (-54), 3) := by decide +kernel
theorem dX1_copy_59 : decode cX1_copy 59 = .ok (.aload_n 0, 1) := by decide +kernel
theorem dX1_copy_60 : decode cX1_copy 60 = .ok (.aload_n 1, 1) := by decide +kernel
theorem dX1_copy_61 : decode cX1_copy 61 = .ok (.getfield 22, 3) := by decide +kernel
theorem dX1_copy_64 : decode cX1_copy 64 = .ok (.putfield 22, 3) := by decide +kernel
theorem dX1_copy_67 : decode cX1_copy 67 = .ok (.return_, 1) := by decide +kernel
theorem dX1_find_0 : decode cX1_find 0 = .ok (.iload_n 1, 1) := by decide +kernel
theorem dX1_find_1 : decode cX1_find 1 = .ok (.ifCond .lt 20, 3) := by decide +kernel
theorem dX1_find_4 : decode cX1_find 4 = .ok (.iload_n 1, 1) := by decide +kernel
theorem dX1_find_5 : decode cX1_find 5 = .ok (.aload_n 0, 1) := by decide +kernel
theorem dX1_find_6 : decode cX1_find 6 = .ok (.getfield 22, 3) := by decide +kernel
theorem dX1_find_9 : decode cX1_find 9 = .ok (.if_icmp .ge 12, 3) := by decide +kernel
theorem dX1_find_12 : decode cX1_find 12 = .ok (.iload_n 1, 1) := by decide +kernel
theorem dX1_find_13 : decode cX1_find 13 = .ok (.aload_n 0, 1) := by decide +kernel
theorem dX1_find_14 : decode cX1_find 14 = .ok (.getfield 11, 3) := by decide +kernel
theorem dX1_find_17 : decode cX1_find 17 = .ok (.arraylength, 1) := by decide +kernel
theorem dX1_find_18 : decode cX1_find 18 = .ok (.if_icmp .lt 5, 3) := by decide +kernel
theorem dX1_find_21 : decode cX1_find 21 = .ok (.aconst_null, 1) := by decide +kernel
theorem dX1_find_22 : decode cX1_find 22 = .ok (.areturn, 1) := by decide +kernel
theorem dX1_find_23 : decode cX1_find 23 = .ok (.aload_n 0, 1) := by decide +kernel
theorem dX1_find_24 : decode cX1_find 24 = .ok (.getfield 11, 3) := by decide +kernel
theorem dX1_find_27 : decode cX1_find 27 = .ok (.iload_n 1, 1) := by decide +kernel
theorem dX1_find_28 : decode cX1_find 28 = .ok (.aaload, 1) := by decide +kernel
theorem dX1_find_29 : decode cX1_find 29 = .ok (.areturn, 1) := by decide +kernel
theorem dX1_add_0 : decode cX1_add 0 = .ok (.aload_n 0, 1) := by decide +kernel
theorem dX1_add_1 : decode cX1_add 1 = .ok (.getfield 22, 3) := by decide +kernel
theorem dX1_add_4 : decode cX1_add 4 = .ok (.istore 6, 2) := by decide +kernel
theorem dX1_add_6 : decode cX1_add 6 = .ok (.iload 6, 2) := by decide +kernel
theorem dX1_add_8 : decode cX1_add 8 = .ok (.ifCond .lt 23, 3) := by decide +kernel
theorem dX1_add_11 : decode cX1_add 11 = .ok (.iload 6, 2) := by decide +kernel
theorem dX1_add_13 : decode cX1_add 13 = .ok (.aload_n 0, 1) := by decide +kernel
theorem dX1_add_14 : decode cX1_add 14 = .ok (.getfield 11, 3) := by decide +kernel
theorem dX1_add_17 : decode cX1_add 17 = .ok (.arraylength, 1) := by decide +kernel
theorem dX1_add_18 : decode cX1_add 18 = .ok (.if_icmp .ge 13, 3) := by decide +kernel
theorem dX1_add_21 : decode cX1_add 21 = .ok (.aload_n 0, 1) := by decide +kernel
theorem dX1_add_22 : decode cX1_add 22 = .ok (.getfield 11, 3) := by decide +kernel
theorem dX1_add_25 : decode cX1_add 25 = .ok (.iload 6, 2) := by decide +kernel
theorem dX1_add_27 : decode cX1_add 27 = .ok (.aaload, 1) := by decide +kernel
theorem dX1_add_28 : decode cX1_add 28 = .ok (.ifnonnull 6, 3) := by decide +kernel
theorem dX1_add_31 : decode cX1_add 31 = .ok (.bipush (-3), 2) := by decide +kernel
theorem dX1_add_33 : decode cX1_add 33 = .ok (.ireturn, 1) := by decide +kernel
theorem dX1_add_34 : decode cX1_add 34 = .ok (.aload_n 0, 1) := by decide +kernel
theorem dX1_add_35 : decode cX1_add 35 = .ok (.getfield 11, 3) := by decide +kernel
theorem dX1_add_38 : decode cX1_add 38 = .ok (.iload 6, 2) := by decide +kernel
theorem dX1_add_40 : decode cX1_add 40 = .ok (.aaload, 1) := by decide +kernel
theorem dX1_add_41 : decode cX1_add 41 = .ok (.astore 7, 2) := by decide +kernel
theorem dX1_add_43 : decode cX1_add 43 = .ok (.aload 7, 2) := by decide +kernel
theorem dX1_add_45 : decode cX1_add 45 = .ok (.iload_n 1, 1) := by decide +kernel
theorem dX1_add_46 : decode cX1_add 46 = .ok (.putfield 26, 3) := by decide +kernel
theorem dX1_add_49 : decode cX1_add 49 = .ok (.aload 7, 2) := by decide +kernel
theorem dX1_add_51 : decode cX1_add 51 = .ok (.iload_n 2, 1) := by decide +kernel
theorem dX1_add_52 : decode cX1_add 52 = .ok (.putfield 29, 3) := by decide +kernel
theorem dX1_add_55 : decode cX1_add 55 = .ok (.aload 7, 2) := by decide +kernel
theorem dX1_add_57 : decode cX1_add 57 = .ok (.iload_n 3, 1) := by decide +kernel
theorem dX1_add_58 : decode cX1_add 58 = .ok (.putfield 32, 3) := by decide +kernel
theorem dX1_add_61 : decode cX1_add 61 = .ok (.aload 7, 2) := by decide +kernel
theorem dX1_add_63 : decode cX1_add 63 = .ok (.iload 4, 2) := by decide +kernel
theorem dX1_add_65 : decode cX1_add 65 = .ok (.putfield 35, 3) := by decide +kernel
theorem dX1_add_68 : decode cX1_add 68 = .ok (.aload 7, 2) := by decide +kernel
theorem dX1_add_70 : decode cX1_add 70 = .ok (.iload 5, 2) := by decide +kernel
theorem dX1_add_72 : decode cX1_add 72 = .ok (.putfield 38, 3) := by decide +kernel
theorem dX1_add_75 : decode cX1_add 75 = .ok (.aload_n 0, 1) := by decide +kernel
theorem dX1_add_76 : decode cX1_add 76 = .ok (.dup, 1) := by decide +kernel
theorem dX1_add_77 : decode cX1_add 77 = .ok (.getfield 22, 3) := by decide +kernel
theorem dX1_add_80 : decode cX1_add 80 = .ok (.iconst 1, 1) := by decide +kernel
theorem dX1_add_81 : decode cX1_add 81 = .ok (.iadd, 1) := by decide +kernel
theorem dX1_add_82 : decode cX1_add 82 = .ok (.putfield 22, 3) := by decide +kernel
theorem dX1_add_85 : decode cX1_add 85 = .ok (.iload 6, 2) := by decide +kernel
theorem dX1_add_87 : decode cX1_add 87 = .ok (.ireturn, 1) := by decide +kernel
theorem dX1_drop_0 : decode cX1_drop 0 = .ok (.iload_n 1, 1) := by decide +kernel
theorem dX1_drop_1 : decode cX1_drop 1 = .ok (.istore_n 2, 1) := by decide +kernel
theorem dX1_drop_2 : decode cX1_drop 2 = .ok (.iload_n 2, 1) := by decide +kernel
theorem dX1_drop_3 : decode cX1_drop 3 = .ok (.iconst 1, 1) := by decide +kernel
theorem dX1_drop_4 : decode cX1_drop 4 = .ok (.iadd, 1) := by decide +kernel
theorem dX1_drop_5 : decode cX1_drop 5 = .ok (.aload_n 0, 1) := by decide +kernel
theorem dX1_drop_6 : decode cX1_drop 6 = .ok (.getfield 22, 3) := by decide +kernel
theorem dX1_drop_9 : decode cX1_drop 9 = .ok (.if_icmp .ge 39, 3) := by decide +kernel
theorem dX1_drop_12 : decode cX1_drop 12 = .ok (.aload_n 0, 1) := by decide +kernel
theorem dX1_drop_13 : decode cX1_drop 13 = .ok (.iload_n 2, 1) := by decide +kernel
theorem dX1_drop_14 : decode cX1_drop 14 = .ok (.invokevirtual 41, 3) := by decide +kernel
theorem dX1_drop_17 : decode cX1_drop 17 = .ok (.astore_n 3, 1) := by decide +kernel
theorem dX1_drop_18 : decode cX1_drop 18 = .ok (.aload_n 0, 1) := by decide +kernel
theorem dX1_drop_19 : decode cX1_drop 19 = .ok (.iload_n 2, 1) := by decide +kernel
theorem dX1_drop_20 : decode cX1_drop 20 = .ok (.iconst 1, 1) := by decide +kernel
theorem dX1_drop_21 : decode cX1_drop 21 = .ok (.iadd, 1) := by decide +kernel
theorem dX1_drop_22 : decode cX1_drop 22 = .ok (.invokevirtual 41, 3) := by decide +kernel
theorem dX1_drop_25 : decode cX1_drop 25 = .ok (.astore 4, 2) := by decide +kernel
theorem dX1_drop_27 : decode cX1_drop 27 = .ok (.aload_n 3, 1) := by decide +kernel
theorem dX1_drop_28 : decode cX1_drop 28 = .ok (.ifnull 14, 3) := by decide +kernel
theorem dX1_drop_31 : decode cX1_drop 31 = .ok (.aload 4, 2) := by decide +kernel
theorem dX1_drop_33 : decode cX1_drop 33 = .ok (.ifnull 9, 3) := by decide +kernel
theorem dX1_drop_36 : decode cX1_drop 36 = .ok (.aload_n 3, 1) := by decide +kernel
theorem dX1_drop_37 : decode cX1_drop 37 = .ok (.aload 4, 2) := by decide +kernel
theorem dX1_drop_39 : decode cX1_drop 39 = .ok (.invokevirtual 18, 3) := by decide +kernel
theorem dX1_drop_42 : decode cX1_drop 42 = .ok (.iinc 2 1, 3) := by decide +kernel
theorem dX1_drop_45 : decode cX1_drop 45 = .ok (.goto (-43), 3) := by decide +kernel
theorem dX1_drop_48 : decode cX1_drop 48 = .ok (.aload_n 0, 1) := by decide +kernel
theorem dX1_drop_49 : decode cX1_drop 49 = .ok (.dup, 1) := by decide +kernel
theorem dX1_drop_50 : decode cX1_drop 50 = .ok (.getfield 22, 3) := by decide +kernel
theorem dX1_drop_53 : decode cX1_drop 53 = .ok (.iconst 1, 1) := by decide +kernel
theorem dX1_drop_54 : decode cX1_drop 54 = .ok (.isub, 1) := by decide +kernel
theorem dX1_drop_55 : decode cX1_drop 55 = .ok (.putfield 22, 3) := by decide +kernel
theorem dX1_drop_58 : decode cX1_drop 58 = .ok (.return_, 1) := by decide +kernel
theorem dX1_dropAt_0 : decode cX1_dropAt 0 = .ok (.iconst 0, 1) := by decide +kernel
theorem dX1_dropAt_1 : decode cX1_dropAt 1 = .ok (.istore_n 2, 1) := by decide +kernel
theorem dX1_dropAt_2 : decode cX1_dropAt 2 = .ok (.aload_n 0, 1) := by decide +kernel
theorem dX1_dropAt_3 : decode cX1_dropAt 3 = .ok (.getfield 11, 3) := by decide +kernel
theorem dX1_dropAt_6 : decode cX1_dropAt 6 = .ok (.arraylength, 1) := by decide +kernel
theorem dX1_dropAt_7 : decode cX1_dropAt 7 = .ok (.iconst 1, 1) := by decide +kernel
theorem dX1_dropAt_8 : decode cX1_dropAt 8 = .ok (.isub, 1) := by decide +kernel
theorem dX1_dropAt_9 : decode cX1_dropAt 9 = .ok (.istore_n 3, 1) := by decide +kernel
theorem dX1_dropAt_10 : decode cX1_dropAt 10 = .ok (.iload_n 3, 1) := by decide +kernel
theorem dX1_dropAt_11 : decode cX1_dropAt 11 = .ok (.ifCond .lt 38, 3) := by decide +kernel
theorem dX1_dropAt_14 : decode cX1_dropAt 14 = .ok (.aload_n 0, 1) := by decide +kernel
theorem dX1_dropAt_15 : decode cX1_dropAt 15 = .ok (.iload_n 3, 1) := by decide +kernel
theorem dX1_dropAt_16 : decode cX1_dropAt 16 = .ok (.invokevirtual 41, 3) := by decide +kernel
theorem dX1_dropAt_19 : decode cX1_dropAt 19 = .ok (.astore 4, 2) := by decide +kernel
theorem dX1_dropAt_21 : decode cX1_dropAt 21 = .ok (.aload 4, 2) := by decide +kernel
theorem dX1_dropAt_23 : decode cX1_dropAt 23 = .ok (.ifnull 20, 3) := by decide +kernel
theorem dX1_dropAt_26 : decode cX1_dropAt 26 = .ok (.aload 4, 2) := by decide +kernel
theorem dX1_dropAt_28 : decode cX1_dropAt 28 = .ok (.iload_n 1, 1) := by decide +kernel
theorem dX1_dropAt_29 : decode cX1_dropAt 29 = .ok (.invokevirtual 45, 3) := by decide +kernel
theorem dX1_dropAt_32 : decode cX1_dropAt 32 = .ok (.ifCond .eq 11, 3) := by decide +kernel
theorem dX1_dropAt_35 : decode cX1_dropAt 35 = .ok (.aload_n 0, 1) := by decide +kernel
theorem dX1_dropAt_36 : decode cX1_dropAt 36 = .ok (.iload_n 3, 1) := by decide +kernel
theorem dX1_dropAt_37 : decode cX1_dropAt 37 = .ok (.invokevirtual 49, 3) := by decide +kernel
theorem dX1_dropAt_40 : decode cX1_dropAt 40 = .ok (.iinc 2 1, 3) := by decide +kernel
theorem dX1_dropAt_43 : decode cX1_dropAt 43 = .ok (.iinc 3 (-1), 3) := by decide +kernel
theorem dX1_dropAt_46 : decode cX1_dropAt 46 = .ok (.goto (-36), 3) := by decide +kernel
theorem dX1_dropAt_49 : decode cX1_dropAt 49 = .ok (.iload_n 2, 1) := by decide +kernel
theorem dX1_dropAt_50 : decode cX1_dropAt 50 = .ok (.ireturn, 1) := by decide +kernel
theorem dX1_countAt_0 : decode cX1_countAt 0 = .ok (.iconst 0, 1) := by decide +kernel
theorem dX1_countAt_1 : decode cX1_countAt 1 = .ok (.istore_n 2, 1) := by decide +kernel
theorem dX1_countAt_2 : decode cX1_countAt 2 = .ok (.iconst 0, 1) := by decide +kernel
theorem dX1_countAt_3 : decode cX1_countAt 3 = .ok (.istore_n 3, 1) := by decide +kernel
theorem dX1_countAt_4 : decode cX1_countAt 4 = .ok (.iload_n 3, 1) := by decide +kernel
theorem dX1_countAt_5 : decode cX1_countAt 5 = .ok (.aload_n 0, 1) := by decide +kernel
theorem dX1_countAt_6 : decode cX1_countAt 6 = .ok (.getfield 11, 3) := by decide +kernel
theorem dX1_countAt_9 : decode cX1_countAt 9 = .ok (.arraylength, 1) := by decide +kernel
theorem dX1_countAt_10 : decode cX1_countAt 10 = .ok (.if_icmp .ge 33, 3) := by decide +kernel
theorem dX1_countAt_13 : decode cX1_countAt 13 = .ok (.aload_n 0, 1) := by decide +kernel
theorem dX1_countAt_14 : decode cX1_countAt 14 = .ok (.iload_n 3, 1) := by decide +kernel
theorem dX1_countAt_15 : decode cX1_countAt 15 = .ok (.invokevirtual 41, 3) := by decide +kernel
theorem dX1_countAt_18 : decode cX1_countAt 18 = .ok (.astore 4, 2) := by decide +kernel
theorem dX1_countAt_20 : decode cX1_countAt 20 = .ok (.aload 4, 2) := by decide +kernel
theorem dX1_countAt_22 : decode cX1_countAt 22 = .ok (.ifnull 15, 3) := by decide +kernel
theorem dX1_countAt_25 : decode cX1_countAt 25 = .ok (.aload 4, 2) := by decide +kernel
theorem dX1_countAt_27 : decode cX1_countAt 27 = .ok (.iload_n 1, 1) := by decide +kernel
theorem dX1_countAt_28 : decode cX1_countAt 28 = .ok (.invokevirtual 45, 3) := by decide +kernel
theorem dX1_countAt_31 : decode cX1_countAt 31 = .ok (.ifCond .eq 6, 3) := by decide +kernel
theorem dX1_countAt_34 : decode cX1_countAt 34 = .ok (.iinc 2 1, 3) := by decide +kernel
theorem dX1_countAt_37 : decode cX1_countAt 37 = .ok (.iinc 3 1, 3) := by decide +kernel
theorem dX1_countAt_40 : decode cX1_countAt 40 = .ok (.goto (-36), 3) := by decide +kernel
theorem dX1_countAt_43 : decode cX1_countAt 43 = .ok (.iload_n 2, 1) := by decide +kernel
theorem dX1_countAt_44 : decode cX1_countAt 44 = .ok (.ireturn, 1) := by decide +kernel
theorem dX1_countHalfIn_0 : decode cX1_countHalfIn 0 = .ok (.iconst 0, 1) := by decide +kernel
theorem dX1_countHalfIn_1 : decode cX1_countHalfIn 1 = .ok (.istore_n 2, 1) := by decide +kernel
theorem dX1_countHalfIn_2 : decode cX1_countHalfIn 2 = .ok (.iconst 0, 1) := by decide +kernel
theorem dX1_countHalfIn_3 : decode cX1_countHalfIn 3 = .ok (.istore_n 3, 1) := by decide +kernel
theorem dX1_countHalfIn_4 : decode cX1_countHalfIn 4 = .ok (.iload_n 3, 1) := by decide +kernel
theorem dX1_countHalfIn_5 : decode cX1_countHalfIn 5 = .ok (.aload_n 0, 1) := by decide +kernel
theorem dX1_countHalfIn_6 : decode cX1_countHalfIn 6 = .ok (.getfield 11, 3) := by decide +kernel
theorem dX1_countHalfIn_9 : decode cX1_countHalfIn 9 = .ok (.arraylength, 1) := by decide +kernel
theorem dX1_countHalfIn_10 : decode cX1_countHalfIn 10 = .ok (.if_icmp .ge 45, 3) := by decide +kernel
theorem dX1_countHalfIn_13 : decode cX1_countHalfIn 13 = .ok (.aload_n 0, 1) := by decide +kernel
theorem dX1_countHalfIn_14 : decode cX1_countHalfIn 14 = .ok (.iload_n 3, 1) := by decide +kernel
theorem dX1_countHalfIn_15 : decode cX1_countHalfIn 15 = .ok (.invokevirtual 41, 3) := by decide +kernel
theorem dX1_countHalfIn_18 : decode cX1_countHalfIn 18 = .ok (.astore 4, 2) := by decide +kernel
theorem dX1_countHalfIn_20 : decode cX1_countHalfIn 20 = .ok (.aload 4, 2) := by decide +kernel
theorem dX1_countHalfIn_22 : decode cX1_countHalfIn 22 = .ok (.ifnull 27, 3) := by decide +kernel
theorem dX1_countHalfIn_25 : decode cX1_countHalfIn 25 = .ok (.iload_n 1, 1) := by decide +kernel
theorem dX1_countHalfIn_26 : decode cX1_countHalfIn 26 = .ok (.aload 4, 2) := by decide +kernel
theorem dX1_countHalfIn_28 : decode cX1_countHalfIn 28 = .ok (.getfield 26, 3) := by decide +kernel
theorem dX1_countHalfIn_31 : decode cX1_countHalfIn 31 = .ok (.invokestatic 53, 3) := by decide +kernel
theorem dX1_countHalfIn_34 : decode cX1_countHalfIn 34 = .ok (.iload_n 1, 1) := by decide +kernel
theorem dX1_countHalfIn_35 : decode cX1_countHalfIn 35 = .ok (.aload 4, 2) := by decide +kernel
theorem dX1_countHalfIn_37 : decode cX1_countHalfIn 37 = .ok (.getfield 32, 3) := by decide +kernel
theorem dX1_countHalfIn_40 : decode cX1_countHalfIn 40 = .ok (.invokestatic 53, 3) := by decide +kernel
theorem dX1_countHalfIn_43 : decode cX1_countHalfIn 43 = .ok (.if_icmp .eq 6, 3) := by decide +kernel
theorem dX1_countHalfIn_46 : decode cX1_countHalfIn 46 = .ok (.iinc 2 1, 3) := by decide +kernel
theorem dX1_countHalfIn_49 : decode cX1_countHalfIn 49 = .ok (.iinc 3 1, 3) := by decide +kernel
theorem dX1_countHalfIn_52 : decode cX1_countHalfIn 52 = .ok (.goto (-48), 3) := by decide +kernel
theorem dX1_countHalfIn_55 : decode cX1_countHalfIn 55 = .ok (.iload_n 2, 1) := by decide +kernel
theorem dX1_countHalfIn_56 : decode cX1_countHalfIn 56 = .ok (.ireturn, 1) := by decide +kernel
theorem dX2_init_0 : decode cX2_init 0 = .ok (.aload_n 0, 1) := by decide +kernel
theorem dX2_init_1 : decode cX2_init 1 = .ok (.invokespecial 3, 3) := by decide +kernel
theorem dX2_init_4 : decode cX2_init 4 = .ok (.aload_n 0, 1) := by decide +kernel
theorem dX2_init_5 : decode cX2_init 5 = .ok (.new 9, 3) := by decide +kernel
theorem dX2_init_8 : decode cX2_init 8 = .ok (.dup, 1) := by decide +kernel
theorem dX2_init_9 : decode cX2_init 9 = .ok (.invokespecial 11, 3) := by decide +kernel
theorem dX2_init_12 : decode cX2_init 12 = .ok (.putfield 12, 3) := by decide +kernel
theorem dX2_init_15 : decode cX2_init 15 = .ok (.aload_n 0, 1) := by decide +kernel
theorem dX2_init_16 : decode cX2_init 16 = .ok (.new 18, 3) := by decide +kernel
theorem dX2_init_19 : decode cX2_init 19 = .ok (.dup, 1) := by decide +kernel
theorem dX2_init_20 : decode cX2_init 20 = .ok (.invokespecial 20, 3) := by decide +kernel
theorem dX2_init_23 : decode cX2_init 23 = .ok (.putfield 21, 3) := by decide +kernel
theorem dX2_init_26 : decode cX2_init 26 = .ok (.aload_n 0, 1) := by decide +kernel
theorem dX2_init_27 : decode cX2_init 27 = .ok (.new 25, 3) := by decide +kernel
theorem dX2_init_30 : decode cX2_init 30 = .ok (.dup, 1) := by decide +kernel
theorem dX2_init_31 : decode cX2_init 31 = .ok (.invokespecial 27, 3) := by decide +kernel
theorem dX2_init_34 : decode cX2_init 34 = .ok (.putfield 28, 3) := by decide +kernel
theorem dX2_init_37 : decode cX2_init 37 = .ok (.aload_n 0, 1) := by decide +kernel
theorem dX2_init_38 : decode cX2_init 38 = .ok (.new 32, 3) := by decide +kernel
theorem dX2_init_41 : decode cX2_init 41 = .ok (.dup, 1) := by decide +kernel
theorem dX2_init_42 : decode cX2_init 42 = .ok (.invokespecial 34, 3) := by decide +kernel
theorem dX2_init_45 : decode cX2_init 45 = .ok (.putfield 35, 3) := by decide +kernel
theorem dX2_init_48 : decode cX2_init 48 = .ok (.return_, 1) := by decide +kernel
theorem dX2_copy_0 : decode cX2_copy 0 = .ok (.aload_n 0, 1) := by decide +kernel
theorem dX2_copy_1 : decode cX2_copy 1 = .ok (.getfield 12, 3) := by decide +kernel
theorem dX2_copy_4 : decode cX2_copy 4 = .ok (.aload_n 1, 1) := by decide +kernel
theorem dX2_copy_5 : decode cX2_copy 5 = .ok (.getfield 12, 3) := by decide +kernel
theorem dX2_copy_8 : decode cX2_copy 8 = .ok (.invokevirtual 39, 3) := by decide +kernel
theorem dX2_copy_11 : decode cX2_copy 11 = .ok (.aload_n 0, 1) := by decide +kernel
theorem dX2_copy_12 : decode cX2_copy 12 = .ok (.getfield 21, 3) := by decide +kernel
theorem dX2_copy_15 : decode cX2_copy 15 = .ok (.aload_n 1, 1) := by decide +kernel
theorem dX2_copy_16 : decode cX2_copy 16 = .ok (.getfield 21, 3) := by decide +kernel
theorem dX2_copy_19 : decode cX2_copy 19 = .ok (.invokevirtual 43, 3) := by decide +kernel
theorem dX2_copy_22 : decode cX2_copy 22 = .ok (.aload_n 0, 1) := by decide +kernel
theorem dX2_copy_23 : decode cX2_copy 23 = .ok (.getfield 28, 3) := by decide +kernel
theorem dX2_copy_26 : decode cX2_copy 26 = .ok (.aload_n 1, 1) := by decide +kernel
theorem dX2_copy_27 : decode cX2_copy 27 = .ok (.getfield 28, 3) := by decide +kernel
theorem dX2_copy_30 : decode cX2_copy 30 = .ok (.invokevirtual 46, 3) := by decide +kernel
theorem dX2_copy_33 : decode cX2_copy 33 = .ok (.aload_n 0, 1) := by decide +kernel
theorem dX2_copy_34 : decode cX2_copy 34 = .ok (.getfield 35, 3) := by decide +kernel
theorem dX2_copy_37 : decode cX2_copy 37 = .ok (.aload_n 1, 1) := by decide +kernel
theorem dX2_copy_38 : decode cX2_copy 38 = .ok (.getfield 35, 3) := by decide +kernel
theorem dX2_copy_41 : decode cX2_copy 41 = .ok (.invokevirtual 49, 3) := by decide +kernel
theorem dX2_copy_44 : decode cX2_copy 44 = .ok (.return_, 1) := by decide +kernel
theorem dX2_shapesIn_0 : decode cX2_shapesIn 0 = .ok (.iconst 0, 1) := by decide +kernel
theorem dX2_shapesIn_1 : decode cX2_shapesIn 1 = .ok (.istore_n 2, 1) := by decide +kernel
theorem dX2_shapesIn_2 : decode cX2_shapesIn 2 = .ok (.iconst 0, 1) := by decide +kernel
theorem dX2_shapesIn_3 : decode cX2_shapesIn 3 = .ok (.istore_n 3, 1) := by decide +kernel
theorem dX2_shapesIn_4 : decode cX2_shapesIn 4 = .ok (.iload_n 3, 1) := by decide +kernel
theorem dX2_shapesIn_5 : decode cX2_shapesIn 5 = .ok (.bipush 20, 2) := by decide +kernel
theorem dX2_shapesIn_7 : decode cX2_shapesIn 7 = .ok (.if_icmp .ge 46, 3) := by decide +kernel
theorem dX2_shapesIn_10 : decode cX2_shapesIn 10 = .ok (.aload_n 0, 1) := by decide +kernel
theorem dX2_shapesIn_11 : decode cX2_shapesIn 11 = .ok (.getfield 12, 3) := by decide +kernel
theorem dX2_shapesIn_14 : decode cX2_shapesIn 14 = .ok (.iload_n 3, 1) := by decide +kernel
theorem dX2_shapesIn_15 : decode cX2_shapesIn 15 = .ok (.invokevirtual 52, 3) := by decide +kernel
theorem dX2_shapesIn_18 : decode cX2_shapesIn 18 = .ok (.astore 4, 2) := by decide +kernel
theorem dX2_shapesIn_20 : decode cX2_shapesIn 20 = .ok (.aload 4, 2) := by decide +kernel
theorem dX2_shapesIn_22 : decode cX2_shapesIn 22 = .ok (.ifnull 25, 3) := by decide +kernel
theorem dX2_shapesIn_25 : decode cX2_shapesIn 25 = .ok (.aload_n 0, 1) := by decide +kernel
theorem dX2_shapesIn_26 : decode cX2_shapesIn 26 = .ok (.getfield 28, 3) := by decide +kernel
theorem dX2_shapesIn_29 : decode cX2_shapesIn 29 = .ok (.aload 4, 2) := by decide +kernel
theorem dX2_shapesIn_31 : decode cX2_shapesIn 31 = .ok (.getfield 56, 3) := by decide +kernel
theorem dX2_shapesIn_34 : decode cX2_shapesIn 34 = .ok (.iload_n 1, 1) := by decide +kernel
theorem dX2_shapesIn_35 : decode cX2_shapesIn 35 = .ok (.invokevirtual 62, 3) := by decide +kernel
theorem dX2_shapesIn_38 : decode cX2_shapesIn 38 = .ok (.ifCond .eq 9, 3) := by decide +kernel
theorem dX2_shapesIn_41 : decode cX2_shapesIn 41 = .ok (.iload_n 2, 1) := by decide +kernel
theorem dX2_shapesIn_42 : decode cX2_shapesIn 42 = .ok (.iconst 1, 1) := by decide +kernel
theorem dX2_shapesIn_43 : decode cX2_shapesIn 43 = .ok (.iload_n 3, 1) := by decide +kernel
theorem dX2_shapesIn_44 : decode cX2_shapesIn 44 = .ok (.ishl, 1) := by decide +kernel
theorem dX2_shapesIn_45 : decode cX2_shapesIn 45 = .ok (.ior, 1) := by decide +kernel
theorem dX2_shapesIn_46 : decode cX2_shapesIn 46 = .ok (.istore_n 2, 1) := by decide +kernel
theorem dX2_shapesIn_47 : decode cX2_shapesIn 47 = .ok (.iinc 3 1, 3) := by decide +kernel
theorem dX2_shapesIn_50 : decode cX2_shapesIn 50 = .ok (.goto (-46), 3) := by decide +kernel
theorem dX2_shapesIn_53 : decode cX2_shapesIn 53 = .ok (.iload_n 2, 1) := by decide +kernel
theorem dX2_shapesIn_54 : decode cX2_shapesIn 54 = .ok (.ireturn, 1) := by decide +kernel
theorem dX2_unitOf_0 : decode cX2_unitOf 0 = .ok (.aload_n 0, 1) := by decide +kernel
theorem dX2_unitOf_1 : decode cX2_unitOf 1 = .ok (.getfield 28, 3) := by decide +kernel
theorem dX2_unitOf_4 : decode cX2_unitOf 4 = .ok (.aload_n 2, 1) := by decide +kernel
theorem dX2_unitOf_5 : decode cX2_unitOf 5 = .ok (.getfield 56, 3) := by decide +kernel
theorem dX2_unitOf_8 : decode cX2_unitOf 8 = .ok (.invokevirtual 66, 3) := by decide +kernel
theorem dX2_unitOf_11 : decode cX2_unitOf 11 = .ok (.istore_n 3, 1) := by decide +kernel
theorem dX2_unitOf_12 : decode cX2_unitOf 12 = .ok (.iload_n 3, 1) := by decide +kernel
theorem dX2_unitOf_13 : decode cX2_unitOf 13 = .ok (.ldc 70, 2) := by decide +kernel
theorem dX2_unitOf_15 : decode cX2_unitOf 15 = .ok (.if_icmp .ne 9, 3) := by decide +kernel
theorem dX2_unitOf_18 : decode cX2_unitOf 18 = .ok (.iconst 1, 1) := by decide +kernel
theorem dX2_unitOf_19 : decode cX2_unitOf 19 = .ok (.iload_n 1, 1) := by decide +kernel
theorem dX2_unitOf_20 : decode cX2_unitOf 20 = .ok (.ishl, 1) := by decide +kernel
theorem dX2_unitOf_21 : decode cX2_unitOf 21 = .ok (.goto 8, 3) := by decide +kernel
theorem dX2_unitOf_24 : decode cX2_unitOf 24 = .ok (.aload_n 0, 1) := by decide +kernel
theorem dX2_unitOf_25 : decode cX2_unitOf 25 = .ok (.iload_n 3, 1) := by decide +kernel
theorem dX2_unitOf_26 : decode cX2_unitOf 26 = .ok (.invokevirtual 71, 3) := by decide +kernel
theorem dX2_unitOf_29 : decode cX2_unitOf 29 = .ok (.ireturn, 1) := by decide +kernel
theorem dX2_dropShape_0 : decode cX2_dropShape 0 = .ok (.aload_n 0, 1) := by decide +kernel
theorem dX2_dropShape_1 : decode cX2_dropShape 1 = .ok (.getfield 12, 3) := by decide +kernel
theorem dX2_dropShape_4 : decode cX2_dropShape 4 = .ok (.iload_n 1, 1) := by decide +kernel
theorem dX2_dropShape_5 : decode cX2_dropShape 5 = .ok (.invokevirtual 74, 3) := by decide +kernel
theorem dX2_dropShape_8 : decode cX2_dropShape 8 = .ok (.iconst 0, 1) := by decide +kernel
theorem dX2_dropShape_9 : decode cX2_dropShape 9 = .ok (.istore_n 2, 1) := by decide +kernel
theorem dX2_dropShape_10 : decode cX2_dropShape 10 = .ok (.iload_n 2, 1) := by decide +kernel
theorem dX2_dropShape_11 : decode cX2_dropShape 11 = .ok (.bipush 8, 2) := by decide +kernel
theorem dX2_dropShape_13 : decode cX2_dropShape 13 = .ok (.if_icmp .ge 36, 3) := by decide +kernel
theorem dX2_dropShape_16 : decode cX2_dropShape 16 = .ok (.aload_n 0, 1) := by decide +kernel
theorem dX2_dropShape_17 : decode cX2_dropShape 17 = .ok (.getfield 28, 3) := by decide +kernel
theorem dX2_dropShape_20 : decode cX2_dropShape 20 = .ok (.iload_n 2, 1) := by decide +kernel
theorem dX2_dropShape_21 : decode cX2_dropShape 21 = .ok (.invokevirtual 78, 3) := by decide +kernel
theorem dX2_dropShape_24 : decode cX2_dropShape 24 = .ok (.ifCond .eq 19, 3) := by decide +kernel
theorem dX2_dropShape_27 : decode cX2_dropShape 27 = .ok (.aload_n 0, 1) := by decide +kernel
theorem dX2_dropShape_28 : decode cX2_dropShape 28 = .ok (.iload_n 2, 1) := by decide +kernel
theorem dX2_dropShape_29 : decode cX2_dropShape 29 = .ok (.invokevirtual 71, 3) := by decide +kernel
theorem dX2_dropShape_32 : decode cX2_dropShape 32 = .ok (.ifCond .ne 11, 3) := by decide +kernel
theorem dX2_dropShape_35 : decode cX2_dropShape 35 = .ok (.aload_n 0, 1) := by decide +kernel
theorem dX2_dropShape_36 : decode cX2_dropShape 36 = .ok (.getfield 28, 3) := by decide +kernel
theorem dX2_dropShape_39 : decode cX2_dropShape 39 = .ok (.iload_n 2, 1) := by decide +kernel
theorem dX2_dropShape_40 : decode cX2_dropShape 40 = .ok (.invokevirtual 82, 3) := by decide +kernel
theorem dX2_dropShape_43 : decode cX2_dropShape 43 = .ok (.iinc 2 1, 3) := by decide +kernel
theorem dX2_dropShape_46 : decode cX2_dropShape 46 = .ok (.goto (-36), 3) := by decide +kernel
theorem dX2_dropShape_49 : decode cX2_dropShape 49 = .ok (.aload_n 0, 1) := by decide +kernel
theorem dX2_dropShape_50 : decode cX2_dropShape 50 = .ok (.getfield 21, 3) := by decide +kernel
theorem dX2_dropShape_53 : decode cX2_dropShape 53 = .ok (.iload_n 1, 1) := by decide +kernel
theorem dX2_dropShape_54 : decode cX2_dropShape 54 = .ok (.invokevirtual 83, 3) := by decide +kernel
theorem dX2_dropShape_57 : decode cX2_dropShape 57 = .ok (.ireturn, 1) := by decide +kernel
theorem dX2_joinChosen_0 : decode cX2_joinChosen 0 = .ok (.aload_n 0, 1) := by decide +kernel
theorem dX2_joinChosen_1 : decode cX2_joinChosen 1 = .ok (.getfield 28, 3) := by decide +kernel
theorem dX2_joinChosen_4 : decode cX2_joinChosen 4 = .ok (.iload_n 1, 1) := by decide +kernel
theorem dX2_joinChosen_5 : decode cX2_joinChosen 5 = .ok (.invokevirtual 86, 3) := by decide +kernel
theorem dX2_joinChosen_8 : decode cX2_joinChosen 8 = .ok (.iconst 0, 1) := by decide +kernel
theorem dX2_joinChosen_9 : decode cX2_joinChosen 9 = .ok (.istore_n 2, 1) := by decide +kernel
theorem dX2_joinChosen_10 : decode cX2_joinChosen 10 = .ok (.iload_n 2, 1) := by decide +kernel
theorem dX2_joinChosen_11 : decode cX2_joinChosen 11 = .ok (.bipush 20, 2) := by decide +kernel
theorem dX2_joinChosen_13 : decode cX2_joinChosen 13 = .ok (.if_icmp .ge 83, 3) := by decide +kernel
theorem dX2_joinChosen_16 : decode cX2_joinChosen 16 = .ok (.aload_n 0, 1) := by decide +kernel
theorem dX2_joinChosen_17 : decode cX2_joinChosen 17 = .ok (.getfield 12, 3) := by decide +kernel
theorem dX2_joinChosen_20 : decode cX2_joinChosen 20 = .ok (.iload_n 2, 1) := by decide +kernel
theorem dX2_joinChosen_21 : decode cX2_joinChosen 21 = .ok (.invokevirtual 52, 3) := by decide +kernel
theorem dX2_joinChosen_24 : decode cX2_joinChosen 24 = .ok (.astore_n 3, 1) := by decide +kernel
theorem dX2_joinChosen_25 : decode cX2_joinChosen 25 = .ok (.aload_n 3, 1) := by decide +kernel
theorem dX2_joinChosen_26 : decode cX2_joinChosen 26 = .ok (.ifnull 64, 3) := by decide +kernel
theorem dX2_joinChosen_29 : decode cX2_joinChosen 29 = .ok (.aload_n 0, 1) := by decide +kernel
theorem dX2_joinChosen_30 : decode cX2_joinChosen 30 = .ok (.getfield 12, 3) := by decide +kernel
theorem dX2_joinChosen_33 : decode cX2_joinChosen 33 = .ok (.getfield 89, 3) := by decide +kernel
theorem dX2_joinChosen_36 : decode cX2_joinChosen 36 = .ok (.iload_n 2, 1) := by decide +kernel
theorem dX2_joinChosen_37 : decode cX2_joinChosen 37 = .ok (.invokestatic 92, 3) := by decide +kernel
theorem dX2_joinChosen_40 : decode cX2_joinChosen 40 = .ok (.ifCond .ne 6, 3) := by decide +kernel
theorem dX2_joinChosen_43 : decode cX2_joinChosen 43 = .ok (.goto 47, 3) := by decide +kernel
theorem dX2_joinChosen_46 : decode cX2_joinChosen 46 = .ok (.aload_n 0, 1) := by decide +kernel
theorem dX2_joinChosen_47 : decode cX2_joinChosen 47 = .ok (.getfield 28, 3) := by decide +kernel
theorem dX2_joinChosen_50 : decode cX2_joinChosen 50 = .ok (.aload_n 3, 1) := by decide +kernel
theorem dX2_joinChosen_51 : decode cX2_joinChosen 51 = .ok (.getfield 56, 3) := by decide +kernel
theorem dX2_joinChosen_54 : decode cX2_joinChosen 54 = .ok (.invokevirtual 66, 3) := by decide +kernel
theorem dX2_joinChosen_57 : decode cX2_joinChosen 57 = .ok (.istore 4, 2) := by decide +kernel
theorem dX2_joinChosen_59 : decode cX2_joinChosen 59 = .ok (.iload 4, 2) := by decide +kernel
theorem dX2_joinChosen_61 : decode cX2_joinChosen 61 = .ok (.ldc 70, 2) := by decide +kernel
theorem dX2_joinChosen_63 : decode cX2_joinChosen 63 = .ok (.if_icmp .ne 11, 3) := by decide +kernel
theorem dX2_joinChosen_66 : decode cX2_joinChosen 66 = .ok (.aload_n 3, 1) := by decide +kernel
theorem dX2_joinChosen_67 : decode cX2_joinChosen 67 = .ok (.iload_n 1, 1) := by decide +kernel
theorem dX2_joinChosen_68 : decode cX2_joinChosen 68 = .ok (.putfield 56, 3) := by decide +kernel
theorem dX2_joinChosen_71 : decode cX2_joinChosen 71 = .ok (.goto 19, 3) := by decide +kernel
theorem dX2_joinChosen_74 : decode cX2_joinChosen 74 = .ok (.iload 4, 2) := by decide +kernel
theorem dX2_joinChosen_76 : decode cX2_joinChosen 76 = .ok (.iload_n 1, 1) := by decide +kernel
theorem dX2_joinChosen_77 : decode cX2_joinChosen 77 = .ok (.if_icmp .eq 13, 3) := by decide +kernel
theorem dX2_joinChosen_80 : decode cX2_joinChosen 80 = .ok (.aload_n 0, 1) := by decide +kernel
theorem dX2_joinChosen_81 : decode cX2_joinChosen 81 = .ok (.getfield 28, 3) := by decide +kernel
theorem dX2_joinChosen_84 : decode cX2_joinChosen 84 = .ok (.iload 4, 2) := by decide +kernel
theorem dX2_joinChosen_86 : decode cX2_joinChosen 86 = .ok (.iload_n 1, 1) := by decide +kernel
theorem dX2_joinChosen_87 : decode cX2_joinChosen 87 = .ok (.invokevirtual 95, 3) := by decide +kernel
theorem dX2_joinChosen_90 : decode cX2_joinChosen 90 = .ok (.iinc 2 1, 3) := by decide +kernel
theorem dX2_joinChosen_93 : decode cX2_joinChosen 93 = .ok (.goto (-83), 3) := by decide +kernel
theorem dX2_joinChosen_96 : decode cX2_joinChosen 96 = .ok (.return_, 1) := by decide +kernel
theorem dX2_endGroup_0 : decode cX2_endGroup 0 = .ok (.aload_n 0, 1) := by decide +kernel
theorem dX2_endGroup_1 : decode cX2_endGroup 1 = .ok (.getfield 28, 3) := by decide +kernel
theorem dX2_endGroup_4 : decode cX2_endGroup 4 = .ok (.iload_n 1, 1) := by decide +kernel
theorem dX2_endGroup_5 : decode cX2_endGroup 5 = .ok (.invokevirtual 99, 3) := by decide +kernel
theorem dX2_endGroup_8 : decode cX2_endGroup 8 = .ok (.istore_n 2, 1) := by decide +kernel
theorem dX2_endGroup_9 : decode cX2_endGroup 9 = .ok (.iconst 0, 1) := by decide +kernel
theorem dX2_endGroup_10 : decode cX2_endGroup 10 = .ok (.istore_n 3, 1) := by decide +kernel
theorem dX2_endGroup_11 : decode cX2_endGroup 11 = .ok (.iconst 0, 1) := by decide +kernel
theorem dX2_endGroup_12 : decode cX2_endGroup 12 = .ok (.istore 4, 2) := by decide +kernel
theorem dX2_endGroup_14 : decode cX2_endGroup 14 = .ok (.iload 4, 2) := by decide +kernel
theorem dX2_endGroup_16 : decode cX2_endGroup 16 = .ok (.bipush 20, 2) := by decide +kernel
theorem dX2_endGroup_18 : decode cX2_endGroup 18 = .ok (.if_icmp .ge 43, 3) := by decide +kernel
theorem dX2_endGroup_21 : decode cX2_endGroup 21 = .ok (.aload_n 0, 1) := by decide +kernel
theorem dX2_endGroup_22 : decode cX2_endGroup 22 = .ok (.getfield 12, 3) := by decide +kernel
theorem dX2_endGroup_25 : decode cX2_endGroup 25 = .ok (.iload 4, 2) := by decide +kernel
theorem dX2_endGroup_27 : decode cX2_endGroup 27 = .ok (.invokevirtual 52, 3) := by decide +kernel
theorem dX2_endGroup_30 : decode cX2_endGroup 30 = .ok (.astore 5, 2) := by decide +kernel
theorem dX2_endGroup_32 : decode cX2_endGroup 32 = .ok (.aload 5, 2) := by decide +kernel
theorem dX2_endGroup_34 : decode cX2_endGroup 34 = .ok (.ifnull 21, 3) := by decide +kernel
theorem dX2_endGroup_37 : decode cX2_endGroup 37 = .ok (.aload 5, 2) := by decide +kernel
theorem dX2_endGroup_39 : decode cX2_endGroup 39 = .ok (.getfield 56, 3) := by decide +kernel
theorem dX2_endGroup_42 : decode cX2_endGroup 42 = .ok (.iload_n 1, 1) := by decide +kernel
theorem dX2_endGroup_43 : decode cX2_endGroup 43 = .ok (.if_icmp .ne 12, 3) := by decide +kernel
theorem dX2_endGroup_46 : decode cX2_endGroup 46 = .ok (.aload 5, 2) := by decide +kernel
theorem dX2_endGroup_48 : decode cX2_endGroup 48 = .ok (.iload_n 2, 1) := by decide +kernel
theorem dX2_endGroup_49 : decode cX2_endGroup 49 = .ok (.putfield 56, 3) := by decide +kernel
theorem dX2_endGroup_52 : decode cX2_endGroup 52 = .ok (.iinc 3 1, 3) := by decide +kernel
theorem dX2_endGroup_55 : decode cX2_endGroup 55 = .ok (.iinc 4 1, 3) := by decide +kernel
theorem dX2_endGroup_58 : decode cX2_endGroup 58 = .ok (.goto (-44), 3) := by decide +kernel
theorem dX2_endGroup_61 : decode cX2_endGroup 61 = .ok (.iconst 0, 1) := by decide +kernel
theorem dX2_endGroup_62 : decode cX2_endGroup 62 = .ok (.istore 4, 2) := by decide +kernel
theorem dX2_endGroup_64 : decode cX2_endGroup 64 = .ok (.iload 4, 2) := by decide +kernel
theorem dX2_endGroup_66 : decode cX2_endGroup 66 = .ok (.bipush 8, 2) := by decide +kernel
theorem dX2_endGroup_68 : decode cX2_endGroup 68 = .ok (.if_icmp .ge 35, 3) := by decide +kernel
theorem dX2_endGroup_71 : decode cX2_endGroup 71 = .ok (.aload_n 0, 1) := by decide +kernel
theorem dX2_endGroup_72 : decode cX2_endGroup 72 = .ok (.getfield 28, 3) := by decide +kernel
theorem dX2_endGroup_75 : decode cX2_endGroup 75 = .ok (.iload 4, 2) := by decide +kernel
theorem dX2_endGroup_77 : decode cX2_endGroup 77 = .ok (.invokevirtual 99, 3) := by decide +kernel
theorem dX2_endGroup_80 : decode cX2_endGroup 80 = .ok (.iload_n 1, 1) := by decide +kernel
theorem dX2_endGroup_81 : decode cX2_endGroup 81 = .ok (.if_icmp .ne 16, 3) := by decide +kernel
theorem dX2_endGroup_84 : decode cX2_endGroup 84 = .ok (.aload_n 0, 1) := by decide +kernel
theorem dX2_endGroup_85 : decode cX2_endGroup 85 = .ok (.getfield 28, 3) := by decide +kernel
theorem dX2_endGroup_88 : decode cX2_endGroup 88 = .ok (.iload 4, 2) := by decide +kernel
theorem dX2_endGroup_90 : decode cX2_endGroup 90 = .ok (.iload_n 2, 1) := by decide +kernel
theorem dX2_endGroup_91 : decode cX2_endGroup 91 = .ok (.invokevirtual 95, 3) := by decide +kernel
theorem dX2_endGroup_94 : decode cX2_endGroup 94 = .ok (.iinc 3 1, 3) := by decide +kernel
theorem dX2_endGroup_97 : decode cX2_endGroup 97 = .ok (.iinc 4 1, 3) := by decide +kernel
theorem dX2_endGroup_100 : decode cX2_endGroup 100 = .ok (.goto (-36), 3) := by decide +kernel
theorem dX2_endGroup_103 : decode cX2_endGroup 103 = .ok (.aload_n 0, 1) := by decide +kernel
theorem dX2_endGroup_104 : decode cX2_endGroup 104 = .ok (.getfield 28, 3) := by decide +kernel
theorem dX2_endGroup_107 : decode cX2_endGroup 107 = .ok (.iload_n 1, 1) := by decide +kernel
theorem dX2_endGroup_108 : decode cX2_endGroup 108 = .ok (.invokevirtual 82, 3) := by decide +kernel
theorem dX2_endGroup_111 : decode cX2_endGroup 111 = .ok (.iload_n 3, 1) := by decide +kernel
theorem dX2_endGroup_112 : decode cX2_endGroup 112 = .ok (.ireturn, 1) := by decide +kernel
theorem dX3_init_0 : decode cX3_init 0 = .ok (.aload_n 0, 1) := by decide +kernel
theorem dX3_init_1 : decode cX3_init 1 = .ok (.invokespecial 3, 3) := by decide +kernel
theorem dX3_init_4 : decode cX3_init 4 = .ok (.aload_n 0, 1) := by decide +kernel
theorem dX3_init_5 : decode cX3_init 5 = .ok (.bipush 8, 2) := by decide +kernel
theorem dX3_init_7 : decode cX3_init 7 = .ok (.newarray .boolean, 2) := by decide +kernel
theorem dX3_init_9 : decode cX3_init 9 = .ok (.putfield 9, 3) := by decide +kernel
theorem dX3_init_12 : decode cX3_init 12 = .ok (.aload_n 0, 1) := by decide +kernel
theorem dX3_init_13 : decode cX3_init 13 = .ok (.bipush 8, 2) := by decide +kernel
theorem dX3_init_15 : decode cX3_init 15 = .ok (.newarray .int, 2) := by decide +kernel
theorem dX3_init_17 : decode cX3_init 17 = .ok (.putfield 15, 3) := by decide +kernel
theorem dX3_init_20 : decode cX3_init 20 = .ok (.return_, 1) := by decide +kernel
theorem dX3_copy_0 : decode cX3_copy 0 = .ok (.iconst 0, 1) := by decide +kernel
theorem dX3_copy_1 : decode cX3_copy 1 = .ok (.istore_n 2, 1) := by decide +kernel
theorem dX3_copy_2 : decode cX3_copy 2 = .ok (.iload_n 2, 1) := by decide +kernel
theorem dX3_copy_3 : decode cX3_copy 3 = .ok (.bipush 8, 2) := by decide +kernel
theorem dX3_copy_5 : decode cX3_copy 5 = .ok (.if_icmp .ge 24, 3) := by decide +kernel
theorem dX3_copy_8 : decode cX3_copy 8 = .ok (.aload_n 0, 1) := by decide +kernel
theorem dX3_copy_9 : decode cX3_copy 9 = .ok (.iload_n 2, 1) := by decide +kernel
theorem dX3_copy_10 : decode cX3_copy 10 = .ok (.aload_n 1, 1) := by decide +kernel
theorem dX3_copy_11 : decode cX3_copy 11 = .ok (.iload_n 2, 1) := by decide +kernel
theorem dX3_copy_12 : decode cX3_copy 12 = .ok (.invokevirtual 19, 3) := by decide +kernel
theorem dX3_copy_15 : decode cX3_copy 15 = .ok (.aload_n 1, 1) := by decide +kernel
theorem dX3_copy_16 : decode cX3_copy 16 = .ok (.iload_n 2, 1) := by decide +kernel
theorem dX3_copy_17 : decode cX3_copy 17 = .ok (.invokevirtual 23, 3) := by decide +kernel
theorem dX3_copy_20 : decode cX3_copy 20 = .ok (.invokevirtual 27, 3) := by decide +kernel
theorem dX3_copy_23 : decode cX3_copy 23 = .ok (.iinc 2 1, 3) := by decide +kernel
theorem dX3_copy_26 : decode cX3_copy 26 = .ok (.goto (-24), 3) := by decide +kernel
theorem dX3_copy_29 : decode cX3_copy 29 = .ok (.return_, 1) := by decide +kernel
theorem dX3_has_0 : decode cX3_has 0 = .ok (.iload_n 1, 1) := by decide +kernel
theorem dX3_has_1 : decode cX3_has 1 = .ok (.ifCond .lt 25, 3) := by decide +kernel
theorem dX3_has_4 : decode cX3_has 4 = .ok (.iload_n 1, 1) := by decide +kernel
theorem dX3_has_5 : decode cX3_has 5 = .ok (.aload_n 0, 1) := by decide +kernel
theorem dX3_has_6 : decode cX3_has 6 = .ok (.getfield 9, 3) := by decide +kernel
theorem dX3_has_9 : decode cX3_has 9 = .ok (.arraylength, 1) := by decide +kernel
theorem dX3_has_10 : decode cX3_has 10 = .ok (.if_icmp .ge 16, 3) := by decide +kernel
theorem dX3_has_13 : decode cX3_has 13 = .ok (.aload_n 0, 1) := by decide +kernel
theorem dX3_has_14 : decode cX3_has 14 = .ok (.getfield 9, 3) := by decide +kernel
theorem dX3_has_17 : decode cX3_has 17 = .ok (.iload_n 1, 1) := by decide +kernel
theorem dX3_has_18 : decode cX3_has 18 = .ok (.baload, 1) := by decide +kernel
theorem dX3_has_19 : decode cX3_has 19 = .ok (.ifCond .eq 7, 3) := by decide +kernel
theorem dX3_has_22 : decode cX3_has 22 = .ok (.iconst 1, 1) := by decide +kernel
theorem dX3_has_23 : decode cX3_has 23 = .ok (.goto 4, 3) := by decide +kernel
theorem dX3_has_26 : decode cX3_has 26 = .ok (.iconst 0, 1) := by decide +kernel
theorem dX3_has_27 : decode cX3_has 27 = .ok (.ireturn, 1) := by decide +kernel
theorem dX3_homeOf_0 : decode cX3_homeOf 0 = .ok (.aload_n 0, 1) := by decide +kernel
theorem dX3_homeOf_1 : decode cX3_homeOf 1 = .ok (.iload_n 1, 1) := by decide +kernel
theorem dX3_homeOf_2 : decode cX3_homeOf 2 = .ok (.invokevirtual 19, 3) := by decide +kernel
theorem dX3_homeOf_5 : decode cX3_homeOf 5 = .ok (.ifCond .eq 21, 3) := by decide +kernel
theorem dX3_homeOf_8 : decode cX3_homeOf 8 = .ok (.iload_n 1, 1) := by decide +kernel
theorem dX3_homeOf_9 : decode cX3_homeOf 9 = .ok (.aload_n 0, 1) := by decide +kernel
theorem dX3_homeOf_10 : decode cX3_homeOf 10 = .ok (.getfield 15, 3) := by decide +kernel
theorem dX3_homeOf_13 : decode cX3_homeOf 13 = .ok (.arraylength, 1) := by decide +kernel
theorem dX3_homeOf_14 : decode cX3_homeOf 14 = .ok (.if_icmp .ge 12, 3) := by decide +kernel
theorem dX3_homeOf_17 : decode cX3_homeOf 17 = .ok (.aload_n 0, 1) := by decide +kernel
theorem dX3_homeOf_18 : decode cX3_homeOf 18 = .ok (.getfield 15, 3) := by decide +kernel
theorem dX3_homeOf_21 : decode cX3_homeOf 21 = .ok (.iload_n 1, 1) := by decide +kernel
theorem dX3_homeOf_22 : decode cX3_homeOf 22 = .ok (.iaload, 1) := by decide +kernel
theorem dX3_homeOf_23 : decode cX3_homeOf 23 = .ok (.goto 5, 3) := by decide +kernel
theorem dX3_homeOf_26 : decode cX3_homeOf 26 = .ok (.ldc 31, 2) := by decide +kernel
theorem dX3_homeOf_28 : decode cX3_homeOf 28 = .ok (.ireturn, 1) := by decide +kernel
theorem dX3_put_0 : decode cX3_put 0 = .ok (.iload_n 1, 1) := by decide +kernel
theorem dX3_put_1 : decode cX3_put 1 = .ok (.ifCond .lt 35, 3) := by decide +kernel
theorem dX3_put_4 : decode cX3_put 4 = .ok (.iload_n 1, 1) := by decide +kernel
theorem dX3_put_5 : decode cX3_put 5 = .ok (.aload_n 0, 1) := by decide +kernel
theorem dX3_put_6 : decode cX3_put 6 = .ok (.getfield 9, 3) := by decide +kernel
theorem dX3_put_9 : decode cX3_put 9 = .ok (.arraylength, 1) := by decide +kernel
theorem dX3_put_10 : decode cX3_put 10 = .ok (.if_icmp .ge 26, 3) := by decide +kernel
theorem dX3_put_13 : decode cX3_put 13 = .ok (.iload_n 1, 1) := by decide +kernel
theorem dX3_put_14 : decode cX3_put 14 = .ok (.aload_n 0, 1) := by decide +kernel
theorem dX3_put_15 : decode cX3_put 15 = .ok (.getfield 15, 3) := by decide +kernel
theorem dX3_put_18 : decode cX3_put 18 = .ok (.arraylength, 1) := by decide +kernel
theorem dX3_put_19 : decode cX3_put 19 = .ok (.if_icmp .ge 17, 3) := by decide +kernel
theorem dX3_put_22 : decode cX3_put 22 = .ok (.aload_n 0, 1) := by decide +kernel
theorem dX3_put_23 : decode cX3_put 23 = .ok (.getfield 9, 3) := by decide +kernel
theorem dX3_put_26 : decode cX3_put 26 = .ok (.iload_n 1, 1) := by decide +kernel
theorem dX3_put_27 : decode cX3_put 27 = .ok (.iload_n 2, 1) := by decide +kernel
theorem dX3_put_28 : decode cX3_put 28 = .ok (.bastore, 1) := by decide +kernel
theorem dX3_put_29 : decode cX3_put 29 = .ok (.aload_n 0, 1) := by decide +kernel
theorem dX3_put_30 : decode cX3_put 30 = .ok (.getfield 15, 3) := by decide +kernel
theorem dX3_put_33 : decode cX3_put 33 = .ok (.iload_n 1, 1) := by decide +kernel
theorem dX3_put_34 : decode cX3_put 34 = .ok (.iload_n 3, 1) := by decide +kernel
theorem dX3_put_35 : decode cX3_put 35 = .ok (.iastore, 1) := by decide +kernel
theorem dX3_put_36 : decode cX3_put 36 = .ok (.return_, 1) := by decide +kernel
theorem dX3_add_0 : decode cX3_add 0 = .ok (.aload_n 0, 1) := by decide +kernel
theorem dX3_add_1 : decode cX3_add 1 = .ok (.iload_n 1, 1) := by decide +kernel
theorem dX3_add_2 : decode cX3_add 2 = .ok (.iconst 1, 1) := by decide +kernel
theorem dX3_add_3 : decode cX3_add 3 = .ok (.ldc 31, 2) := by decide +kernel
theorem dX3_add_5 : decode cX3_add 5 = .ok (.invokevirtual 27, 3) := by decide +kernel
theorem dX3_add_8 : decode cX3_add 8 = .ok (.return_, 1) := by decide +kernel
theorem dX3_drop_0 : decode cX3_drop 0 = .ok (.aload_n 0, 1) := by decide +kernel
theorem dX3_drop_1 : decode cX3_drop 1 = .ok (.iload_n 1, 1) := by decide +kernel
theorem dX3_drop_2 : decode cX3_drop 2 = .ok (.iconst 0, 1) := by decide +kernel
theorem dX3_drop_3 : decode cX3_drop 3 = .ok (.ldc 31, 2) := by decide +kernel
theorem dX3_drop_5 : decode cX3_drop 5 = .ok (.invokevirtual 27, 3) := by decide +kernel
theorem dX3_drop_8 : decode cX3_drop 8 = .ok (.return_, 1) := by decide +kernel
theorem dX3_join_0 : decode cX3_join 0 = .ok (.aload_n 0, 1) := by decide +kernel
theorem dX3_join_1 : decode cX3_join 1 = .ok (.iload_n 1, 1) := by decide +kernel
theorem dX3_join_2 : decode cX3_join 2 = .ok (.invokevirtual 19, 3) := by decide +kernel
theorem dX3_join_5 : decode cX3_join 5 = .ok (.ifCond .eq 10, 3) := by decide +kernel
theorem dX3_join_8 : decode cX3_join 8 = .ok (.aload_n 0, 1) := by decide +kernel
theorem dX3_join_9 : decode cX3_join 9 = .ok (.iload_n 1, 1) := by decide +kernel
theorem dX3_join_10 : decode cX3_join 10 = .ok (.iconst 1, 1) := by decide +kernel
theorem dX3_join_11 : decode cX3_join 11 = .ok (.iload_n 2, 1) := by decide +kernel
theorem dX3_join_12 : decode cX3_join 12 = .ok (.invokevirtual 27, 3) := by decide +kernel
theorem dX3_join_15 : decode cX3_join 15 = .ok (.return_, 1) := by decide +kernel
theorem dX3_firstFree_0 : decode cX3_firstFree 0 = .ok (.iconst 0, 1) := by decide +kernel
theorem dX3_firstFree_1 : decode cX3_firstFree 1 = .ok (.istore_n 1, 1) := by decide +kernel
theorem dX3_firstFree_2 : decode cX3_firstFree 2 = .ok (.iload_n 1, 1) := by decide +kernel
theorem dX3_firstFree_3 : decode cX3_firstFree 3 = .ok (.aload_n 0, 1) := by decide +kernel
theorem dX3_firstFree_4 : decode cX3_firstFree 4 = .ok (.getfield 9, 3) := by decide +kernel
theorem dX3_firstFree_7 : decode cX3_firstFree 7 = .ok (.arraylength, 1) := by decide +kernel
theorem dX3_firstFree_8 : decode cX3_firstFree 8 = .ok (.if_icmp .ge 20, 3) := by decide +kernel
theorem dX3_firstFree_11 : decode cX3_firstFree 11 = .ok (.aload_n 0, 1) := by decide +kernel
theorem dX3_firstFree_12 : decode cX3_firstFree 12 = .ok (.getfield 9, 3) := by decide +kernel
theorem dX3_firstFree_15 : decode cX3_firstFree 15 = .ok (.iload_n 1, 1) := by decide +kernel
theorem dX3_firstFree_16 : decode cX3_firstFree 16 = .ok (.baload, 1) := by decide +kernel
theorem dX3_firstFree_17 : decode cX3_firstFree 17 = .ok (.ifCond .ne 5, 3) := by decide +kernel
theorem dX3_firstFree_20 : decode cX3_firstFree 20 = .ok (.iload_n 1, 1) := by decide +kernel
theorem dX3_firstFree_21 : decode cX3_firstFree 21 = .ok (.ireturn, 1) := by decide +kernel
theorem dX3_firstFree_22 : decode cX3_firstFree 22 = .ok (.iinc 1 1, 3) := by decide +kernel
theorem dX3_firstFree_25 : decode cX3_firstFree 25 = .ok (.goto (-23), 3) := by decide +kernel
theorem dX3_firstFree_28 : decode cX3_firstFree 28 = .ok (.ldc 31, 2) := by decide +kernel
theorem dX3_firstFree_30 : decode cX3_firstFree 30 = .ok (.ireturn, 1) := by decide +kernel
theorem dX3_outermost_0 : decode cX3_outermost 0 = .ok (.iload_n 1, 1) := by decide +kernel
theorem dX3_outermost_1 : decode cX3_outermost 1 = .ok (.istore_n 2, 1) := by decide +kernel
theorem dX3_outermost_2 : decode cX3_outermost 2 = .ok (.iconst 0, 1) := by decide +kernel
theorem dX3_outermost_3 : decode cX3_outermost 3 = .ok (.istore_n 3, 1) := by decide +kernel
theorem dX3_outermost_4 : decode cX3_outermost 4 = .ok (.iload_n 3, 1) := by decide +kernel
theorem dX3_outermost_5 : decode cX3_outermost 5 = .ok (.bipush 8, 2) := by decide +kernel
theorem dX3_outermost_7 : decode cX3_outermost 7 = .ok (.if_icmp .ge 25, 3) := by decide +kernel
theorem dX3_outermost_10 : decode cX3_outermost 10 = .ok (.aload_n 0, 1) := by decide +kernel
theorem dX3_outermost_11 : decode cX3_outermost 11 = .ok (.iload_n 2, 1) := by decide +kernel
theorem dX3_outermost_12 : decode cX3_outermost 12 = .ok (.invokevirtual 23, 3) := by decide +kernel
theorem dX3_outermost_15 : decode cX3_outermost 15 = .ok (.ldc 31, 2) := by decide +kernel
theorem dX3_outermost_17 : decode cX3_outermost 17 = .ok (.if_icmp .eq 15, 3) := by decide +kernel
theorem dX3_outermost_20 : decode cX3_outermost 20 = .ok (.aload_n 0, 1) := by decide +kernel
theorem dX3_outermost_21 : decode cX3_outermost 21 = .ok (.iload_n 2, 1) := by decide +kernel
theorem dX3_outermost_22 : decode cX3_outermost 22 = .ok (.invokevirtual 23, 3) := by decide +kernel
theorem dX3_outermost_25 : decode cX3_outermost 25 = .ok (.istore_n 2, 1) := by decide +kernel
theorem dX3_outermost_26 : decode cX3_outermost 26 = .ok (.iinc 3 1, 3) := by decide +kernel
theorem dX3_outermost_29 : decode cX3_outermost 29 = .ok (.goto (-25), 3) := by decide +kernel
theorem dX3_outermost_32 : decode cX3_outermost 32 = .ok (.iload_n 2, 1) := by decide +kernel
theorem dX3_outermost_33 : decode cX3_outermost 33 = .ok (.ireturn, 1) := by decide +kernel
theorem dX3_isInside_0 : decode cX3_isInside 0 = .ok (.iload_n 1, 1) := by decide +kernel
theorem dX3_isInside_1 : decode cX3_isInside 1 = .ok (.istore_n 3, 1) := by decide +kernel
theorem dX3_isInside_2 : decode cX3_isInside 2 = .ok (.iconst 0, 1) := by decide +kernel
theorem dX3_isInside_3 : decode cX3_isInside 3 = .ok (.istore 4, 2) := by decide +kernel
theorem dX3_isInside_5 : decode cX3_isInside 5 = .ok (.iload 4, 2) := by decide +kernel
theorem dX3_isInside_7 : decode cX3_isInside 7 = .ok (.bipush 8, 2) := by decide +kernel
theorem dX3_isInside_9 : decode cX3_isInside 9 = .ok (.if_icmp .ge 26, 3) := by decide +kernel
theorem dX3_isInside_12 : decode cX3_isInside 12 = .ok (.iload_n 3, 1) := by decide +kernel
theorem dX3_isInside_13 : decode cX3_isInside 13 = .ok (.iload_n 2, 1) := by decide +kernel
theorem dX3_isInside_14 : decode cX3_isInside 14 = .ok (.if_icmp .eq 21, 3) := by decide +kernel
theorem dX3_isInside_17 : decode cX3_isInside 17 = .ok (.iload_n 3, 1) := by decide +kernel
theorem dX3_isInside_18 : decode cX3_isInside 18 = .ok (.ldc 31, 2) := by decide +kernel
theorem dX3_isInside_20 : decode cX3_isInside 20 = .ok (.if_icmp .eq 15, 3) := by decide +kernel
theorem dX3_isInside_23 : decode cX3_isInside 23 = .ok (.aload_n 0, 1) := by decide +kernel
theorem dX3_isInside_24 : decode cX3_isInside 24 = .ok (.iload_n 3, 1) := by decide +kernel
theorem dX3_isInside_25 : decode cX3_isInside 25 = .ok (.invokevirtual 23, 3) := by decide +kernel
theorem dX3_isInside_28 : decode cX3_isInside 28 = .ok (.istore_n 3, 1) := by decide +kernel
theorem dX3_isInside_29 : decode cX3_isInside 29 = .ok (.iinc 4 1, 3) := by decide +kernel
theorem dX3_isInside_32 : decode cX3_isInside 32 = .ok (.goto (-27), 3) := by decide +kernel
theorem dX3_isInside_35 : decode cX3_isInside 35 = .ok (.iload_n 3, 1) := by decide +kernel
theorem dX3_isInside_36 : decode cX3_isInside 36 = .ok (.iload_n 2, 1) := by decide +kernel
theorem dX3_isInside_37 : decode cX3_isInside 37 = .ok (.if_icmp .ne 7, 3) := by decide +kernel
theorem dX3_isInside_40 : decode cX3_isInside 40 = .ok (.iconst 1, 1) := by decide +kernel
theorem dX3_isInside_41 : decode cX3_isInside 41 = .ok (.goto 4, 3) := by decide +kernel
theorem dX3_isInside_44 : decode cX3_isInside 44 = .ok (.iconst 0, 1) := by decide +kernel
theorem dX3_isInside_45 : decode cX3_isInside 45 = .ok (.ireturn, 1) := by decide +kernel
theorem dX4_init_0 : decode cX4_init 0 = .ok (.aload_n 0, 1) := by decide +kernel
theorem dX4_init_1 : decode cX4_init 1 = .ok (.invokespecial 3, 3) := by decide +kernel
theorem dX4_init_4 : decode cX4_init 4 = .ok (.aload_n 0, 1) := by decide +kernel
theorem dX4_init_5 : decode cX4_init 5 = .ok (.bipush 10, 2) := by decide +kernel
theorem dX4_init_7 : decode cX4_init 7 = .ok (.newarray .int, 2) := by decide +kernel
theorem dX4_init_9 : decode cX4_init 9 = .ok (.putfield 9, 3) := by decide +kernel
theorem dX4_init_12 : decode cX4_init 12 = .ok (.aload_n 0, 1) := by decide +kernel
theorem dX4_init_13 : decode cX4_init 13 = .ok (.bipush 10, 2) := by decide +kernel
theorem dX4_init_15 : decode cX4_init 15 = .ok (.newarray .int, 2) := by decide +kernel
theorem dX4_init_17 : decode cX4_init 17 = .ok (.putfield 15, 3) := by decide +kernel
theorem dX4_init_20 : decode cX4_init 20 = .ok (.aload_n 0, 1) := by decide +kernel
theorem dX4_init_21 : decode cX4_init 21 = .ok (.iconst 5, 1) := by decide +kernel
theorem dX4_init_22 : decode cX4_init 22 = .ok (.putfield 18, 3) := by decide +kernel
theorem dX4_init_25 : decode cX4_init 25 = .ok (.return_, 1) := by decide +kernel
theorem dX4_copy_0 : decode cX4_copy 0 = .ok (.aload_n 0, 1) := by decide +kernel
theorem dX4_copy_1 : decode cX4_copy 1 = .ok (.iconst 0, 1) := by decide +kernel
theorem dX4_copy_2 : decode cX4_copy 2 = .ok (.putfield 22, 3) := by decide +kernel
theorem dX4_copy_5 : decode cX4_copy 5 = .ok (.iconst 0, 1) := by decide +kernel
theorem dX4_copy_6 : decode cX4_copy 6 = .ok (.istore_n 2, 1) := by decide +kernel
theorem dX4_copy_7 : decode cX4_copy 7 = .ok (.iload_n 2, 1) := by decide +kernel
theorem dX4_copy_8 : decode cX4_copy 8 = .ok (.aload_n 1, 1) := by decide +kernel
theorem dX4_copy_9 : decode cX4_copy 9 = .ok (.getfield 22, 3) := by decide +kernel
theorem dX4_copy_12 : decode cX4_copy 12 = .ok (.if_icmp .ge 43, 3) := by decide +kernel
theorem dX4_copy_15 : decode cX4_copy 15 = .ok (.iload_n 2, 1) := by decide +kernel
theorem dX4_copy_16 : decode cX4_copy 16 = .ok (.aload_n 1, 1) := by decide +kernel
theorem dX4_copy_17 : decode cX4_copy 17 = .ok (.getfield 9, 3) := by decide +kernel
theorem dX4_copy_20 : decode cX4_copy 20 = .ok (.arraylength, 1) := by decide +kernel
theorem dX4_copy_21 : decode cX4_copy 21 = .ok (.if_icmp .ge 28, 3) := by decide +kernel
theorem dX4_copy_24 : decode cX4_copy 24 = .ok (.iload_n 2, 1) := by decide +kernel
theorem dX4_copy_25 : decode cX4_copy 25 = .ok (.aload_n 1, 1) := by decide +kernel
theorem dX4_copy_26 : decode cX4_copy 26 = .ok (.getfield 15, 3) := by decide +kernel
theorem dX4_copy_29 : decode cX4_copy 29 = .ok (.arraylength, 1) := by decide +kernel
theorem dX4_copy_30 : decode cX4_copy 30 = .ok (.if_icmp .ge 19, 3) := by decide +kernel
theorem dX4_copy_33 : decode cX4_copy 33 = .ok (.aload_n 0, 1) := by decide +kernel
theorem dX4_copy_34 : decode cX4_copy 34 = .ok (.aload_n 1, 1) := by decide +kernel
theorem dX4_copy_35 : decode cX4_copy 35 = .ok (.getfield 9, 3) := by decide +kernel
theorem dX4_copy_38 : decode cX4_copy 38 = .ok (.iload_n 2, 1) := by decide +kernel
theorem dX4_copy_39 : decode cX4_copy 39 = .ok (.iaload, 1) := by decide +kernel
theorem dX4_copy_40 : decode cX4_copy 40 = .ok (.aload_n 1, 1) := by decide +kernel
theorem dX4_copy_41 : decode cX4_copy 41 = .ok (.getfield 15, 3) := by decide +kernel
theorem dX4_copy_44 : decode cX4_copy 44 = .ok (.iload_n 2, 1) := by decide +kernel
theorem dX4_copy_45 : decode cX4_copy 45 = .ok (.iaload, 1) := by decide +kernel
theorem dX4_copy_46 : decode cX4_copy 46 = .ok (.invokevirtual 25, 3) := by decide +kernel
theorem dX4_copy_49 : decode cX4_copy 49 = .ok (.iinc 2 1, 3) := by decide +kernel
theorem dX4_copy_52 : decode cX4_copy 52 = .ok (.goto (-45), 3) := by decide +kernel
theorem dX4_copy_55 : decode cX4_copy 55 = .ok (.aload_n 0, 1) := by decide +kernel
theorem dX4_copy_56 : decode cX4_copy 56 = .ok (.aload_n 1, 1) := by decide +kernel
theorem dX4_copy_57 : decode cX4_copy 57 = .ok (.getfield 29, 3) := by decide +kernel
theorem dX4_copy_60 : decode cX4_copy 60 = .ok (.putfield 29, 3) := by decide +kernel
theorem dX4_copy_63 : decode cX4_copy 63 = .ok (.aload_n 0, 1) := by decide +kernel
theorem dX4_copy_64 : decode cX4_copy 64 = .ok (.aload_n 1, 1) := by decide +kernel
theorem dX4_copy_65 : decode cX4_copy 65 = .ok (.getfield 18, 3) := by decide +kernel
theorem dX4_copy_68 : decode cX4_copy 68 = .ok (.putfield 18, 3) := by decide +kernel
theorem dX4_copy_71 : decode cX4_copy 71 = .ok (.return_, 1) := by decide +kernel
theorem dX4_add_0 : decode cX4_add 0 = .ok (.aload_n 0, 1) := by decide +kernel
theorem dX4_add_1 : decode cX4_add 1 = .ok (.getfield 22, 3) := by decide +kernel
theorem dX4_add_4 : decode cX4_add 4 = .ok (.ifCond .lt 57, 3) := by decide +kernel
theorem dX4_add_7 : decode cX4_add 7 = .ok (.aload_n 0, 1) := by decide +kernel
theorem dX4_add_8 : decode cX4_add 8 = .ok (.getfield 22, 3) := by decide +kernel
theorem dX4_add_11 : decode cX4_add 11 = .ok (.aload_n 0, 1) := by decide +kernel
theorem dX4_add_12 : decode cX4_add 12 = .ok (.getfield 9, 3) := by decide +kernel
theorem dX4_add_15 : decode cX4_add 15 = .ok (.arraylength, 1) := by decide +kernel
theorem dX4_add_16 : decode cX4_add 16 = .ok (.if_icmp .ge 45, 3) := by decide +kernel
theorem dX4_add_19 : decode cX4_add 19 = .ok (.aload_n 0, 1) := by decide +kernel
theorem dX4_add_20 : decode cX4_add 20 = .ok (.getfield 22, 3) := by decide +kernel
theorem dX4_add_23 : decode cX4_add 23 = .ok (.aload_n 0, 1) := by decide +kernel
theorem dX4_add_24 : decode cX4_add 24 = .ok (.getfield 15, 3) := by decide +kernel
theorem dX4_add_27 : decode cX4_add 27 = .ok (.arraylength, 1) := by decide +kernel
theorem dX4_add_28 : decode cX4_add 28 = .ok (.if_icmp .ge 33, 3) := by decide +kernel
theorem dX4_add_31 : decode cX4_add 31 = .ok (.aload_n 0, 1) := by decide +kernel
theorem dX4_add_32 : decode cX4_add 32 = .ok (.getfield 9, 3) := by decide +kernel
theorem dX4_add_35 : decode cX4_add 35 = .ok (.aload_n 0, 1) := by decide +kernel
theorem dX4_add_36 : decode cX4_add 36 = .ok (.getfield 22, 3) := by decide +kernel
theorem dX4_add_39 : decode cX4_add 39 = .ok (.iload_n 1, 1) := by decide +kernel
theorem dX4_add_40 : decode cX4_add 40 = .ok (.iastore, 1) := by decide +kernel
theorem dX4_add_41 : decode cX4_add 41 = .ok (.aload_n 0, 1) := by decide +kernel
theorem dX4_add_42 : decode cX4_add 42 = .ok (.getfield 15, 3) := by decide +kernel
theorem dX4_add_45 : decode cX4_add 45 = .ok (.aload_n 0, 1) := by decide +kernel
theorem dX4_add_46 : decode cX4_add 46 = .ok (.getfield 22, 3) := by decide +kernel
theorem dX4_add_49 : decode cX4_add 49 = .ok (.iload_n 2, 1) := by decide +kernel
theorem dX4_add_50 : decode cX4_add 50 = .ok (.iastore, 1) := by decide +kernel
theorem dX4_add_51 : decode cX4_add 51 = .ok (.aload_n 0, 1) := by decide +kernel
theorem dX4_add_52 : decode cX4_add 52 = .ok (.dup, 1) := by decide +kernel
theorem dX4_add_53 : decode cX4_add 53 = .ok (.getfield 22, 3) := by decide +kernel
theorem dX4_add_56 : decode cX4_add 56 = .ok (.iconst 1, 1) := by decide +kernel
theorem dX4_add_57 : decode cX4_add 57 = .ok (.iadd, 1) := by decide +kernel
theorem dX4_add_58 : decode cX4_add 58 = .ok (.putfield 22, 3) := by decide +kernel
theorem dX4_add_61 : decode cX4_add 61 = .ok (.return_, 1) := by decide +kernel
theorem dX4_isOn_0 : decode cX4_isOn 0 = .ok (.iload_n 1, 1) := by decide +kernel
theorem dX4_isOn_1 : decode cX4_isOn 1 = .ok (.ifCond .lt 34, 3) := by decide +kernel
theorem dX4_isOn_4 : decode cX4_isOn 4 = .ok (.iload_n 1, 1) := by decide +kernel
theorem dX4_isOn_5 : decode cX4_isOn 5 = .ok (.aload_n 0, 1) := by decide +kernel
theorem dX4_isOn_6 : decode cX4_isOn 6 = .ok (.getfield 22, 3) := by decide +kernel
theorem dX4_isOn_9 : decode cX4_isOn 9 = .ok (.if_icmp .ge 26, 3) := by decide +kernel
theorem dX4_isOn_12 : decode cX4_isOn 12 = .ok (.iload_n 1, 1) := by decide +kernel
theorem dX4_isOn_13 : decode cX4_isOn 13 = .ok (.aload_n 0, 1) := by decide +kernel
theorem dX4_isOn_14 : decode cX4_isOn 14 = .ok (.getfield 9, 3) := by decide +kernel
theorem dX4_isOn_17 : decode cX4_isOn 17 = .ok (.arraylength, 1) := by decide +kernel
theorem dX4_isOn_18 : decode cX4_isOn 18 = .ok (.if_icmp .ge 17, 3) := by decide +kernel
theorem dX4_isOn_21 : decode cX4_isOn 21 = .ok (.aload_n 0, 1) := by decide +kernel
theorem dX4_isOn_22 : decode cX4_isOn 22 = .ok (.getfield 9, 3) := by decide +kernel
theorem dX4_isOn_25 : decode cX4_isOn 25 = .ok (.iload_n 1, 1) := by decide +kernel
theorem dX4_isOn_26 : decode cX4_isOn 26 = .ok (.iaload, 1) := by decide +kernel
theorem dX4_isOn_27 : decode cX4_isOn 27 = .ok (.iload_n 2, 1) := by decide +kernel
theorem dX4_isOn_28 : decode cX4_isOn 28 = .ok (.if_icmp .ne 7, 3) := by decide +kernel
theorem dX4_isOn_31 : decode cX4_isOn 31 = .ok (.iconst 1, 1) := by decide +kernel
theorem dX4_isOn_32 : decode cX4_isOn 32 = .ok (.goto 4, 3) := by decide +kernel
theorem dX4_isOn_35 : decode cX4_isOn 35 = .ok (.iconst 0, 1) := by decide +kernel
theorem dX4_isOn_36 : decode cX4_isOn 36 = .ok (.ireturn, 1) := by decide +kernel
theorem dX4_placeOf_0 : decode cX4_placeOf 0 = .ok (.iload_n 1, 1) := by decide +kernel
theorem dX4_placeOf_1 : decode cX4_placeOf 1 = .ok (.ifCond .lt 21, 3) := by decide +kernel
theorem dX4_placeOf_4 : decode cX4_placeOf 4 = .ok (.iload_n 1, 1) := by decide +kernel
theorem dX4_placeOf_5 : decode cX4_placeOf 5 = .ok (.aload_n 0, 1) := by decide +kernel
theorem dX4_placeOf_6 : decode cX4_placeOf 6 = .ok (.getfield 15, 3) := by decide +kernel
theorem dX4_placeOf_9 : decode cX4_placeOf 9 = .ok (.arraylength, 1) := by decide +kernel
theorem dX4_placeOf_10 : decode cX4_placeOf 10 = .ok (.if_icmp .ge 12, 3) := by decide +kernel
theorem dX4_placeOf_13 : decode cX4_placeOf 13 = .ok (.aload_n 0, 1) := by decide +kernel
theorem dX4_placeOf_14 : decode cX4_placeOf 14 = .ok (.getfield 15, 3) := by decide +kernel
theorem dX4_placeOf_17 : decode cX4_placeOf 17 = .ok (.iload_n 1, 1) := by decide +kernel
theorem dX4_placeOf_18 : decode cX4_placeOf 18 = .ok (.iaload, 1) := by decide +kernel
theorem dX4_placeOf_19 : decode cX4_placeOf 19 = .ok (.goto 5, 3) := by decide +kernel
theorem dX4_placeOf_22 : decode cX4_placeOf 22 = .ok (.ldc 32, 2) := by decide +kernel
theorem dX4_placeOf_24 : decode cX4_placeOf 24 = .ok (.ireturn, 1) := by decide +kernel
theorem dX5_init_0 : decode cX5_init 0 = .ok (.aload_n 0, 1) := by decide +kernel
theorem dX5_init_1 : decode cX5_init 1 = .ok (.invokespecial 3, 3) := by decide +kernel
theorem dX5_init_4 : decode cX5_init 4 = .ok (.aload_n 0, 1) := by decide +kernel
theorem dX5_init_5 : decode cX5_init 5 = .ok (.bipush 6, 2) := by decide +kernel
theorem dX5_init_7 : decode cX5_init 7 = .ok (.anewarray 9, 3) := by decide +kernel
theorem dX5_init_10 : decode cX5_init 10 = .ok (.putfield 11, 3) := by decide +kernel
theorem dX5_init_13 : decode cX5_init 13 = .ok (.iconst 0, 1) := by decide +kernel
theorem dX5_init_14 : decode cX5_init 14 = .ok (.istore_n 1, 1) := by decide +kernel
theorem dX5_init_15 : decode cX5_init 15 = .ok (.iload_n 1, 1) := by decide +kernel
theorem dX5_init_16 : decode cX5_init 16 = .ok (.aload_n 0, 1) := by decide +kernel
theorem dX5_init_17 : decode cX5_init 17 = .ok (.getfield 11, 3) := by decide +kernel
theorem dX5_init_20 : decode cX5_init 20 = .ok (.arraylength, 1) := by decide +kernel
theorem dX5_init_21 : decode cX5_init 21 = .ok (.if_icmp .ge 22, 3) := by decide +kernel
theorem dX5_init_24 : decode cX5_init 24 = .ok (.aload_n 0, 1) := by decide +kernel
theorem dX5_init_25 : decode cX5_init 25 = .ok (.getfield 11, 3) := by decide +kernel
theorem dX5_init_28 : decode cX5_init 28 = .ok (.iload_n 1, 1) := by decide +kernel
theorem dX5_init_29 : decode cX5_init 29 = .ok (.new 9, 3) := by decide +kernel
theorem dX5_init_32 : decode cX5_init 32 = .ok (.dup, 1) := by decide +kernel
theorem dX5_init_33 : decode cX5_init 33 = .ok (.invokespecial 17, 3) := by decide +kernel
theorem dX5_init_36 : decode cX5_init 36 = .ok (.aastore, 1) := by decide +kernel
theorem dX5_init_37 : decode cX5_init 37 = .ok (.iinc 1 1, 3) := by decide +kernel
theorem dX5_init_40 : decode cX5_init 40 = .ok (.goto (-25), 3) := by decide +kernel
theorem dX5_init_43 : decode cX5_init 43 = .ok (.return_, 1) := by decide +kernel
theorem dX5_keep_0 : decode cX5_keep 0 = .ok (.aload_n 0, 1) := by decide +kernel
theorem dX5_keep_1 : decode cX5_keep 1 = .ok (.getfield 18, 3) := by decide +kernel
theorem dX5_keep_4 : decode cX5_keep 4 = .ok (.aload_n 0, 1) := by decide +kernel
theorem dX5_keep_5 : decode cX5_keep 5 = .ok (.getfield 11, 3) := by decide +kernel
theorem dX5_keep_8 : decode cX5_keep 8 = .ok (.arraylength, 1) := by decide +kernel
theorem dX5_keep_9 : decode cX5_keep 9 = .ok (.if_icmp .lt 7, 3) := by decide +kernel
theorem dX5_keep_12 : decode cX5_keep 12 = .ok (.aload_n 0, 1) := by decide +kernel
theorem dX5_keep_13 : decode cX5_keep 13 = .ok (.invokevirtual 22, 3) := by decide +kernel
theorem dX5_keep_16 : decode cX5_keep 16 = .ok (.aload_n 0, 1) := by decide +kernel
theorem dX5_keep_17 : decode cX5_keep 17 = .ok (.getfield 18, 3) := by decide +kernel
theorem dX5_keep_20 : decode cX5_keep 20 = .ok (.ifCond .lt 50, 3) := by decide +kernel
theorem dX5_keep_23 : decode cX5_keep 23 = .ok (.aload_n 0, 1) := by decide +kernel
theorem dX5_keep_24 : decode cX5_keep 24 = .ok (.getfield 18, 3) := by decide +kernel
theorem dX5_keep_27 : decode cX5_keep 27 = .ok (.aload_n 0, 1) := by decide +kernel
theorem dX5_keep_28 : decode cX5_keep 28 = .ok (.getfield 11, 3) := by decide +kernel
theorem dX5_keep_31 : decode cX5_keep 31 = .ok (.arraylength, 1) := by decide +kernel
theorem dX5_keep_32 : decode cX5_keep 32 = .ok (.if_icmp .ge 38, 3) := by decide +kernel
theorem dX5_keep_35 : decode cX5_keep 35 = .ok (.aload_n 0, 1) := by decide +kernel
theorem dX5_keep_36 : decode cX5_keep 36 = .ok (.getfield 11, 3) := by decide +kernel
theorem dX5_keep_39 : decode cX5_keep 39 = .ok (.aload_n 0, 1) := by decide +kernel
theorem dX5_keep_40 : decode cX5_keep 40 = .ok (.getfield 18, 3) := by decide +kernel
theorem dX5_keep_43 : decode cX5_keep 43 = .ok (.aaload, 1) := by decide +kernel
theorem dX5_keep_44 : decode cX5_keep 44 = .ok (.ifnull 26, 3) := by decide +kernel
theorem dX5_keep_47 : decode cX5_keep 47 = .ok (.aload_n 0, 1) := by decide +kernel
theorem dX5_keep_48 : decode cX5_keep 48 = .ok (.getfield 11, 3) := by decide +kernel
theorem dX5_keep_51 : decode cX5_keep 51 = .ok (.aload_n 0, 1) := by decide +kernel
theorem dX5_keep_52 : decode cX5_keep 52 = .ok (.getfield 18, 3) := by decide +kernel
theorem dX5_keep_55 : decode cX5_keep 55 = .ok (.aaload, 1) := by decide +kernel
theorem dX5_keep_56 : decode cX5_keep 56 = .ok (.aload_n 1, 1) := by decide +kernel
theorem dX5_keep_57 : decode cX5_keep 57 = .ok (.invokevirtual 25, 3) := by decide +kernel
theorem dX5_keep_60 : decode cX5_keep 60 = .ok (.aload_n 0, 1) := by decide +kernel
theorem dX5_keep_61 : decode cX5_keep 61 = .ok (.dup, 1) := by decide +kernel
theorem dX5_keep_62 : decode cX5_keep 62 = .ok (.getfield 18, 3) := by decide +kernel
theorem dX5_keep_65 : decode cX5_keep 65 = .ok (.iconst 1, 1) := by decide +kernel
theorem dX5_keep_66 : decode cX5_keep 66 = .ok (.iadd, 1) := by decide +kernel
theorem dX5_keep_67 : decode cX5_keep 67 = .ok (.putfield 18, 3) := by decide +kernel
theorem dX5_keep_70 : decode cX5_keep 70 = .ok (.return_, 1) := by decide +kernel
theorem dX5_dropOldest_0 : decode cX5_dropOldest 0 = .ok (.aload_n 0, 1) := by decide +kernel
theorem dX5_dropOldest_1 : decode cX5_dropOldest 1 = .ok (.getfield 11, 3) := by decide +kernel
theorem dX5_dropOldest_4 : decode cX5_dropOldest 4 = .ok (.arraylength, 1) := by decide +kernel
theorem dX5_dropOldest_5 : decode cX5_dropOldest 5 = .ok (.ifCond .le 12, 3) := by decide +kernel
theorem dX5_dropOldest_8 : decode cX5_dropOldest 8 = .ok (.aload_n 0, 1) := by decide +kernel
theorem dX5_dropOldest_9 : decode cX5_dropOldest 9 = .ok (.getfield 11, 3) := by decide +kernel
theorem dX5_dropOldest_12 : decode cX5_dropOldest 12 = .ok (.iconst 0, 1) := by decide +kernel
theorem dX5_dropOldest_13 : decode cX5_dropOldest 13 = .ok (.aaload, 1) := by decide +kernel
theorem dX5_dropOldest_14 : decode cX5_dropOldest 14 = .ok (.goto 4, 3) := by decide +kernel
theorem dX5_dropOldest_17 : decode cX5_dropOldest 17 = .ok (.aconst_null, 1) := by decide +kernel
theorem dX5_dropOldest_18 : decode cX5_dropOldest 18 = .ok (.astore_n 1, 1) := by decide +kernel
theorem dX5_dropOldest_19 : decode cX5_dropOldest 19 = .ok (.iconst 0, 1) := by decide +kernel
theorem dX5_dropOldest_20 : decode cX5_dropOldest 20 = .ok (.istore_n 2, 1) := by decide +kernel
theorem dX5_dropOldest_21 : decode cX5_dropOldest 21 = .ok (.iload_n 2, 1) := by decide +kernel
theorem dX5_dropOldest_22 : decode cX5_dropOldest 22 = .ok (.iconst 1, 1) := by decide +kernel
theorem dX5_dropOldest_23 : decode cX5_dropOldest 23 = .ok (.iadd, 1) := by decide +kernel
theorem dX5_dropOldest_24 : decode cX5_dropOldest 24 = .ok (.aload_n 0, 1) := by decide +kernel
theorem dX5_dropOldest_25 : decode cX5_dropOldest 25 = .ok (.getfield 11, 3) := by decide +kernel
theorem dX5_dropOldest_28 : decode cX5_dropOldest 28 = .ok (.arraylength, 1) := by decide +kernel
theorem dX5_dropOldest_29 : decode cX5_dropOldest 29 = .ok (.if_icmp .ge 23, 3) := by decide +kernel
theorem dX5_dropOldest_32 : decode cX5_dropOldest 32 = .ok (.aload_n 0, 1) := by decide +kernel
theorem dX5_dropOldest_33 : decode cX5_dropOldest 33 = .ok (.getfield 11, 3) := by decide +kernel
theorem dX5_dropOldest_36 : decode cX5_dropOldest 36 = .ok (.iload_n 2, 1) := by decide +kernel
theorem dX5_dropOldest_37 : decode cX5_dropOldest 37 = .ok (.aload_n 0, 1) := by decide +kernel
theorem dX5_dropOldest_38 : decode cX5_dropOldest 38 = .ok (.getfield 11, 3) := by decide +kernel
theorem dX5_dropOldest_41 : decode cX5_dropOldest 41 = .ok (.iload_n 2, 1) := by decide +kernel
theorem dX5_dropOldest_42 : decode cX5_dropOldest 42 = .ok (.iconst 1, 1) := by decide +kernel
theorem dX5_dropOldest_43 : decode cX5_dropOldest 43 = .ok (.iadd, 1) := by decide +kernel
theorem dX5_dropOldest_44 : decode cX5_dropOldest 44 = .ok (.aaload, 1) := by decide +kernel
theorem dX5_dropOldest_45 : decode cX5_dropOldest 45 = .ok (.aastore, 1) := by decide +kernel
theorem dX5_dropOldest_46 : decode cX5_dropOldest 46 = .ok (.iinc 2 1, 3) := by decide +kernel
theorem dX5_dropOldest_49 : decode cX5_dropOldest 49 = .ok (.goto (-28), 3) := by decide +kernel
theorem dX5_dropOldest_52 : decode cX5_dropOldest 52 = .ok (.aload_n 0, 1) := by decide +kernel
theorem dX5_dropOldest_53 : decode cX5_dropOldest 53 = .ok (.getfield 11, 3) := by decide +kernel
theorem dX5_dropOldest_56 : decode cX5_dropOldest 56 = .ok (.arraylength, 1) := by decide +kernel
theorem dX5_dropOldest_57 : decode cX5_dropOldest 57 = .ok (.ifCond .le 16, 3) := by decide +kernel
theorem dX5_dropOldest_60 : decode cX5_dropOldest 60 = .ok (.aload_n 0, 1) := by decide +kernel
theorem dX5_dropOldest_61 : decode cX5_dropOldest 61 = .ok (.getfield 11, 3) := by decide +kernel
theorem dX5_dropOldest_64 : decode cX5_dropOldest 64 = .ok (.aload_n 0, 1) := by decide +kernel
theorem dX5_dropOldest_65 : decode cX5_dropOldest 65 = .ok (.getfield 11, 3) := by decide +kernel
theorem dX5_dropOldest_68 : decode cX5_dropOldest 68 = .ok (.arraylength, 1) := by decide +kernel
theorem dX5_dropOldest_69 : decode cX5_dropOldest 69 = .ok (.iconst 1, 1) := by decide +kernel
theorem dX5_dropOldest_70 : decode cX5_dropOldest 70 = .ok (.isub, 1) := by decide +kernel
theorem dX5_dropOldest_71 : decode cX5_dropOldest 71 = .ok (.aload_n 1, 1) := by decide +kernel
theorem dX5_dropOldest_72 : decode cX5_dropOldest 72 = .ok (.aastore, 1) := by decide +kernel
theorem dX5_dropOldest_73 : decode cX5_dropOldest 73 = .ok (.aload_n 0, 1) := by decide +kernel
theorem dX5_dropOldest_74 : decode cX5_dropOldest 74 = .ok (.dup, 1) := by decide +kernel
theorem dX5_dropOldest_75 : decode cX5_dropOldest 75 = .ok (.getfield 18, 3) := by decide +kernel
theorem dX5_dropOldest_78 : decode cX5_dropOldest 78 = .ok (.iconst 1, 1) := by decide +kernel
theorem dX5_dropOldest_79 : decode cX5_dropOldest 79 = .ok (.isub, 1) := by decide +kernel
theorem dX5_dropOldest_80 : decode cX5_dropOldest 80 = .ok (.putfield 18, 3) := by decide +kernel
theorem dX5_dropOldest_83 : decode cX5_dropOldest 83 = .ok (.return_, 1) := by decide +kernel
theorem dX5_back_0 : decode cX5_back 0 = .ok (.aload_n 0, 1) := by decide +kernel
theorem dX5_back_1 : decode cX5_back 1 = .ok (.getfield 18, 3) := by decide +kernel
theorem dX5_back_4 : decode cX5_back 4 = .ok (.iconst 1, 1) := by decide +kernel
theorem dX5_back_5 : decode cX5_back 5 = .ok (.isub, 1) := by decide +kernel
theorem dX5_back_6 : decode cX5_back 6 = .ok (.istore_n 2, 1) := by decide +kernel
theorem dX5_back_7 : decode cX5_back 7 = .ok (.iload_n 2, 1) := by decide +kernel
theorem dX5_back_8 : decode cX5_back 8 = .ok (.ifCond .lt 21, 3) := by decide +kernel
theorem dX5_back_11 : decode cX5_back 11 = .ok (.iload_n 2, 1) := by decide +kernel
theorem dX5_back_12 : decode cX5_back 12 = .ok (.aload_n 0, 1) := by decide +kernel
theorem dX5_back_13 : decode cX5_back 13 = .ok (.getfield 11, 3) := by decide +kernel
theorem dX5_back_16 : decode cX5_back 16 = .ok (.arraylength, 1) := by decide +kernel
theorem dX5_back_17 : decode cX5_back 17 = .ok (.if_icmp .ge 12, 3) := by decide +kernel
theorem dX5_back_20 : decode cX5_back 20 = .ok (.aload_n 0, 1) := by decide +kernel
theorem dX5_back_21 : decode cX5_back 21 = .ok (.getfield 11, 3) := by decide +kernel
theorem dX5_back_24 : decode cX5_back 24 = .ok (.iload_n 2, 1) := by decide +kernel
theorem dX5_back_25 : decode cX5_back 25 = .ok (.aaload, 1) := by decide +kernel
theorem dX5_back_26 : decode cX5_back 26 = .ok (.ifnonnull 5, 3) := by decide +kernel
theorem dX5_back_29 : decode cX5_back 29 = .ok (.iconst 0, 1) := by decide +kernel
theorem dX5_back_30 : decode cX5_back 30 = .ok (.ireturn, 1) := by decide +kernel
theorem dX5_back_31 : decode cX5_back 31 = .ok (.aload_n 1, 1) := by decide +kernel
theorem dX5_back_32 : decode cX5_back 32 = .ok (.aload_n 0, 1) := by decide +kernel
theorem dX5_back_33 : decode cX5_back 33 = .ok (.getfield 11, 3) := by decide +kernel
theorem dX5_back_36 : decode cX5_back 36 = .ok (.iload_n 2, 1) := by decide +kernel
theorem dX5_back_37 : decode cX5_back 37 = .ok (.aaload, 1) := by decide +kernel
theorem dX5_back_38 : decode cX5_back 38 = .ok (.invokevirtual 25, 3) := by decide +kernel
theorem dX5_back_41 : decode cX5_back 41 = .ok (.aload_n 0, 1) := by decide +kernel
theorem dX5_back_42 : decode cX5_back 42 = .ok (.iload_n 2, 1) := by decide +kernel
theorem dX5_back_43 : decode cX5_back 43 = .ok (.putfield 18, 3) := by decide +kernel
theorem dX5_back_46 : decode cX5_back 46 = .ok (.iconst 1, 1) := by decide +kernel
theorem dX5_back_47 : decode cX5_back 47 = .ok (.ireturn, 1) := by decide +kernel
theorem dX6_init_0 : decode cX6_init 0 = .ok (.aload_n 0, 1) := by decide +kernel
theorem dX6_init_1 : decode cX6_init 1 = .ok (.invokespecial 3, 3) := by decide +kernel
theorem dX6_init_4 : decode cX6_init 4 = .ok (.return_, 1) := by decide +kernel
theorem dX6_copy_0 : decode cX6_copy 0 = .ok (.aload_n 0, 1) := by decide +kernel
theorem dX6_copy_1 : decode cX6_copy 1 = .ok (.aload_n 1, 1) := by decide +kernel
theorem dX6_copy_2 : decode cX6_copy 2 = .ok (.getfield 9, 3) := by decide +kernel
theorem dX6_copy_5 : decode cX6_copy 5 = .ok (.putfield 9, 3) := by decide +kernel
theorem dX6_copy_8 : decode cX6_copy 8 = .ok (.aload_n 0, 1) := by decide +kernel
theorem dX6_copy_9 : decode cX6_copy 9 = .ok (.aload_n 1, 1) := by decide +kernel
theorem dX6_copy_10 : decode cX6_copy 10 = .ok (.getfield 15, 3) := by decide +kernel
theorem dX6_copy_13 : decode cX6_copy 13 = .ok (.putfield 15, 3) := by decide +kernel
theorem dX6_copy_16 : decode cX6_copy 16 = .ok (.aload_n 0, 1) := by decide +kernel
theorem dX6_copy_17 : decode cX6_copy 17 = .ok (.aload_n 1, 1) := by decide +kernel
theorem dX6_copy_18 : decode cX6_copy 18 = .ok (.getfield 19, 3) := by decide +kernel
theorem dX6_copy_21 : decode cX6_copy 21 = .ok (.putfield 19, 3) := by decide +kernel
theorem dX6_copy_24 : decode cX6_copy 24 = .ok (.aload_n 0, 1) := by decide +kernel
theorem dX6_copy_25 : decode cX6_copy 25 = .ok (.aload_n 1, 1) := by decide +kernel
theorem dX6_copy_26 : decode cX6_copy 26 = .ok (.getfield 22, 3) := by decide +kernel
theorem dX6_copy_29 : decode cX6_copy 29 = .ok (.putfield 22, 3) := by decide +kernel
theorem dX6_copy_32 : decode cX6_copy 32 = .ok (.aload_n 0, 1) := by decide +kernel
theorem dX6_copy_33 : decode cX6_copy 33 = .ok (.aload_n 1, 1) := by decide +kernel
theorem dX6_copy_34 : decode cX6_copy 34 = .ok (.getfield 25, 3) := by decide +kernel
theorem dX6_copy_37 : decode cX6_copy 37 = .ok (.putfield 25, 3) := by decide +kernel
theorem dX6_copy_40 : decode cX6_copy 40 = .ok (.aload_n 0, 1) := by decide +kernel
theorem dX6_copy_41 : decode cX6_copy 41 = .ok (.aload_n 1, 1) := by decide +kernel
theorem dX6_copy_42 : decode cX6_copy 42 = .ok (.getfield 28, 3) := by decide +kernel
theorem dX6_copy_45 : decode cX6_copy 45 = .ok (.putfield 28, 3) := by decide +kernel
theorem dX6_copy_48 : decode cX6_copy 48 = .ok (.aload_n 0, 1) := by decide +kernel
theorem dX6_copy_49 : decode cX6_copy 49 = .ok (.aload_n 1, 1) := by decide +kernel
theorem dX6_copy_50 : decode cX6_copy 50 = .ok (.getfield 31, 3) := by decide +kernel
theorem dX6_copy_53 : decode cX6_copy 53 = .ok (.putfield 31, 3) := by decide +kernel
theorem dX6_copy_56 : decode cX6_copy 56 = .ok (.aload_n 0, 1) := by decide +kernel
theorem dX6_copy_57 : decode cX6_copy 57 = .ok (.aload_n 1, 1) := by decide +kernel
theorem dX6_copy_58 : decode cX6_copy 58 = .ok (.getfield 34, 3) := by decide +kernel
theorem dX6_copy_61 : decode cX6_copy 61 = .ok (.putfield 34, 3) := by decide +kernel
theorem dX6_copy_64 : decode cX6_copy 64 = .ok (.return_, 1) := by decide +kernel
theorem dX6_start_0 : decode cX6_start 0 = .ok (.iload_n 1, 1) := by decide +kernel
theorem dX6_start_1 : decode cX6_start 1 = .ok (.ifCond .ne 10, 3) := by decide +kernel
theorem dX6_start_4 : decode cX6_start 4 = .ok (.aload_n 0, 1) := by decide +kernel
theorem dX6_start_5 : decode cX6_start 5 = .ok (.getfield 19, 3) := by decide +kernel
theorem dX6_start_8 : decode cX6_start 8 = .ok (.goto 7, 3) := by decide +kernel
theorem dX6_start_11 : decode cX6_start 11 = .ok (.aload_n 0, 1) := by decide +kernel
theorem dX6_start_12 : decode cX6_start 12 = .ok (.getfield 22, 3) := by decide +kernel
theorem dX6_start_15 : decode cX6_start 15 = .ok (.ireturn, 1) := by decide +kernel
theorem dX6_size_0 : decode cX6_size 0 = .ok (.iload_n 1, 1) := by decide +kernel
theorem dX6_size_1 : decode cX6_size 1 = .ok (.ifCond .ne 10, 3) := by decide +kernel
theorem dX6_size_4 : decode cX6_size 4 = .ok (.aload_n 0, 1) := by decide +kernel
theorem dX6_size_5 : decode cX6_size 5 = .ok (.getfield 25, 3) := by decide +kernel
theorem dX6_size_8 : decode cX6_size 8 = .ok (.goto 7, 3) := by decide +kernel
theorem dX6_size_11 : decode cX6_size 11 = .ok (.aload_n 0, 1) := by decide +kernel
theorem dX6_size_12 : decode cX6_size 12 = .ok (.getfield 28, 3) := by decide +kernel
theorem dX6_size_15 : decode cX6_size 15 = .ok (.ireturn, 1) := by decide +kernel
theorem dX6_end_0 : decode cX6_end 0 = .ok (.aload_n 0, 1) := by decide +kernel
theorem dX6_end_1 : decode cX6_end 1 = .ok (.iload_n 1, 1) := by decide +kernel
theorem dX6_end_2 : decode cX6_end 2 = .ok (.invokevirtual 37, 3) := by decide +kernel
theorem dX6_end_5 : decode cX6_end 5 = .ok (.aload_n 0, 1) := by decide +kernel
theorem dX6_end_6 : decode cX6_end 6 = .ok (.iload_n 1, 1) := by decide +kernel
theorem dX6_end_7 : decode cX6_end 7 = .ok (.invokevirtual 41, 3) := by decide +kernel
theorem dX6_end_10 : decode cX6_end 10 = .ok (.iadd, 1) := by decide +kernel
theorem dX6_end_11 : decode cX6_end 11 = .ok (.ireturn, 1) := by decide +kernel
theorem dX6_center_0 : decode cX6_center 0 = .ok (.aload_n 0, 1) := by decide +kernel
theorem dX6_center_1 : decode cX6_center 1 = .ok (.iload_n 1, 1) := by decide +kernel
theorem dX6_center_2 : decode cX6_center 2 = .ok (.invokevirtual 37, 3) := by decide +kernel
theorem dX6_center_5 : decode cX6_center 5 = .ok (.aload_n 0, 1) := by decide +kernel
theorem dX6_center_6 : decode cX6_center 6 = .ok (.iload_n 1, 1) := by decide +kernel
theorem dX6_center_7 : decode cX6_center 7 = .ok (.invokevirtual 41, 3) := by decide +kernel
theorem dX6_center_10 : decode cX6_center 10 = .ok (.iconst 2, 1) := by decide +kernel
theorem dX6_center_11 : decode cX6_center 11 = .ok (.invokestatic 44, 3) := by decide +kernel
theorem dX6_center_14 : decode cX6_center 14 = .ok (.iadd, 1) := by decide +kernel
theorem dX6_center_15 : decode cX6_center 15 = .ok (.ireturn, 1) := by decide +kernel
theorem dX6_shift_0 : decode cX6_shift 0 = .ok (.iload_n 1, 1) := by decide +kernel
theorem dX6_shift_1 : decode cX6_shift 1 = .ok (.ifCond .ne 16, 3) := by decide +kernel
theorem dX6_shift_4 : decode cX6_shift 4 = .ok (.aload_n 0, 1) := by decide +kernel
theorem dX6_shift_5 : decode cX6_shift 5 = .ok (.dup, 1) := by decide +kernel
theorem dX6_shift_6 : decode cX6_shift 6 = .ok (.getfield 19, 3) := by decide +kernel
theorem dX6_shift_9 : decode cX6_shift 9 = .ok (.iload_n 2, 1) := by decide +kernel
theorem dX6_shift_10 : decode cX6_shift 10 = .ok (.iadd, 1) := by decide +kernel
theorem dX6_shift_11 : decode cX6_shift 11 = .ok (.putfield 19, 3) := by decide +kernel
theorem dX6_shift_14 : decode cX6_shift 14 = .ok (.goto 13, 3) := by decide +kernel
theorem dX6_shift_17 : decode cX6_shift 17 = .ok (.aload_n 0, 1) := by decide +kernel
theorem dX6_shift_18 : decode cX6_shift 18 = .ok (.dup, 1) := by decide +kernel
theorem dX6_shift_19 : decode cX6_shift 19 = .ok (.getfield 22, 3) := by decide +kernel
theorem dX6_shift_22 : decode cX6_shift 22 = .ok (.iload_n 2, 1) := by decide +kernel
theorem dX6_shift_23 : decode cX6_shift 23 = .ok (.iadd, 1) := by decide +kernel
theorem dX6_shift_24 : decode cX6_shift 24 = .ok (.putfield 22, 3) := by decide +kernel
theorem dX6_shift_27 : decode cX6_shift 27 = .ok (.return_, 1) := by decide +kernel
theorem dX6_portPlace_0 : decode cX6_portPlace 0 = .ok (.iload_n 1, 1) := by decide +kernel
theorem dX6_portPlace_1 : decode cX6_portPlace 1 = .ok (.iconst 1, 1) := by decide +kernel
theorem dX6_portPlace_2 : decode cX6_portPlace 2 = .ok (.if_icmp .eq 8, 3) := by decide +kernel
theorem dX6_portPlace_5 : decode cX6_portPlace 5 = .ok (.iload_n 1, 1) := by decide +kernel
theorem dX6_portPlace_6 : decode cX6_portPlace 6 = .ok (.iconst 3, 1) := by decide +kernel
theorem dX6_portPlace_7 : decode cX6_portPlace 7 = .ok (.if_icmp .ne 7, 3) := by decide +kernel
theorem dX6_portPlace_10 : decode cX6_portPlace 10 = .ok (.iconst 0, 1) := by decide +kernel
theorem dX6_portPlace_11 : decode cX6_portPlace 11 = .ok (.goto 4, 3) := by decide +kernel
theorem dX6_portPlace_14 : decode cX6_portPlace 14 = .ok (.iconst 1, 1) := by decide +kernel
theorem dX6_portPlace_15 : decode cX6_portPlace 15 = .ok (.istore_n 3, 1) := by decide +kernel
theorem dX6_portPlace_16 : decode cX6_portPlace 16 = .ok (.iload_n 2, 1) := by decide +kernel
theorem dX6_portPlace_17 : decode cX6_portPlace 17 = .ok (.iload_n 3, 1) := by decide +kernel
theorem dX6_portPlace_18 : decode cX6_portPlace 18 = .ok (.if_icmp .eq 9, 3) := by decide +kernel
theorem dX6_portPlace_21 : decode cX6_portPlace 21 = .ok (.aload_n 0, 1) := by decide +kernel
theorem dX6_portPlace_22 : decode cX6_portPlace 22 = .ok (.iload_n 2, 1) := by decide +kernel
theorem dX6_portPlace_23 : decode cX6_portPlace 23 = .ok (.invokevirtual 50, 3) := by decide +kernel
theorem dX6_portPlace_26 : decode cX6_portPlace 26 = .ok (.ireturn, 1) := by decide +kernel
theorem dX6_portPlace_27 : decode cX6_portPlace 27 = .ok (.iload_n 1, 1) := by decide +kernel
theorem dX6_portPlace_28 : decode cX6_portPlace 28 = .ok (.iconst 1, 1) := by decide +kernel
theorem dX6_portPlace_29 : decode cX6_portPlace 29 = .ok (.if_icmp .eq 8, 3) := by decide +kernel
theorem dX6_portPlace_32 : decode cX6_portPlace 32 = .ok (.iload_n 1, 1) := by decide +kernel
theorem dX6_portPlace_33 : decode cX6_portPlace 33 = .ok (.iconst 2, 1) := by decide +kernel
theorem dX6_portPlace_34 : decode cX6_portPlace 34 = .ok (.if_icmp .ne 11, 3) := by decide +kernel
theorem dX6_portPlace_37 : decode cX6_portPlace 37 = .ok (.aload_n 0, 1) := by decide +kernel
theorem dX6_portPlace_38 : decode cX6_portPlace 38 = .ok (.iload_n 2, 1) := by decide +kernel
theorem dX6_portPlace_39 : decode cX6_portPlace 39 = .ok (.invokevirtual 53, 3) := by decide +kernel
theorem dX6_portPlace_42 : decode cX6_portPlace 42 = .ok (.goto 8, 3) := by decide +kernel
theorem dX6_portPlace_45 : decode cX6_portPlace 45 = .ok (.aload_n 0, 1) := by decide +kernel
theorem dX6_portPlace_46 : decode cX6_portPlace 46 = .ok (.iload_n 2, 1) := by decide +kernel
theorem dX6_portPlace_47 : decode cX6_portPlace 47 = .ok (.invokevirtual 37, 3) := by decide +kernel
theorem dX6_portPlace_50 : decode cX6_portPlace 50 = .ok (.ireturn, 1) := by decide +kernel
theorem dX6_holds_0 : decode cX6_holds 0 = .ok (.aload_n 0, 1) := by decide +kernel
theorem dX6_holds_1 : decode cX6_holds 1 = .ok (.getfield 15, 3) := by decide +kernel
theorem dX6_holds_4 : decode cX6_holds 4 = .ok (.iconst 1, 1) := by decide +kernel
theorem dX6_holds_5 : decode cX6_holds 5 = .ok (.if_icmp .eq 49, 3) := by decide +kernel
theorem dX6_holds_8 : decode cX6_holds 8 = .ok (.aload_n 0, 1) := by decide +kernel
theorem dX6_holds_9 : decode cX6_holds 9 = .ok (.getfield 15, 3) := by decide +kernel
theorem dX6_holds_12 : decode cX6_holds 12 = .ok (.iconst 2, 1) := by decide +kernel
theorem dX6_holds_13 : decode cX6_holds 13 = .ok (.if_icmp .eq 41, 3) := by decide +kernel
theorem dX6_holds_16 : decode cX6_holds 16 = .ok (.iload_n 1, 1) := by decide +kernel
theorem dX6_holds_17 : decode cX6_holds 17 = .ok (.aload_n 0, 1) := by decide +kernel
theorem dX6_holds_18 : decode cX6_holds 18 = .ok (.getfield 19, 3) := by decide +kernel
theorem dX6_holds_21 : decode cX6_holds 21 = .ok (.aload_n 0, 1) := by decide +kernel
theorem dX6_holds_22 : decode cX6_holds 22 = .ok (.iconst 0, 1) := by decide +kernel
theorem dX6_holds_23 : decode cX6_holds 23 = .ok (.invokevirtual 53, 3) := by decide +kernel
theorem dX6_holds_26 : decode cX6_holds 26 = .ok (.invokestatic 56, 3) := by decide +kernel
theorem dX6_holds_29 : decode cX6_holds 29 = .ok (.ifCond .eq 23, 3) := by decide +kernel
theorem dX6_holds_32 : decode cX6_holds 32 = .ok (.iload_n 2, 1) := by decide +kernel
theorem dX6_holds_33 : decode cX6_holds 33 = .ok (.aload_n 0, 1) := by decide +kernel
theorem dX6_holds_34 : decode cX6_holds 34 = .ok (.getfield 22, 3) := by decide +kernel
theorem dX6_holds_37 : decode cX6_holds 37 = .ok (.aload_n 0, 1) := by decide +kernel
theorem dX6_holds_38 : decode cX6_holds 38 = .ok (.iconst 1, 1) := by decide +kernel
theorem dX6_holds_39 : decode cX6_holds 39 = .ok (.invokevirtual 53, 3) := by decide +kernel
theorem dX6_holds_42 : decode cX6_holds 42 = .ok (.invokestatic 56, 3) := by decide +kernel
theorem dX6_holds_45 : decode cX6_holds 45 = .ok (.ifCond .eq 7, 3) := by decide +kernel
theorem dX6_holds_48 : decode cX6_holds 48 = .ok (.iconst 1, 1) := by decide +kernel
theorem dX6_holds_49 : decode cX6_holds 49 = .ok (.goto 4, 3) := by decide +kernel
theorem dX6_holds_52 : decode cX6_holds 52 = .ok (.iconst 0, 1) := by decide +kernel
theorem dX6_holds_53 : decode cX6_holds 53 = .ok (.ireturn, 1) := by decide +kernel
theorem dX6_holds_54 : decode cX6_holds 54 = .ok (.ldc2_w 60, 3) := by decide +kernel
theorem dX6_holds_57 : decode cX6_holds 57 = .ok (.iload_n 1, 1) := by decide +kernel
theorem dX6_holds_58 : decode cX6_holds 58 = .ok (.i2l, 1) := by decide +kernel
theorem dX6_holds_59 : decode cX6_holds 59 = .ok (.lmul, 1) := by decide +kernel
theorem dX6_holds_60 : decode cX6_holds 60 = .ok (.ldc2_w 60, 3) := by decide +kernel
theorem dX6_holds_63 : decode cX6_holds 63 = .ok (.aload_n 0, 1) := by decide +kernel
theorem dX6_holds_64 : decode cX6_holds 64 = .ok (.getfield 19, 3) := by decide +kernel
theorem dX6_holds_67 : decode cX6_holds 67 = .ok (.i2l, 1) := by decide +kernel
theorem dX6_holds_68 : decode cX6_holds 68 = .ok (.lmul, 1) := by decide +kernel
theorem dX6_holds_69 : decode cX6_holds 69 = .ok (.lsub, 1) := by decide +kernel
theorem dX6_holds_70 : decode cX6_holds 70 = .ok (.aload_n 0, 1) := by decide +kernel
theorem dX6_holds_71 : decode cX6_holds 71 = .ok (.getfield 25, 3) := by decide +kernel
theorem dX6_holds_74 : decode cX6_holds 74 = .ok (.i2l, 1) := by decide +kernel
theorem dX6_holds_75 : decode cX6_holds 75 = .ok (.lsub, 1) := by decide +kernel
theorem dX6_holds_76 : decode cX6_holds 76 = .ok (.invokestatic 62, 3) := by decide +kernel
theorem dX6_holds_79 : decode cX6_holds 79 = .ok (.lstore_n 3, 1) := by decide +kernel
theorem dX6_holds_80 : decode cX6_holds 80 = .ok (.ldc2_w 60, 3) := by decide +kernel
theorem dX6_holds_83 : decode cX6_holds 83 = .ok (.iload_n 2, 1) := by decide +kernel
theorem dX6_holds_84 : decode cX6_holds 84 = .ok (.i2l, 1) := by decide +kernel
theorem dX6_holds_85 : decode cX6_holds 85 = .ok (.lmul, 1) := by decide +kernel
theorem dX6_holds_86 : decode cX6_holds 86 = .ok (.ldc2_w 60, 3) := by decide +kernel
theorem dX6_holds_89 : decode cX6_holds 89 = .ok (.aload_n 0, 1) := by decide +kernel
theorem dX6_holds_90 : decode cX6_holds 90 = .ok (.getfield 22, 3) := by decide +kernel
theorem dX6_holds_93 : decode cX6_holds 93 = .ok (.i2l, 1) := by decide +kernel
theorem dX6_holds_94 : decode cX6_holds 94 = .ok (.lmul, 1) := by decide +kernel
theorem dX6_holds_95 : decode cX6_holds 95 = .ok (.lsub, 1) := by decide +kernel
theorem dX6_holds_96 : decode cX6_holds 96 = .ok (.aload_n 0, 1) := by decide +kernel
theorem dX6_holds_97 : decode cX6_holds 97 = .ok (.getfield 28, 3) := by decide +kernel
theorem dX6_holds_100 : decode cX6_holds 100 = .ok (.i2l, 1) := by decide +kernel
theorem dX6_holds_101 : decode cX6_holds 101 = .ok (.lsub, 1) := by decide +kernel
theorem dX6_holds_102 : decode cX6_holds 102 = .ok (.invokestatic 62, 3) := by decide +kernel
theorem dX6_holds_105 : decode cX6_holds 105 = .ok (.lstore 5, 2) := by decide +kernel
theorem dX6_holds_107 : decode cX6_holds 107 = .ok (.aload_n 0, 1) := by decide +kernel
theorem dX6_holds_108 : decode cX6_holds 108 = .ok (.getfield 25, 3) := by decide +kernel
theorem dX6_holds_111 : decode cX6_holds 111 = .ok (.i2l, 1) := by decide +kernel
theorem dX6_holds_112 : decode cX6_holds 112 = .ok (.lstore 7, 2) := by decide +kernel
theorem dX6_holds_114 : decode cX6_holds 114 = .ok (.aload_n 0, 1) := by decide +kernel
theorem dX6_holds_115 : decode cX6_holds 115 = .ok (.getfield 28, 3) := by decide +kernel
theorem dX6_holds_118 : decode cX6_holds 118 = .ok (.i2l, 1) := by decide +kernel
theorem dX6_holds_119 : decode cX6_holds 119 = .ok (.lstore 9, 2) := by decide +kernel
theorem dX6_holds_121 : decode cX6_holds 121 = .ok (.aload_n 0, 1) := by decide +kernel
theorem dX6_holds_122 : decode cX6_holds 122 = .ok (.getfield 15, 3) := by decide +kernel
theorem dX6_holds_125 : decode cX6_holds 125 = .ok (.iconst 1, 1) := by decide +kernel
theorem dX6_holds_126 : decode cX6_holds 126 = .ok (.if_icmp .ne 45, 3) := by decide +kernel
theorem dX6_holds_129 : decode cX6_holds 129 = .ok (.lload_n 3, 1) := by decide +kernel
theorem dX6_holds_130 : decode cX6_holds 130 = .ok (.lload_n 3, 1) := by decide +kernel
theorem dX6_holds_131 : decode cX6_holds 131 = .ok (.lmul, 1) := by decide +kernel
theorem dX6_holds_132 : decode cX6_holds 132 = .ok (.lload 9, 2) := by decide +kernel
theorem dX6_holds_134 : decode cX6_holds 134 = .ok (.lmul, 1) := by decide +kernel
theorem dX6_holds_135 : decode cX6_holds 135 = .ok (.lload 9, 2) := by decide +kernel
theorem dX6_holds_137 : decode cX6_holds 137 = .ok (.lmul, 1) := by decide +kernel
theorem dX6_holds_138 : decode cX6_holds 138 = .ok (.lload 5, 2) := by decide +kernel
theorem dX6_holds_140 : decode cX6_holds 140 = .ok (.lload 5, 2) := by decide +kernel
theorem dX6_holds_142 : decode cX6_holds 142 = .ok (.lmul, 1) := by decide +kernel
theorem dX6_holds_143 : decode cX6_holds 143 = .ok (.lload 7, 2) := by decide +kernel
theorem dX6_holds_145 : decode cX6_holds 145 = .ok (.lmul, 1) := by decide +kernel
theorem dX6_holds_146 : decode cX6_holds 146 = .ok (.lload 7, 2) := by decide +kernel
theorem dX6_holds_148 : decode cX6_holds 148 = .ok (.lmul, 1) := by decide +kernel
theorem dX6_holds_149 : decode cX6_holds 149 = .ok (.ladd, 1) := by decide +kernel
theorem dX6_holds_150 : decode cX6_holds 150 = .ok (.lload 7, 2) := by decide +kernel
theorem dX6_holds_152 : decode cX6_holds 152 = .ok (.lload 7, 2) := by decide +kernel
theorem dX6_holds_154 : decode cX6_holds 154 = .ok (.lmul, 1) := by decide +kernel
theorem dX6_holds_155 : decode cX6_holds 155 = .ok (.lload 9, 2) := by decide +kernel
theorem dX6_holds_157 : decode cX6_holds 157 = .ok (.lmul, 1) := by decide +kernel
theorem dX6_holds_158 : decode cX6_holds 158 = .ok (.lload 9, 2) := by decide +kernel
theorem dX6_holds_160 : decode cX6_holds 160 = .ok (.lmul, 1) := by decide +kernel
theorem dX6_holds_161 : decode cX6_holds 161 = .ok (.lcmp, 1) := by decide +kernel
theorem dX6_holds_162 : decode cX6_holds 162 = .ok (.ifCond .gt 7, 3) := by decide +kernel
theorem dX6_holds_165 : decode cX6_holds 165 = .ok (.iconst 1, 1) := by decide +kernel
theorem dX6_holds_166 : decode cX6_holds 166 = .ok (.goto 4, 3) := by decide +kernel
theorem dX6_holds_169 : decode cX6_holds 169 = .ok (.iconst 0, 1) := by decide +kernel
theorem dX6_holds_170 : decode cX6_holds 170 = .ok (.ireturn, 1) := by decide +kernel
theorem dX6_holds_171 : decode cX6_holds 171 = .ok (.lload_n 3, 1) := by decide +kernel
theorem dX6_holds_172 : decode cX6_holds 172 = .ok (.lload 9, 2) := by decide +kernel
theorem dX6_holds_174 : decode cX6_holds 174 = .ok (.lmul, 1) := by decide +kernel
theorem dX6_holds_175 : decode cX6_holds 175 = .ok (.lload 5, 2) := by decide +kernel
theorem dX6_holds_177 : decode cX6_holds 177 = .ok (.lload 7, 2) := by decide +kernel
theorem dX6_holds_179 : decode cX6_holds 179 = .ok (.lmul, 1) := by decide +kernel
theorem dX6_holds_180 : decode cX6_holds 180 = .ok (.ladd, 1) := by decide +kernel
theorem dX6_holds_181 : decode cX6_holds 181 = .ok (.lload 7, 2) := by decide +kernel
theorem dX6_holds_183 : decode cX6_holds 183 = .ok (.lload 9, 2) := by decide +kernel
theorem dX6_holds_185 : decode cX6_holds 185 = .ok (.lmul, 1) := by decide +kernel
theorem dX6_holds_186 : decode cX6_holds 186 = .ok (.lcmp, 1) := by decide +kernel
theorem dX6_holds_187 : decode cX6_holds 187 = .ok (.ifCond .gt 7, 3) := by decide +kernel
theorem dX6_holds_190 : decode cX6_holds 190 = .ok (.iconst 1, 1) := by decide +kernel
theorem dX6_holds_191 : decode cX6_holds 191 = .ok (.goto 4, 3) := by decide +kernel
theorem dX6_holds_194 : decode cX6_holds 194 = .ok (.iconst 0, 1) := by decide +kernel
theorem dX6_holds_195 : decode cX6_holds 195 = .ok (.ireturn, 1) := by decide +kernel
theorem dX6_isCrossed_0 : decode cX6_isCrossed 0 = .ok (.iload_n 1, 1) := by decide +kernel
theorem dX6_isCrossed_1 : decode cX6_isCrossed 1 = .ok (.iload_n 3, 1) := by decide +kernel
theorem dX6_isCrossed_2 : decode cX6_isCrossed 2 = .ok (.invokestatic 66, 3) := by decide +kernel
theorem dX6_isCrossed_5 : decode cX6_isCrossed 5 = .ok (.aload_n 0, 1) := by decide +kernel
theorem dX6_isCrossed_6 : decode cX6_isCrossed 6 = .ok (.getfield 19, 3) := by decide +kernel
theorem dX6_isCrossed_9 : decode cX6_isCrossed 9 = .ok (.if_icmp .le 16, 3) := by decide +kernel
theorem dX6_isCrossed_12 : decode cX6_isCrossed 12 = .ok (.iload_n 1, 1) := by decide +kernel
theorem dX6_isCrossed_13 : decode cX6_isCrossed 13 = .ok (.iload_n 3, 1) := by decide +kernel
theorem dX6_isCrossed_14 : decode cX6_isCrossed 14 = .ok (.invokestatic 69, 3) := by decide +kernel
theorem dX6_isCrossed_17 : decode cX6_isCrossed 17 = .ok (.aload_n 0, 1) := by decide +kernel
theorem dX6_isCrossed_18 : decode cX6_isCrossed 18 = .ok (.iconst 0, 1) := by decide +kernel
theorem dX6_isCrossed_19 : decode cX6_isCrossed 19 = .ok (.invokevirtual 53, 3) := by decide +kernel
theorem dX6_isCrossed_22 : decode cX6_isCrossed 22 = .ok (.if_icmp .lt 5, 3) := by decide +kernel
theorem dX6_isCrossed_25 : decode cX6_isCrossed 25 = .ok (.iconst 0, 1) := by decide +kernel
theorem dX6_isCrossed_26 : decode cX6_isCrossed 26 = .ok (.ireturn, 1) := by decide +kernel
theorem dX6_isCrossed_27 : decode cX6_isCrossed 27 = .ok (.iload_n 2, 1) := by decide +kernel
theorem dX6_isCrossed_28 : decode cX6_isCrossed 28 = .ok (.iload 4, 2) := by decide +kernel
theorem dX6_isCrossed_30 : decode cX6_isCrossed 30 = .ok (.invokestatic 66, 3) := by decide +kernel
theorem dX6_isCrossed_33 : decode cX6_isCrossed 33 = .ok (.aload_n 0, 1) := by decide +kernel
theorem dX6_isCrossed_34 : decode cX6_isCrossed 34 = .ok (.getfield 22, 3) := by decide +kernel
theorem dX6_isCrossed_37 : decode cX6_isCrossed 37 = .ok (.if_icmp .le 17, 3) := by decide +kernel
theorem dX6_isCrossed_40 : decode cX6_isCrossed 40 = .ok (.iload_n 2, 1) := by decide +kernel
theorem dX6_isCrossed_41 : decode cX6_isCrossed 41 = .ok (.iload 4, 2) := by decide +kernel
theorem dX6_isCrossed_43 : decode cX6_isCrossed 43 = .ok (.invokestatic 69, 3) := by decide +kernel
theorem dX6_isCrossed_46 : decode cX6_isCrossed 46 = .ok (.aload_n 0, 1) := by decide +kernel
theorem dX6_isCrossed_47 : decode cX6_isCrossed 47 = .ok (.iconst 1, 1) := by decide +kernel
theorem dX6_isCrossed_48 : decode cX6_isCrossed 48 = .ok (.invokevirtual 53, 3) := by decide +kernel
theorem dX6_isCrossed_51 : decode cX6_isCrossed 51 = .ok (.if_icmp .lt 5, 3) := by decide +kernel
theorem dX6_isCrossed_54 : decode cX6_isCrossed 54 = .ok (.iconst 0, 1) := by decide +kernel
theorem dX6_isCrossed_55 : decode cX6_isCrossed 55 = .ok (.ireturn, 1) := by decide +kernel
theorem dX6_isCrossed_56 : decode cX6_isCrossed 56 = .ok (.iload_n 1, 1) := by decide +kernel
theorem dX6_isCrossed_57 : decode cX6_isCrossed 57 = .ok (.iload_n 3, 1) := by decide +kernel
theorem dX6_isCrossed_58 : decode cX6_isCrossed 58 = .ok (.if_icmp .eq 21, 3) := by decide +kernel
theorem dX6_isCrossed_61 : decode cX6_isCrossed 61 = .ok (.iload_n 2, 1) := by decide +kernel
theorem dX6_isCrossed_62 : decode cX6_isCrossed 62 = .ok (.iload 4, 2) := by decide +kernel
theorem dX6_isCrossed_64 : decode cX6_isCrossed 64 = .ok (.if_icmp .eq 15, 3) := by decide +kernel
theorem dX6_isCrossed_67 : decode cX6_isCrossed 67 = .ok (.aload_n 0, 1) := by decide +kernel
theorem dX6_isCrossed_68 : decode cX6_isCrossed 68 = .ok (.iload_n 1, 1) := by decide +kernel
theorem dX6_isCrossed_69 : decode cX6_isCrossed 69 = .ok (.iload_n 2, 1) := by decide +kernel
theorem dX6_isCrossed_70 : decode cX6_isCrossed 70 = .ok (.iload_n 3, 1) := by decide +kernel
theorem dX6_isCrossed_71 : decode cX6_isCrossed 71 = .ok (.iload 4, 2) := by decide +kernel
theorem dX6_isCrossed_73 : decode cX6_isCrossed 73 = .ok (.invokevirtual 72, 3) := by decide +kernel
theorem dX6_isCrossed_76 : decode cX6_isCrossed 76 = .ok (.ifCond .eq 7, 3) := by decide +kernel
theorem dX6_isCrossed_79 : decode cX6_isCrossed 79 = .ok (.iconst 1, 1) := by decide +kernel
theorem dX6_isCrossed_80 : decode cX6_isCrossed 80 = .ok (.goto 4, 3) := by decide +kernel
theorem dX6_isCrossed_83 : decode cX6_isCrossed 83 = .ok (.iconst 0, 1) := by decide +kernel
theorem dX6_isCrossed_84 : decode cX6_isCrossed 84 = .ok (.ireturn, 1) := by decide +kernel
theorem dX6_hasCornersOnBothSides_0 : decode cX6_hasCornersOnBothSides 0 = .ok (.iload_n 3, 1) := by decide +kernel
theorem dX6_hasCornersOnBothSides_1 : decode cX6_hasCornersOnBothSides 1 = .ok (.iload_n 1, 1) := by decide +kernel
theorem dX6_hasCornersOnBothSides_2 : decode cX6_hasCornersOnBothSides 2 = .ok (.isub, 1) := by decide +kernel
theorem dX6_hasCornersOnBothSides_3 : decode cX6_hasCornersOnBothSides 3 = .ok (.i2l, 1) := by decide +kernel
theorem dX6_hasCornersOnBothSides_4 : decode cX6_hasCornersOnBothSides 4 = .ok (.lstore 5, 2) := by decide +kernel
theorem dX6_hasCornersOnBothSides_6 : decode cX6_hasCornersOnBothSides 6 = .ok (.iload 4, 2) := by decide +kernel
theorem dX6_hasCornersOnBothSides_8 : decode cX6_hasCornersOnBothSides 8 = .ok (.iload_n 2, 1) := by decide +kernel
theorem dX6_hasCornersOnBothSides_9 : decode cX6_hasCornersOnBothSides 9 = .ok (.isub, 1) := by decide +kernel
theorem dX6_hasCornersOnBothSides_10 : decode cX6_hasCornersOnBothSides 10 = .ok (.i2l, 1) := by decide +kernel
theorem dX6_hasCornersOnBothSides_11 : decode cX6_hasCornersOnBothSides 11 = .ok (.lstore 7, 2) := by decide +kernel
theorem dX6_hasCornersOnBothSides_13 : decode cX6_hasCornersOnBothSides 13 = .ok (.lload 7, 2) := by decide +kernel
theorem dX6_hasCornersOnBothSides_15 : decode cX6_hasCornersOnBothSides 15 = .ok (.aload_n 0, 1) := by decide +kernel
theorem dX6_hasCornersOnBothSides_16 : decode cX6_hasCornersOnBothSides 16 = .ok (.getfield 19, 3) := by decide +kernel
theorem dX6_hasCornersOnBothSides_19 : decode cX6_hasCornersOnBothSides 19 = .ok (.iload_n 1, 1) := by decide +kernel
theorem dX6_hasCornersOnBothSides_20 : decode cX6_hasCornersOnBothSides 20 = .ok (.isub, 1) := by decide +kernel
theorem dX6_hasCornersOnBothSides_21 : decode cX6_hasCornersOnBothSides 21 = .ok (.i2l, 1) := by decide +kernel
theorem dX6_hasCornersOnBothSides_22 : decode cX6_hasCornersOnBothSides 22 = .ok (.lmul, 1) := by decide +kernel
theorem dX6_hasCornersOnBothSides_23 : decode cX6_hasCornersOnBothSides 23 = .ok (.lstore 9, 2) := by decide +kernel
theorem dX6_hasCornersOnBothSides_25 : decode cX6_hasCornersOnBothSides 25 = .ok (.lload 7, 2) := by decide +kernel
theorem dX6_hasCornersOnBothSides_27 : decode cX6_hasCornersOnBothSides 27 = .ok (.aload_n 0, 1) := by decide +kernel
theorem dX6_hasCornersOnBothSides_28 : decode cX6_hasCornersOnBothSides 28 = .ok (.iconst 0, 1) := by decide +kernel
theorem dX6_hasCornersOnBothSides_29 : decode cX6_hasCornersOnBothSides 29 = .ok (.invokevirtual 53, 3) := by decide +kernel
theorem dX6_hasCornersOnBothSides_32 : decode cX6_hasCornersOnBothSides 32 = .ok (.iload_n 1, 1) := by decide +kernel
theorem dX6_hasCornersOnBothSides_33 : decode cX6_hasCornersOnBothSides 33 = .ok (.isub, 1) := by decide +kernel
theorem dX6_hasCornersOnBothSides_34 : decode cX6_hasCornersOnBothSides 34 = .ok (.i2l, 1) := by decide +kernel
theorem dX6_hasCornersOnBothSides_35 : decode cX6_hasCornersOnBothSides 35 = .ok (.lmul, 1) := by decide +kernel
theorem dX6_hasCornersOnBothSides_36 : decode cX6_hasCornersOnBothSides 36 = .ok (.lstore 11, 2) := by decide +kernel
theorem dX6_hasCornersOnBothSides_38 : decode cX6_hasCornersOnBothSides 38 = .ok (.lload 5, 2) := by decide +kernel
theorem dX6_hasCornersOnBothSides_40 : decode cX6_hasCornersOnBothSides 40 = .ok (.aload_n 0, 1) := by decide +kernel
theorem dX6_hasCornersOnBothSides_41 : decode cX6_hasCornersOnBothSides 41 = .ok (.getfield 22, 3) := by decide +kernel
theorem dX6_hasCornersOnBothSides_44 : decode cX6_hasCornersOnBothSides 44 = .ok (.iload_n 2, 1) := by decide +kernel
theorem dX6_hasCornersOnBothSides_45 : decode cX6_hasCornersOnBothSides 45 = .ok (.isub, 1) := by decide +kernel
theorem dX6_hasCornersOnBothSides_46 : decode cX6_hasCornersOnBothSides 46 = .ok (.i2l, 1) := by decide +kernel
theorem dX6_hasCornersOnBothSides_47 : decode cX6_hasCornersOnBothSides 47 = .ok (.lmul, 1) := by decide +kernel
theorem dX6_hasCornersOnBothSides_48 : decode cX6_hasCornersOnBothSides 48 = .ok (.lstore 13, 2) := by decide +kernel
theorem dX6_hasCornersOnBothSides_50 : decode cX6_hasCornersOnBothSides 50 = .ok (.lload 5, 2) := by decide +kernel
theorem dX6_hasCornersOnBothSides_52 : decode cX6_hasCornersOnBothSides 52 = .ok (.aload_n 0, 1) := by decide +kernel
theorem dX6_hasCornersOnBothSides_53 : decode cX6_hasCornersOnBothSides 53 = .ok (.iconst 1, 1) := by decide +kernel
theorem dX6_hasCornersOnBothSides_54 : decode cX6_hasCornersOnBothSides 54 = .ok (.invokevirtual 53, 3) := by decide +kernel
theorem dX6_hasCornersOnBothSides_57 : decode cX6_hasCornersOnBothSides 57 = .ok (.iload_n 2, 1) := by decide +kernel
theorem dX6_hasCornersOnBothSides_58 : decode cX6_hasCornersOnBothSides 58 = .ok (.isub, 1) := by decide +kernel
theorem dX6_hasCornersOnBothSides_59 : decode cX6_hasCornersOnBothSides 59 = .ok (.i2l, 1) := by decide +kernel
theorem dX6_hasCornersOnBothSides_60 : decode cX6_hasCornersOnBothSides 60 = .ok (.lmul, 1) := by decide +kernel
theorem dX6_hasCornersOnBothSides_61 : decode cX6_hasCornersOnBothSides 61 = .ok (.lstore 15, 2) := by decide +kernel
theorem dX6_hasCornersOnBothSides_63 : decode cX6_hasCornersOnBothSides 63 = .ok (.lload 13, 2) := by decide +kernel
theorem dX6_hasCornersOnBothSides_65 : decode cX6_hasCornersOnBothSides 65 = .ok (.lload 15, 2) := by decide +kernel
theorem dX6_hasCornersOnBothSides_67 : decode cX6_hasCornersOnBothSides 67 = .ok (.invokestatic 76, 3) := by decide +kernel
theorem dX6_hasCornersOnBothSides_70 : decode cX6_hasCornersOnBothSides 70 = .ok (.lload 9, 2) := by decide +kernel
theorem dX6_hasCornersOnBothSides_72 : decode cX6_hasCornersOnBothSides 72 = .ok (.lload 11, 2) := by decide +kernel
theorem dX6_hasCornersOnBothSides_74 : decode cX6_hasCornersOnBothSides 74 = .ok (.invokestatic 79, 3) := by decide +kernel
theorem dX6_hasCornersOnBothSides_77 : decode cX6_hasCornersOnBothSides 77 = .ok (.lsub, 1) := by decide +kernel
theorem dX6_hasCornersOnBothSides_78 : decode cX6_hasCornersOnBothSides 78 = .ok (.lstore 17, 2) := by decide +kernel
theorem dX6_hasCornersOnBothSides_80 : decode cX6_hasCornersOnBothSides 80 = .ok (.lload 13, 2) := by decide +kernel
theorem dX6_hasCornersOnBothSides_82 : decode cX6_hasCornersOnBothSides 82 = .ok (.lload 15, 2) := by decide +kernel
theorem dX6_hasCornersOnBothSides_84 : decode cX6_hasCornersOnBothSides 84 = .ok (.invokestatic 79, 3) := by decide +kernel
theorem dX6_hasCornersOnBothSides_87 : decode cX6_hasCornersOnBothSides 87 = .ok (.lload 9, 2) := by decide +kernel
theorem dX6_hasCornersOnBothSides_89 : decode cX6_hasCornersOnBothSides 89 = .ok (.lload 11, 2) := by decide +kernel
theorem dX6_hasCornersOnBothSides_91 : decode cX6_hasCornersOnBothSides 91 = .ok (.invokestatic 76, 3) := by decide +kernel
theorem dX6_hasCornersOnBothSides_94 : decode cX6_hasCornersOnBothSides 94 = .ok (.lsub, 1) := by decide +kernel
theorem dX6_hasCornersOnBothSides_95 : decode cX6_hasCornersOnBothSides 95 = .ok (.lstore 19, 2) := by decide +kernel
theorem dX6_hasCornersOnBothSides_97 : decode cX6_hasCornersOnBothSides 97 = .ok (.lload 17, 2) := by decide +kernel
theorem dX6_hasCornersOnBothSides_99 : decode cX6_hasCornersOnBothSides 99 = .ok (.lconst 0, 1) := by decide +kernel
theorem dX6_hasCornersOnBothSides_100 : decode cX6_hasCornersOnBothSides 100 = .ok (.lcmp, 1) := by decide +kernel
theorem dX6_hasCornersOnBothSides_101 : decode cX6_hasCornersOnBothSides 101 = .ok (.ifCond .ge 14, 3) := by decide +kernel
theorem dX6_hasCornersOnBothSides_104 : decode cX6_hasCornersOnBothSides 104 = .ok (.lload 19, 2) := by decide +kernel
theorem dX6_hasCornersOnBothSides_106 : decode cX6_hasCornersOnBothSides 106 = .ok (.lconst 0, 1) := by decide +kernel
theorem dX6_hasCornersOnBothSides_107 : decode cX6_hasCornersOnBothSides 107 = .ok (.lcmp, 1) := by decide +kernel
theorem dX6_hasCornersOnBothSides_108 : decode cX6_hasCornersOnBothSides 108 = .ok (.ifCond .le 7, 3) := by decide +kernel
theorem dX6_hasCornersOnBothSides_111 : decode cX6_hasCornersOnBothSides 111 = .ok (.iconst 1, 1) := by decide +kernel
theorem dX6_hasCornersOnBothSides_112 : decode cX6_hasCornersOnBothSides 112 = .ok (.goto 4, 3) := by decide +kernel
theorem dX6_hasCornersOnBothSides_115 : decode cX6_hasCornersOnBothSides 115 = .ok (.iconst 0, 1) := by decide +kernel
theorem dX6_hasCornersOnBothSides_116 : decode cX6_hasCornersOnBothSides 116 = .ok (.ireturn, 1) := by decide +kernel
theorem dX7_init_0 : decode cX7_init 0 = .ok (.aload_n 0, 1) := by decide +kernel
theorem dX7_init_1 : decode cX7_init 1 = .ok (.invokespecial 3, 3) := by decide +kernel
theorem dX7_init_4 : decode cX7_init 4 = .ok (.aload_n 0, 1) := by decide +kernel
theorem dX7_init_5 : decode cX7_init 5 = .ok (.bipush 20, 2) := by decide +kernel
theorem dX7_init_7 : decode cX7_init 7 = .ok (.anewarray 9, 3) := by decide +kernel
theorem dX7_init_10 : decode cX7_init 10 = .ok (.putfield 11, 3) := by decide +kernel
theorem dX7_init_13 : decode cX7_init 13 = .ok (.iconst 0, 1) := by decide +kernel
theorem dX7_init_14 : decode cX7_init 14 = .ok (.istore_n 1, 1) := by decide +kernel
theorem dX7_init_15 : decode cX7_init 15 = .ok (.iload_n 1, 1) := by decide +kernel
theorem dX7_init_16 : decode cX7_init 16 = .ok (.aload_n 0, 1) := by decide +kernel
theorem dX7_init_17 : decode cX7_init 17 = .ok (.getfield 11, 3) := by decide +kernel
theorem dX7_init_20 : decode cX7_init 20 = .ok (.arraylength, 1) := by decide +kernel
theorem dX7_init_21 : decode cX7_init 21 = .ok (.if_icmp .ge 22, 3) := by decide +kernel
theorem dX7_init_24 : decode cX7_init 24 = .ok (.aload_n 0, 1) := by decide +kernel
theorem dX7_init_25 : decode cX7_init 25 = .ok (.getfield 11, 3) := by decide +kernel
theorem dX7_init_28 : decode cX7_init 28 = .ok (.iload_n 1, 1) := by decide +kernel
theorem dX7_init_29 : decode cX7_init 29 = .ok (.new 9, 3) := by decide +kernel
theorem dX7_init_32 : decode cX7_init 32 = .ok (.dup, 1) := by decide +kernel
theorem dX7_init_33 : decode cX7_init 33 = .ok (.invokespecial 17, 3) := by decide +kernel
theorem dX7_init_36 : decode cX7_init 36 = .ok (.aastore, 1) := by decide +kernel
theorem dX7_init_37 : decode cX7_init 37 = .ok (.iinc 1 1, 3) := by decide +kernel
theorem dX7_init_40 : decode cX7_init 40 = .ok (.goto (-25), 3) := by decide +kernel
theorem dX7_init_43 : decode cX7_init 43 = .ok (.return_, 1) := by decide +kernel
theorem dX7_copy_0 : decode cX7_copy 0 = .ok (.iconst 0, 1) := by decide +kernel
theorem dX7_copy_1 : decode cX7_copy 1 = .ok (.istore_n 2, 1) := by decide +kernel
theorem dX7_copy_2 : decode cX7_copy 2 = .ok (.iload_n 2, 1) := by decide +kernel
theorem dX7_copy_3 : decode cX7_copy 3 = .ok (.aload_n 0, 1) := by decide +kernel
theorem dX7_copy_4 : decode cX7_copy 4 = .ok (.getfield 11, 3) := by decide +kernel
theorem dX7_copy_7 : decode cX7_copy 7 = .ok (.arraylength, 1) := by decide +kernel
theorem dX7_copy_8 : decode cX7_copy 8 = .ok (.if_icmp .ge 51, 3) := by decide +kernel
theorem dX7_copy_11 : decode cX7_copy 11 = .ok (.iload_n 2, 1) := by decide +kernel
theorem dX7_copy_12 : decode cX7_copy 12 = .ok (.aload_n 1, 1) := by decide +kernel
theorem dX7_copy_13 : decode cX7_copy 13 = .ok (.getfield 11, 3) := by decide +kernel
theorem dX7_copy_16 : decode cX7_copy 16 = .ok (.arraylength, 1) := by decide +kernel
theorem dX7_copy_17 : decode cX7_copy 17 = .ok (.if_icmp .ge 42, 3) := by decide +kernel
theorem dX7_copy_20 : decode cX7_copy 20 = .ok (.aload_n 0, 1) := by decide +kernel
theorem dX7_copy_21 : decode cX7_copy 21 = .ok (.getfield 11, 3) := by decide +kernel
theorem dX7_copy_24 : decode cX7_copy 24 = .ok (.iload_n 2, 1) := by decide +kernel
theorem dX7_copy_25 : decode cX7_copy 25 = .ok (.aaload, 1) := by decide +kernel
theorem dX7_copy_26 : decode cX7_copy 26 = .ok (.ifnull 27, 3) := by decide +kernel
theorem dX7_copy_29 : decode cX7_copy 29 = .ok (.aload_n 1, 1) := by decide +kernel
theorem dX7_copy_30 : decode cX7_copy 30 = .ok (.getfield 11, 3) := by decide +kernel
theorem dX7_copy_33 : decode cX7_copy 33 = .ok (.iload_n 2, 1) := by decide +kernel
theorem dX7_copy_34 : decode cX7_copy 34 = .ok (.aaload, 1) := by decide +kernel
theorem dX7_copy_35 : decode cX7_copy 35 = .ok (.ifnull 18, 3) := by decide +kernel
theorem dX7_copy_38 : decode cX7_copy 38 = .ok (.aload_n 0, 1) := by decide +kernel
theorem dX7_copy_39 : decode cX7_copy 39 = .ok (.getfield 11, 3) := by decide +kernel
theorem dX7_copy_42 : decode cX7_copy 42 = .ok (.iload_n 2, 1) := by decide +kernel
theorem dX7_copy_43 : decode cX7_copy 43 = .ok (.aaload, 1) := by decide +kernel
theorem dX7_copy_44 : decode cX7_copy 44 = .ok (.aload_n 1, 1) := by decide +kernel
theorem dX7_copy_45 : decode cX7_copy 45 = .ok (.getfield 11, 3) := by decide +kernel
theorem dX7_copy_48 : decode cX7_copy 48 = .ok (.iload_n 2, 1) := by decide +kernel
theorem dX7_copy_49 : decode cX7_copy 49 = .ok (.aaload, 1) := by decide +kernel
theorem dX7_copy_50 : decode cX7_copy 50 = .ok (.invokevirtual 18, 3) := by decide +kernel
theorem dX7_copy_53 : decode cX7_copy 53 = .ok (.iinc 2 1, 3) := by decide +kernel
theorem dX7_copy_56 : decode cX7_copy 56 = .ok (.goto (-54), 3) := by decide +kernel
theorem dX7_copy_59 : decode cX7_copy 59 = .ok (.aload_n 0, 1) := by decide +kernel
theorem dX7_copy_60 : decode cX7_copy 60 = .ok (.aload_n 1, 1) := by decide +kernel
theorem dX7_copy_61 : decode cX7_copy 61 = .ok (.getfield 22, 3) := by decide +kernel
theorem dX7_copy_64 : decode cX7_copy 64 = .ok (.putfield 22, 3) := by decide +kernel
theorem dX7_copy_67 : decode cX7_copy 67 = .ok (.aload_n 0, 1) := by decide +kernel
theorem dX7_copy_68 : decode cX7_copy 68 = .ok (.aload_n 1, 1) := by decide +kernel
theorem dX7_copy_69 : decode cX7_copy 69 = .ok (.getfield 26, 3) := by decide +kernel
theorem dX7_copy_72 : decode cX7_copy 72 = .ok (.putfield 26, 3) := by decide +kernel
theorem dX7_copy_75 : decode cX7_copy 75 = .ok (.return_, 1) := by decide +kernel
theorem dX7_find_0 : decode cX7_find 0 = .ok (.iload_n 1, 1) := by decide +kernel
theorem dX7_find_1 : decode cX7_find 1 = .ok (.ifCond .lt 12, 3) := by decide +kernel
theorem dX7_find_4 : decode cX7_find 4 = .ok (.iload_n 1, 1) := by decide +kernel
theorem dX7_find_5 : decode cX7_find 5 = .ok (.aload_n 0, 1) := by decide +kernel
theorem dX7_find_6 : decode cX7_find 6 = .ok (.getfield 11, 3) := by decide +kernel
theorem dX7_find_9 : decode cX7_find 9 = .ok (.arraylength, 1) := by decide +kernel
theorem dX7_find_10 : decode cX7_find 10 = .ok (.if_icmp .lt 5, 3) := by decide +kernel
theorem dX7_find_13 : decode cX7_find 13 = .ok (.aconst_null, 1) := by decide +kernel
theorem dX7_find_14 : decode cX7_find 14 = .ok (.areturn, 1) := by decide +kernel
theorem dX7_find_15 : decode cX7_find 15 = .ok (.aload_n 0, 1) := by decide +kernel
theorem dX7_find_16 : decode cX7_find 16 = .ok (.getfield 11, 3) := by decide +kernel
theorem dX7_find_19 : decode cX7_find 19 = .ok (.iload_n 1, 1) := by decide +kernel
theorem dX7_find_20 : decode cX7_find 20 = .ok (.aaload, 1) := by decide +kernel
theorem dX7_find_21 : decode cX7_find 21 = .ok (.astore_n 2, 1) := by decide +kernel
theorem dX7_find_22 : decode cX7_find 22 = .ok (.aload_n 2, 1) := by decide +kernel
theorem dX7_find_23 : decode cX7_find 23 = .ok (.ifnull 14, 3) := by decide +kernel
theorem dX7_find_26 : decode cX7_find 26 = .ok (.aload_n 2, 1) := by decide +kernel
theorem dX7_find_27 : decode cX7_find 27 = .ok (.getfield 29, 3) := by decide +kernel
theorem dX7_find_30 : decode cX7_find 30 = .ok (.ifCond .eq 7, 3) := by decide +kernel
theorem dX7_find_33 : decode cX7_find 33 = .ok (.aload_n 2, 1) := by decide +kernel
theorem dX7_find_34 : decode cX7_find 34 = .ok (.goto 4, 3) := by decide +kernel
theorem dX7_find_37 : decode cX7_find 37 = .ok (.aconst_null, 1) := by decide +kernel
theorem dX7_find_38 : decode cX7_find 38 = .ok (.areturn, 1) := by decide +kernel
theorem dX7_count_0 : decode cX7_count 0 = .ok (.iconst 0, 1) := by decide +kernel
theorem dX7_count_1 : decode cX7_count 1 = .ok (.istore_n 1, 1) := by decide +kernel
theorem dX7_count_2 : decode cX7_count 2 = .ok (.iconst 0, 1) := by decide +kernel
theorem dX7_count_3 : decode cX7_count 3 = .ok (.istore_n 2, 1) := by decide +kernel
theorem dX7_count_4 : decode cX7_count 4 = .ok (.iload_n 2, 1) := by decide +kernel
theorem dX7_count_5 : decode cX7_count 5 = .ok (.aload_n 0, 1) := by decide +kernel
theorem dX7_count_6 : decode cX7_count 6 = .ok (.getfield 11, 3) := by decide +kernel
theorem dX7_count_9 : decode cX7_count 9 = .ok (.arraylength, 1) := by decide +kernel
theorem dX7_count_10 : decode cX7_count 10 = .ok (.if_icmp .ge 20, 3) := by decide +kernel
theorem dX7_count_13 : decode cX7_count 13 = .ok (.aload_n 0, 1) := by decide +kernel
theorem dX7_count_14 : decode cX7_count 14 = .ok (.iload_n 2, 1) := by decide +kernel
theorem dX7_count_15 : decode cX7_count 15 = .ok (.invokevirtual 33, 3) := by decide +kernel
theorem dX7_count_18 : decode cX7_count 18 = .ok (.ifnull 6, 3) := by decide +kernel
theorem dX7_count_21 : decode cX7_count 21 = .ok (.iinc 1 1, 3) := by decide +kernel
theorem dX7_count_24 : decode cX7_count 24 = .ok (.iinc 2 1, 3) := by decide +kernel
theorem dX7_count_27 : decode cX7_count 27 = .ok (.goto (-23), 3) := by decide +kernel
theorem dX7_count_30 : decode cX7_count 30 = .ok (.iload_n 1, 1) := by decide +kernel
theorem dX7_count_31 : decode cX7_count 31 = .ok (.ireturn, 1) := by decide +kernel
theorem dX7_add_0 : decode cX7_add 0 = .ok (.aload_n 0, 1) := by decide +kernel
theorem dX7_add_1 : decode cX7_add 1 = .ok (.getfield 22, 3) := by decide +kernel
theorem dX7_add_4 : decode cX7_add 4 = .ok (.istore 6, 2) := by decide +kernel
theorem dX7_add_6 : decode cX7_add 6 = .ok (.iload 6, 2) := by decide +kernel
theorem dX7_add_8 : decode cX7_add 8 = .ok (.ifCond .lt 23, 3) := by decide +kernel
theorem dX7_add_11 : decode cX7_add 11 = .ok (.iload 6, 2) := by decide +kernel
theorem dX7_add_13 : decode cX7_add 13 = .ok (.aload_n 0, 1) := by decide +kernel
theorem dX7_add_14 : decode cX7_add 14 = .ok (.getfield 11, 3) := by decide +kernel
theorem dX7_add_17 : decode cX7_add 17 = .ok (.arraylength, 1) := by decide +kernel
theorem dX7_add_18 : decode cX7_add 18 = .ok (.if_icmp .ge 13, 3) := by decide +kernel
theorem dX7_add_21 : decode cX7_add 21 = .ok (.aload_n 0, 1) := by decide +kernel
theorem dX7_add_22 : decode cX7_add 22 = .ok (.getfield 11, 3) := by decide +kernel
theorem dX7_add_25 : decode cX7_add 25 = .ok (.iload 6, 2) := by decide +kernel
theorem dX7_add_27 : decode cX7_add 27 = .ok (.aaload, 1) := by decide +kernel
theorem dX7_add_28 : decode cX7_add 28 = .ok (.ifnonnull 6, 3) := by decide +kernel
theorem dX7_add_31 : decode cX7_add 31 = .ok (.bipush (-3), 2) := by decide +kernel
theorem dX7_add_33 : decode cX7_add 33 = .ok (.ireturn, 1) := by decide +kernel
theorem dX7_add_34 : decode cX7_add 34 = .ok (.aload_n 0, 1) := by decide +kernel
theorem dX7_add_35 : decode cX7_add 35 = .ok (.getfield 11, 3) := by decide +kernel
theorem dX7_add_38 : decode cX7_add 38 = .ok (.iload 6, 2) := by decide +kernel
theorem dX7_add_40 : decode cX7_add 40 = .ok (.aaload, 1) := by decide +kernel
theorem dX7_add_41 : decode cX7_add 41 = .ok (.astore 7, 2) := by decide +kernel
theorem dX7_add_43 : decode cX7_add 43 = .ok (.aload_n 0, 1) := by decide +kernel
theorem dX7_add_44 : decode cX7_add 44 = .ok (.invokevirtual 37, 3) := by decide +kernel
theorem dX7_add_47 : decode cX7_add 47 = .ok (.istore 8, 2) := by decide +kernel
theorem dX7_add_49 : decode cX7_add 49 = .ok (.aload 7, 2) := by decide +kernel
theorem dX7_add_51 : decode cX7_add 51 = .ok (.iconst 1, 1) := by decide +kernel
theorem dX7_add_52 : decode cX7_add 52 = .ok (.putfield 29, 3) := by decide +kernel
theorem dX7_add_55 : decode cX7_add 55 = .ok (.aload 7, 2) := by decide +kernel
theorem dX7_add_57 : decode cX7_add 57 = .ok (.iload_n 1, 1) := by decide +kernel
theorem dX7_add_58 : decode cX7_add 58 = .ok (.putfield 41, 3) := by decide +kernel
theorem dX7_add_61 : decode cX7_add 61 = .ok (.aload 7, 2) := by decide +kernel
theorem dX7_add_63 : decode cX7_add 63 = .ok (.iload_n 2, 1) := by decide +kernel
theorem dX7_add_64 : decode cX7_add 64 = .ok (.putfield 44, 3) := by decide +kernel
theorem dX7_add_67 : decode cX7_add 67 = .ok (.aload 7, 2) := by decide +kernel
theorem dX7_add_69 : decode cX7_add 69 = .ok (.iload_n 3, 1) := by decide +kernel
theorem dX7_add_70 : decode cX7_add 70 = .ok (.putfield 47, 3) := by decide +kernel
theorem dX7_add_73 : decode cX7_add 73 = .ok (.aload 7, 2) := by decide +kernel
theorem dX7_add_75 : decode cX7_add 75 = .ok (.iload 4, 2) := by decide +kernel
theorem dX7_add_77 : decode cX7_add 77 = .ok (.putfield 50, 3) := by decide +kernel
theorem dX7_add_80 : decode cX7_add 80 = .ok (.aload 7, 2) := by decide +kernel
theorem dX7_add_82 : decode cX7_add 82 = .ok (.iload 5, 2) := by decide +kernel
theorem dX7_add_84 : decode cX7_add 84 = .ok (.putfield 53, 3) := by decide +kernel
theorem dX7_add_87 : decode cX7_add 87 = .ok (.aload 7, 2) := by decide +kernel
theorem dX7_add_89 : decode cX7_add 89 = .ok (.iload 8, 2) := by decide +kernel
theorem dX7_add_91 : decode cX7_add 91 = .ok (.putfield 56, 3) := by decide +kernel
theorem dX7_add_94 : decode cX7_add 94 = .ok (.aload 7, 2) := by decide +kernel
theorem dX7_add_96 : decode cX7_add 96 = .ok (.ldc 59, 2) := by decide +kernel
theorem dX7_add_98 : decode cX7_add 98 = .ok (.putfield 60, 3) := by decide +kernel
theorem dX7_add_101 : decode cX7_add 101 = .ok (.aload_n 0, 1) := by decide +kernel
theorem dX7_add_102 : decode cX7_add 102 = .ok (.aload 7, 2) := by decide +kernel
theorem dX7_add_104 : decode cX7_add 104 = .ok (.iconst 0, 1) := by decide +kernel
theorem dX7_add_105 : decode cX7_add 105 = .ok (.invokevirtual 63, 3) := by decide +kernel
theorem dX7_add_108 : decode cX7_add 108 = .ok (.aload_n 0, 1) := by decide +kernel
theorem dX7_add_109 : decode cX7_add 109 = .ok (.dup, 1) := by decide +kernel
theorem dX7_add_110 : decode cX7_add 110 = .ok (.getfield 22, 3) := by decide +kernel
theorem dX7_add_113 : decode cX7_add 113 = .ok (.iconst 1, 1) := by decide +kernel
theorem dX7_add_114 : decode cX7_add 114 = .ok (.iadd, 1) := by decide +kernel
theorem dX7_add_115 : decode cX7_add 115 = .ok (.putfield 22, 3) := by decide +kernel
theorem dX7_add_118 : decode cX7_add 118 = .ok (.iload 6, 2) := by decide +kernel
theorem dX7_add_120 : decode cX7_add 120 = .ok (.ireturn, 1) := by decide +kernel
theorem dX7_drop_0 : decode cX7_drop 0 = .ok (.aload_n 0, 1) := by decide +kernel
theorem dX7_drop_1 : decode cX7_drop 1 = .ok (.iload_n 1, 1) := by decide +kernel
theorem dX7_drop_2 : decode cX7_drop 2 = .ok (.invokevirtual 33, 3) := by decide +kernel
theorem dX7_drop_5 : decode cX7_drop 5 = .ok (.astore_n 2, 1) := by decide +kernel
theorem dX7_drop_6 : decode cX7_drop 6 = .ok (.aload_n 2, 1) := by decide +kernel
theorem dX7_drop_7 : decode cX7_drop 7 = .ok (.ifnull 33, 3) := by decide +kernel
theorem dX7_drop_10 : decode cX7_drop 10 = .ok (.aload_n 0, 1) := by decide +kernel
theorem dX7_drop_11 : decode cX7_drop 11 = .ok (.aload_n 2, 1) := by decide +kernel
theorem dX7_drop_12 : decode cX7_drop 12 = .ok (.aload_n 0, 1) := by decide +kernel
theorem dX7_drop_13 : decode cX7_drop 13 = .ok (.invokevirtual 37, 3) := by decide +kernel
theorem dX7_drop_16 : decode cX7_drop 16 = .ok (.iconst 1, 1) := by decide +kernel
theorem dX7_drop_17 : decode cX7_drop 17 = .ok (.isub, 1) := by decide +kernel
theorem dX7_drop_18 : decode cX7_drop 18 = .ok (.invokevirtual 63, 3) := by decide +kernel
theorem dX7_drop_21 : decode cX7_drop 21 = .ok (.aload_n 2, 1) := by decide +kernel
theorem dX7_drop_22 : decode cX7_drop 22 = .ok (.iconst 0, 1) := by decide +kernel
theorem dX7_drop_23 : decode cX7_drop 23 = .ok (.putfield 29, 3) := by decide +kernel
theorem dX7_drop_26 : decode cX7_drop 26 = .ok (.aload_n 0, 1) := by decide +kernel
theorem dX7_drop_27 : decode cX7_drop 27 = .ok (.dup, 1) := by decide +kernel
theorem dX7_drop_28 : decode cX7_drop 28 = .ok (.getfield 26, 3) := by decide +kernel
theorem dX7_drop_31 : decode cX7_drop 31 = .ok (.iconst 1, 1) := by decide +kernel
theorem dX7_drop_32 : decode cX7_drop 32 = .ok (.iload_n 1, 1) := by decide +kernel
theorem dX7_drop_33 : decode cX7_drop 33 = .ok (.ishl, 1) := by decide +kernel
theorem dX7_drop_34 : decode cX7_drop 34 = .ok (.iconst (-1), 1) := by decide +kernel
theorem dX7_drop_35 : decode cX7_drop 35 = .ok (.ixor, 1) := by decide +kernel
theorem dX7_drop_36 : decode cX7_drop 36 = .ok (.iand, 1) := by decide +kernel
theorem dX7_drop_37 : decode cX7_drop 37 = .ok (.putfield 26, 3) := by decide +kernel
theorem dX7_drop_40 : decode cX7_drop 40 = .ok (.return_, 1) := by decide +kernel
theorem dX7_putAtDepth_0 : decode cX7_putAtDepth 0 = .ok (.aload_n 1, 1) := by decide +kernel
theorem dX7_putAtDepth_1 : decode cX7_putAtDepth 1 = .ok (.getfield 56, 3) := by decide +kernel
theorem dX7_putAtDepth_4 : decode cX7_putAtDepth 4 = .ok (.istore_n 3, 1) := by decide +kernel
theorem dX7_putAtDepth_5 : decode cX7_putAtDepth 5 = .ok (.iconst 0, 1) := by decide +kernel
theorem dX7_putAtDepth_6 : decode cX7_putAtDepth 6 = .ok (.istore 4, 2) := by decide +kernel
theorem dX7_putAtDepth_8 : decode cX7_putAtDepth 8 = .ok (.iload 4, 2) := by decide +kernel
theorem dX7_putAtDepth_10 : decode cX7_putAtDepth 10 = .ok (.aload_n 0, 1) := by decide +kernel
theorem dX7_putAtDepth_11 : decode cX7_putAtDepth 11 = .ok (.getfield 11, 3) := by decide +kernel
theorem dX7_putAtDepth_14 : decode cX7_putAtDepth 14 = .ok (.arraylength, 1) := by decide +kernel
theorem dX7_putAtDepth_15 : decode cX7_putAtDepth 15 = .ok (.if_icmp .ge 86, 3) := by decide +kernel
theorem dX7_putAtDepth_18 : decode cX7_putAtDepth 18 = .ok (.aload_n 0, 1) := by decide +kernel
theorem dX7_putAtDepth_19 : decode cX7_putAtDepth 19 = .ok (.iload 4, 2) := by decide +kernel
theorem dX7_putAtDepth_21 : decode cX7_putAtDepth 21 = .ok (.invokevirtual 33, 3) := by decide +kernel
theorem dX7_putAtDepth_24 : decode cX7_putAtDepth 24 = .ok (.astore 5, 2) := by decide +kernel
theorem dX7_putAtDepth_26 : decode cX7_putAtDepth 26 = .ok (.aload 5, 2) := by decide +kernel
theorem dX7_putAtDepth_28 : decode cX7_putAtDepth 28 = .ok (.ifnonnull 6, 3) := by decide +kernel
theorem dX7_putAtDepth_31 : decode cX7_putAtDepth 31 = .ok (.goto 64, 3) := by decide +kernel
theorem dX7_putAtDepth_34 : decode cX7_putAtDepth 34 = .ok (.aload 5, 2) := by decide +kernel
theorem dX7_putAtDepth_36 : decode cX7_putAtDepth 36 = .ok (.getfield 56, 3) := by decide +kernel
theorem dX7_putAtDepth_39 : decode cX7_putAtDepth 39 = .ok (.iload_n 2, 1) := by decide +kernel
theorem dX7_putAtDepth_40 : decode cX7_putAtDepth 40 = .ok (.if_icmp .lt 26, 3) := by decide +kernel
theorem dX7_putAtDepth_43 : decode cX7_putAtDepth 43 = .ok (.aload 5, 2) := by decide +kernel
theorem dX7_putAtDepth_45 : decode cX7_putAtDepth 45 = .ok (.getfield 56, 3) := by decide +kernel
theorem dX7_putAtDepth_48 : decode cX7_putAtDepth 48 = .ok (.iload_n 3, 1) := by decide +kernel
theorem dX7_putAtDepth_49 : decode cX7_putAtDepth 49 = .ok (.if_icmp .ge 17, 3) := by decide +kernel
theorem dX7_putAtDepth_52 : decode cX7_putAtDepth 52 = .ok (.aload 5, 2) := by decide +kernel
theorem dX7_putAtDepth_54 : decode cX7_putAtDepth 54 = .ok (.dup, 1) := by decide +kernel
theorem dX7_putAtDepth_55 : decode cX7_putAtDepth 55 = .ok (.getfield 56, 3) := by decide +kernel
theorem dX7_putAtDepth_58 : decode cX7_putAtDepth 58 = .ok (.iconst 1, 1) := by decide +kernel
theorem dX7_putAtDepth_59 : decode cX7_putAtDepth 59 = .ok (.iadd, 1) := by decide +kernel
theorem dX7_putAtDepth_60 : decode cX7_putAtDepth 60 = .ok (.putfield 56, 3) := by decide +kernel
theorem dX7_putAtDepth_63 : decode cX7_putAtDepth 63 = .ok (.goto 32, 3) := by decide +kernel
theorem dX7_putAtDepth_66 : decode cX7_putAtDepth 66 = .ok (.aload 5, 2) := by decide +kernel
theorem dX7_putAtDepth_68 : decode cX7_putAtDepth 68 = .ok (.getfield 56, 3) := by decide +kernel
theorem dX7_putAtDepth_71 : decode cX7_putAtDepth 71 = .ok (.iload_n 2, 1) := by decide +kernel
theorem dX7_putAtDepth_72 : decode cX7_putAtDepth 72 = .ok (.if_icmp .gt 23, 3) := by decide +kernel
theorem dX7_putAtDepth_75 : decode cX7_putAtDepth 75 = .ok (.aload 5, 2) := by decide +kernel
theorem dX7_putAtDepth_77 : decode cX7_putAtDepth 77 = .ok (.getfield 56, 3) := by decide +kernel
theorem dX7_putAtDepth_80 : decode cX7_putAtDepth 80 = .ok (.iload_n 3, 1) := by decide +kernel
theorem dX7_putAtDepth_81 : decode cX7_putAtDepth 81 = .ok (.if_icmp .le 14, 3) := by decide +kernel
theorem dX7_putAtDepth_84 : decode cX7_putAtDepth 84 = .ok (.aload 5, 2) := by decide +kernel
theorem dX7_putAtDepth_86 : decode cX7_putAtDepth 86 = .ok (.dup, 1) := by decide +kernel
theorem dX7_putAtDepth_87 : decode cX7_putAtDepth 87 = .ok (.getfield 56, 3) := by decide +kernel
theorem dX7_putAtDepth_90 : decode cX7_putAtDepth 90 = .ok (.iconst 1, 1) := by decide +kernel
theorem dX7_putAtDepth_91 : decode cX7_putAtDepth 91 = .ok (.isub, 1) := by decide +kernel
theorem dX7_putAtDepth_92 : decode cX7_putAtDepth 92 = .ok (.putfield 56, 3) := by decide +kernel
theorem dX7_putAtDepth_95 : decode cX7_putAtDepth 95 = .ok (.iinc 4 1, 3) := by decide +kernel
theorem dX7_putAtDepth_98 : decode cX7_putAtDepth 98 = .ok (.goto (-90), 3) := by decide +kernel
theorem dX7_putAtDepth_101 : decode cX7_putAtDepth 101 = .ok (.aload_n 1, 1) := by decide +kernel
theorem dX7_putAtDepth_102 : decode cX7_putAtDepth 102 = .ok (.iload_n 2, 1) := by decide +kernel
theorem dX7_putAtDepth_103 : decode cX7_putAtDepth 103 = .ok (.putfield 56, 3) := by decide +kernel
theorem dX7_putAtDepth_106 : decode cX7_putAtDepth 106 = .ok (.return_, 1) := by decide +kernel
theorem dX7_frontmostOn_0 : decode cX7_frontmostOn 0 = .ok (.ldc 59, 2) := by decide +kernel
theorem dX7_frontmostOn_2 : decode cX7_frontmostOn 2 = .ok (.istore_n 3, 1) := by decide +kernel
theorem dX7_frontmostOn_3 : decode cX7_frontmostOn 3 = .ok (.bipush 20, 2) := by decide +kernel
theorem dX7_frontmostOn_5 : decode cX7_frontmostOn 5 = .ok (.istore 4, 2) := by decide +kernel
theorem dX7_frontmostOn_7 : decode cX7_frontmostOn 7 = .ok (.iconst 0, 1) := by decide +kernel
theorem dX7_frontmostOn_8 : decode cX7_frontmostOn 8 = .ok (.istore 5, 2) := by decide +kernel
theorem dX7_frontmostOn_10 : decode cX7_frontmostOn 10 = .ok (.iload 5, 2) := by decide +kernel
theorem dX7_frontmostOn_12 : decode cX7_frontmostOn 12 = .ok (.aload_n 0, 1) := by decide +kernel
theorem dX7_frontmostOn_13 : decode cX7_frontmostOn 13 = .ok (.getfield 11, 3) := by decide +kernel
theorem dX7_frontmostOn_16 : decode cX7_frontmostOn 16 = .ok (.arraylength, 1) := by decide +kernel
theorem dX7_frontmostOn_17 : decode cX7_frontmostOn 17 = .ok (.if_icmp .ge 52, 3) := by decide +kernel
theorem dX7_frontmostOn_20 : decode cX7_frontmostOn 20 = .ok (.aload_n 0, 1) := by decide +kernel
theorem dX7_frontmostOn_21 : decode cX7_frontmostOn 21 = .ok (.iload 5, 2) := by decide +kernel
theorem dX7_frontmostOn_23 : decode cX7_frontmostOn 23 = .ok (.invokevirtual 33, 3) := by decide +kernel
theorem dX7_frontmostOn_26 : decode cX7_frontmostOn 26 = .ok (.astore 6, 2) := by decide +kernel
theorem dX7_frontmostOn_28 : decode cX7_frontmostOn 28 = .ok (.aload 6, 2) := by decide +kernel
theorem dX7_frontmostOn_30 : decode cX7_frontmostOn 30 = .ok (.ifnull 33, 3) := by decide +kernel
theorem dX7_frontmostOn_33 : decode cX7_frontmostOn 33 = .ok (.aload 6, 2) := by decide +kernel
theorem dX7_frontmostOn_35 : decode cX7_frontmostOn 35 = .ok (.getfield 56, 3) := by decide +kernel
theorem dX7_frontmostOn_38 : decode cX7_frontmostOn 38 = .ok (.iload 4, 2) := by decide +kernel
theorem dX7_frontmostOn_40 : decode cX7_frontmostOn 40 = .ok (.if_icmp .ge 23, 3) := by decide +kernel
theorem dX7_frontmostOn_43 : decode cX7_frontmostOn 43 = .ok (.aload 6, 2) := by decide +kernel
theorem dX7_frontmostOn_45 : decode cX7_frontmostOn 45 = .ok (.iload_n 1, 1) := by decide +kernel
theorem dX7_frontmostOn_46 : decode cX7_frontmostOn 46 = .ok (.iload_n 2, 1) := by decide +kernel
theorem dX7_frontmostOn_47 : decode cX7_frontmostOn 47 = .ok (.invokevirtual 67, 3) := by decide +kernel
theorem dX7_frontmostOn_50 : decode cX7_frontmostOn 50 = .ok (.ifCond .eq 13, 3) := by decide +kernel
theorem dX7_frontmostOn_53 : decode cX7_frontmostOn 53 = .ok (.iload 5, 2) := by decide +kernel
theorem dX7_frontmostOn_55 : decode cX7_frontmostOn 55 = .ok (.istore_n 3, 1) := by decide +kernel
theorem dX7_frontmostOn_56 : decode cX7_frontmostOn 56 = .ok (.aload 6, 2) := by decide +kernel
theorem dX7_frontmostOn_58 : decode cX7_frontmostOn 58 = .ok (.getfield 56, 3) := by decide +kernel
theorem dX7_frontmostOn_61 : decode cX7_frontmostOn 61 = .ok (.istore 4, 2) := by decide +kernel
theorem dX7_frontmostOn_63 : decode cX7_frontmostOn 63 = .ok (.iinc 5 1, 3) := by decide +kernel
theorem dX7_frontmostOn_66 : decode cX7_frontmostOn 66 = .ok (.goto (-56), 3) := by decide +kernel
theorem dX7_frontmostOn_69 : decode cX7_frontmostOn 69 = .ok (.iload_n 3, 1) := by decide +kernel
theorem dX7_frontmostOn_70 : decode cX7_frontmostOn 70 = .ok (.ireturn, 1) := by decide +kernel
theorem dX7_low_0 : decode cX7_low 0 = .ok (.ldc 73, 2) := by decide +kernel
theorem dX7_low_2 : decode cX7_low 2 = .ok (.istore_n 3, 1) := by decide +kernel
theorem dX7_low_3 : decode cX7_low 3 = .ok (.iconst 0, 1) := by decide +kernel
theorem dX7_low_4 : decode cX7_low 4 = .ok (.istore 4, 2) := by decide +kernel
theorem dX7_low_6 : decode cX7_low 6 = .ok (.iload 4, 2) := by decide +kernel
theorem dX7_low_8 : decode cX7_low 8 = .ok (.aload_n 0, 1) := by decide +kernel
theorem dX7_low_9 : decode cX7_low 9 = .ok (.getfield 11, 3) := by decide +kernel
theorem dX7_low_12 : decode cX7_low 12 = .ok (.arraylength, 1) := by decide +kernel
theorem dX7_low_13 : decode cX7_low 13 = .ok (.if_icmp .ge 42, 3) := by decide +kernel
theorem dX7_low_16 : decode cX7_low 16 = .ok (.aload_n 0, 1) := by decide +kernel
theorem dX7_low_17 : decode cX7_low 17 = .ok (.iload 4, 2) := by decide +kernel
theorem dX7_low_19 : decode cX7_low 19 = .ok (.invokevirtual 33, 3) := by decide +kernel
theorem dX7_low_22 : decode cX7_low 22 = .ok (.astore 5, 2) := by decide +kernel
theorem dX7_low_24 : decode cX7_low 24 = .ok (.aload 5, 2) := by decide +kernel
theorem dX7_low_26 : decode cX7_low 26 = .ok (.ifnull 23, 3) := by decide +kernel
theorem dX7_low_29 : decode cX7_low 29 = .ok (.iload_n 1, 1) := by decide +kernel
theorem dX7_low_30 : decode cX7_low 30 = .ok (.iload 4, 2) := by decide +kernel
theorem dX7_low_32 : decode cX7_low 32 = .ok (.invokestatic 74, 3) := by decide +kernel
theorem dX7_low_35 : decode cX7_low 35 = .ok (.ifCond .eq 14, 3) := by decide +kernel
theorem dX7_low_38 : decode cX7_low 38 = .ok (.iload_n 3, 1) := by decide +kernel
theorem dX7_low_39 : decode cX7_low 39 = .ok (.aload 5, 2) := by decide +kernel
theorem dX7_low_41 : decode cX7_low 41 = .ok (.iload_n 2, 1) := by decide +kernel
theorem dX7_low_42 : decode cX7_low 42 = .ok (.invokevirtual 77, 3) := by decide +kernel
theorem dX7_low_45 : decode cX7_low 45 = .ok (.invokestatic 81, 3) := by decide +kernel
theorem dX7_low_48 : decode cX7_low 48 = .ok (.istore_n 3, 1) := by decide +kernel
theorem dX7_low_49 : decode cX7_low 49 = .ok (.iinc 4 1, 3) := by decide +kernel
theorem dX7_low_52 : decode cX7_low 52 = .ok (.goto (-46), 3) := by decide +kernel
theorem dX7_low_55 : decode cX7_low 55 = .ok (.iload_n 3, 1) := by decide +kernel
theorem dX7_low_56 : decode cX7_low 56 = .ok (.ireturn, 1) := by decide +kernel
theorem dX7_high_0 : decode cX7_high 0 = .ok (.ldc 87, 2) := by decide +kernel
theorem dX7_high_2 : decode cX7_high 2 = .ok (.istore_n 3, 1) := by decide +kernel
theorem dX7_high_3 : decode cX7_high 3 = .ok (.iconst 0, 1) := by decide +kernel
theorem dX7_high_4 : decode cX7_high 4 = .ok (.istore 4, 2) := by decide +kernel
theorem dX7_high_6 : decode cX7_high 6 = .ok (.iload 4, 2) := by decide +kernel
theorem dX7_high_8 : decode cX7_high 8 = .ok (.aload_n 0, 1) := by decide +kernel
theorem dX7_high_9 : decode cX7_high 9 = .ok (.getfield 11, 3) := by decide +kernel
theorem dX7_high_12 : decode cX7_high 12 = .ok (.arraylength, 1) := by decide +kernel
theorem dX7_high_13 : decode cX7_high 13 = .ok (.if_icmp .ge 42, 3) := by decide +kernel
theorem dX7_high_16 : decode cX7_high 16 = .ok (.aload_n 0, 1) := by decide +kernel
theorem dX7_high_17 : decode cX7_high 17 = .ok (.iload 4, 2) := by decide +kernel
theorem dX7_high_19 : decode cX7_high 19 = .ok (.invokevirtual 33, 3) := by decide +kernel
theorem dX7_high_22 : decode cX7_high 22 = .ok (.astore 5, 2) := by decide +kernel
theorem dX7_high_24 : decode cX7_high 24 = .ok (.aload 5, 2) := by decide +kernel
theorem dX7_high_26 : decode cX7_high 26 = .ok (.ifnull 23, 3) := by decide +kernel
theorem dX7_high_29 : decode cX7_high 29 = .ok (.iload_n 1, 1) := by decide +kernel
theorem dX7_high_30 : decode cX7_high 30 = .ok (.iload 4, 2) := by decide +kernel
theorem dX7_high_32 : decode cX7_high 32 = .ok (.invokestatic 74, 3) := by decide +kernel
theorem dX7_high_35 : decode cX7_high 35 = .ok (.ifCond .eq 14, 3) := by decide +kernel
theorem dX7_high_38 : decode cX7_high 38 = .ok (.iload_n 3, 1) := by decide +kernel
theorem dX7_high_39 : decode cX7_high 39 = .ok (.aload 5, 2) := by decide +kernel
theorem dX7_high_41 : decode cX7_high 41 = .ok (.iload_n 2, 1) := by decide +kernel
theorem dX7_high_42 : decode cX7_high 42 = .ok (.invokevirtual 88, 3) := by decide +kernel
theorem dX7_high_45 : decode cX7_high 45 = .ok (.invokestatic 91, 3) := by decide +kernel
theorem dX7_high_48 : decode cX7_high 48 = .ok (.istore_n 3, 1) := by decide +kernel
theorem dX7_high_49 : decode cX7_high 49 = .ok (.iinc 4 1, 3) := by decide +kernel
theorem dX7_high_52 : decode cX7_high 52 = .ok (.goto (-46), 3) := by decide +kernel
theorem dX7_high_55 : decode cX7_high 55 = .ok (.iload_n 3, 1) := by decide +kernel
theorem dX7_high_56 : decode cX7_high 56 = .ok (.ireturn, 1) := by decide +kernel
theorem dX7_lineOf_0 : decode cX7_lineOf 0 = .ok (.aload_n 0, 1) := by decide +kernel
theorem dX7_lineOf_1 : decode cX7_lineOf 1 = .ok (.iload_n 1, 1) := by decide +kernel
theorem dX7_lineOf_2 : decode cX7_lineOf 2 = .ok (.iload_n 2, 1) := by decide +kernel
theorem dX7_lineOf_3 : decode cX7_lineOf 3 = .ok (.invokevirtual 94, 3) := by decide +kernel
theorem dX7_lineOf_6 : decode cX7_lineOf 6 = .ok (.istore 4, 2) := by decide +kernel
theorem dX7_lineOf_8 : decode cX7_lineOf 8 = .ok (.aload_n 0, 1) := by decide +kernel
theorem dX7_lineOf_9 : decode cX7_lineOf 9 = .ok (.iload_n 1, 1) := by decide +kernel
theorem dX7_lineOf_10 : decode cX7_lineOf 10 = .ok (.iload_n 2, 1) := by decide +kernel
theorem dX7_lineOf_11 : decode cX7_lineOf 11 = .ok (.invokevirtual 97, 3) := by decide +kernel
theorem dX7_lineOf_14 : decode cX7_lineOf 14 = .ok (.istore 5, 2) := by decide +kernel
theorem dX7_lineOf_16 : decode cX7_lineOf 16 = .ok (.iload_n 3, 1) := by decide +kernel
theorem dX7_lineOf_17 : decode cX7_lineOf 17 = .ok (.ifCond .ne 6, 3) := by decide +kernel
theorem dX7_lineOf_20 : decode cX7_lineOf 20 = .ok (.iload 4, 2) := by decide +kernel
theorem dX7_lineOf_22 : decode cX7_lineOf 22 = .ok (.ireturn, 1) := by decide +kernel
theorem dX7_lineOf_23 : decode cX7_lineOf 23 = .ok (.iload_n 3, 1) := by decide +kernel
theorem dX7_lineOf_24 : decode cX7_lineOf 24 = .ok (.iconst 2, 1) := by decide +kernel
theorem dX7_lineOf_25 : decode cX7_lineOf 25 = .ok (.if_icmp .ne 8, 3) := by decide +kernel
theorem dX7_lineOf_28 : decode cX7_lineOf 28 = .ok (.iload 5, 2) := by decide +kernel
theorem dX7_lineOf_30 : decode cX7_lineOf 30 = .ok (.goto 15, 3) := by decide +kernel
theorem dX7_lineOf_33 : decode cX7_lineOf 33 = .ok (.iload 4, 2) := by decide +kernel
theorem dX7_lineOf_35 : decode cX7_lineOf 35 = .ok (.iload 5, 2) := by decide +kernel
theorem dX7_lineOf_37 : decode cX7_lineOf 37 = .ok (.iload 4, 2) := by decide +kernel
theorem dX7_lineOf_39 : decode cX7_lineOf 39 = .ok (.isub, 1) := by decide +kernel
theorem dX7_lineOf_40 : decode cX7_lineOf 40 = .ok (.iconst 2, 1) := by decide +kernel
theorem dX7_lineOf_41 : decode cX7_lineOf 41 = .ok (.invokestatic 100, 3) := by decide +kernel
theorem dX7_lineOf_44 : decode cX7_lineOf 44 = .ok (.iadd, 1) := by decide +kernel
theorem dX7_lineOf_45 : decode cX7_lineOf 45 = .ok (.ireturn, 1) := by decide +kernel
theorem dX7_canShift_0 : decode cX7_canShift 0 = .ok (.iconst 0, 1) := by decide +kernel
theorem dX7_canShift_1 : decode cX7_canShift 1 = .ok (.istore 4, 2) := by decide +kernel
theorem dX7_canShift_3 : decode cX7_canShift 3 = .ok (.iload 4, 2) := by decide +kernel
theorem dX7_canShift_5 : decode cX7_canShift 5 = .ok (.aload_n 0, 1) := by decide +kernel
theorem dX7_canShift_6 : decode cX7_canShift 6 = .ok (.getfield 11, 3) := by decide +kernel
theorem dX7_canShift_9 : decode cX7_canShift 9 = .ok (.arraylength, 1) := by decide +kernel
theorem dX7_canShift_10 : decode cX7_canShift 10 = .ok (.if_icmp .ge 47, 3) := by decide +kernel
theorem dX7_canShift_13 : decode cX7_canShift 13 = .ok (.aload_n 0, 1) := by decide +kernel
theorem dX7_canShift_14 : decode cX7_canShift 14 = .ok (.iload 4, 2) := by decide +kernel
theorem dX7_canShift_16 : decode cX7_canShift 16 = .ok (.invokevirtual 33, 3) := by decide +kernel
theorem dX7_canShift_19 : decode cX7_canShift 19 = .ok (.astore 5, 2) := by decide +kernel
theorem dX7_canShift_21 : decode cX7_canShift 21 = .ok (.aload 5, 2) := by decide +kernel
theorem dX7_canShift_23 : decode cX7_canShift 23 = .ok (.ifnull 28, 3) := by decide +kernel
theorem dX7_canShift_26 : decode cX7_canShift 26 = .ok (.iload_n 1, 1) := by decide +kernel
theorem dX7_canShift_27 : decode cX7_canShift 27 = .ok (.iload 4, 2) := by decide +kernel
theorem dX7_canShift_29 : decode cX7_canShift 29 = .ok (.invokestatic 74, 3) := by decide +kernel
theorem dX7_canShift_32 : decode cX7_canShift 32 = .ok (.ifCond .eq 19, 3) := by decide +kernel
theorem dX7_canShift_35 : decode cX7_canShift 35 = .ok (.aload 5, 2) := by decide +kernel
theorem dX7_canShift_37 : decode cX7_canShift 37 = .ok (.iload_n 2, 1) := by decide +kernel
theorem dX7_canShift_38 : decode cX7_canShift 38 = .ok (.invokevirtual 77, 3) := by decide +kernel
theorem dX7_canShift_41 : decode cX7_canShift 41 = .ok (.iload_n 3, 1) := by decide +kernel
theorem dX7_canShift_42 : decode cX7_canShift 42 = .ok (.iadd, 1) := by decide +kernel
theorem dX7_canShift_43 : decode cX7_canShift 43 = .ok (.invokestatic 103, 3) := by decide +kernel
theorem dX7_canShift_46 : decode cX7_canShift 46 = .ok (.ifCond .ne 5, 3) := by decide +kernel
theorem dX7_canShift_49 : decode cX7_canShift 49 = .ok (.iconst 0, 1) := by decide +kernel
theorem dX7_canShift_50 : decode cX7_canShift 50 = .ok (.ireturn, 1) := by decide +kernel
theorem dX7_canShift_51 : decode cX7_canShift 51 = .ok (.iinc 4 1, 3) := by decide +kernel
theorem dX7_canShift_54 : decode cX7_canShift 54 = .ok (.goto (-51), 3) := by decide +kernel
theorem dX7_canShift_57 : decode cX7_canShift 57 = .ok (.iconst 1, 1) := by decide +kernel
theorem dX7_canShift_58 : decode cX7_canShift 58 = .ok (.ireturn, 1) := by decide +kernel
theorem dX7_shift_0 : decode cX7_shift 0 = .ok (.iconst 0, 1) := by decide +kernel
theorem dX7_shift_1 : decode cX7_shift 1 = .ok (.istore 4, 2) := by decide +kernel
theorem dX7_shift_3 : decode cX7_shift 3 = .ok (.iload 4, 2) := by decide +kernel
theorem dX7_shift_5 : decode cX7_shift 5 = .ok (.aload_n 0, 1) := by decide +kernel
theorem dX7_shift_6 : decode cX7_shift 6 = .ok (.getfield 11, 3) := by decide +kernel
theorem dX7_shift_9 : decode cX7_shift 9 = .ok (.arraylength, 1) := by decide +kernel
theorem dX7_shift_10 : decode cX7_shift 10 = .ok (.if_icmp .ge 38, 3) := by decide +kernel
theorem dX7_shift_13 : decode cX7_shift 13 = .ok (.aload_n 0, 1) := by decide +kernel
theorem dX7_shift_14 : decode cX7_shift 14 = .ok (.iload 4, 2) := by decide +kernel
theorem dX7_shift_16 : decode cX7_shift 16 = .ok (.invokevirtual 33, 3) := by decide +kernel
theorem dX7_shift_19 : decode cX7_shift 19 = .ok (.astore 5, 2) := by decide +kernel
theorem dX7_shift_21 : decode cX7_shift 21 = .ok (.aload 5, 2) := by decide +kernel
theorem dX7_shift_23 : decode cX7_shift 23 = .ok (.ifnull 19, 3) := by decide +kernel
theorem dX7_shift_26 : decode cX7_shift 26 = .ok (.iload_n 1, 1) := by decide +kernel
theorem dX7_shift_27 : decode cX7_shift 27 = .ok (.iload 4, 2) := by decide +kernel
theorem dX7_shift_29 : decode cX7_shift 29 = .ok (.invokestatic 74, 3) := by decide +kernel
theorem dX7_shift_32 : decode cX7_shift 32 = .ok (.ifCond .eq 10, 3) := by decide +kernel
theorem dX7_shift_35 : decode cX7_shift 35 = .ok (.aload 5, 2) := by decide +kernel
theorem dX7_shift_37 : decode cX7_shift 37 = .ok (.iload_n 2, 1) := by decide +kernel
theorem dX7_shift_38 : decode cX7_shift 38 = .ok (.iload_n 3, 1) := by decide +kernel
theorem dX7_shift_39 : decode cX7_shift 39 = .ok (.invokevirtual 107, 3) := by decide +kernel
theorem dX7_shift_42 : decode cX7_shift 42 = .ok (.iinc 4 1, 3) := by decide +kernel
theorem dX7_shift_45 : decode cX7_shift 45 = .ok (.goto (-42), 3) := by decide +kernel
theorem dX7_shift_48 : decode cX7_shift 48 = .ok (.return_, 1) := by decide +kernel
theorem dX8_init_0 : decode cX8_init 0 = .ok (.aload_n 0, 1) := by decide +kernel
theorem dX8_init_1 : decode cX8_init 1 = .ok (.invokespecial 3, 3) := by decide +kernel
theorem dX8_init_4 : decode cX8_init 4 = .ok (.return_, 1) := by decide +kernel
theorem dX8_search_0 : decode cX8_search 0 = .ok (.aload_n 1, 1) := by decide +kernel
theorem dX8_search_1 : decode cX8_search 1 = .ok (.getfield 9, 3) := by decide +kernel
theorem dX8_search_4 : decode cX8_search 4 = .ok (.astore 4, 2) := by decide +kernel
theorem dX8_search_6 : decode cX8_search 6 = .ok (.aload 4, 2) := by decide +kernel
theorem dX8_search_8 : decode cX8_search 8 = .ok (.aload 4, 2) := by decide +kernel
theorem dX8_search_10 : decode cX8_search 10 = .ok (.getfield 15, 3) := by decide +kernel
theorem dX8_search_13 : decode cX8_search 13 = .ok (.iload_n 2, 1) := by decide +kernel
theorem dX8_search_14 : decode cX8_search 14 = .ok (.iconst 0, 1) := by decide +kernel
theorem dX8_search_15 : decode cX8_search 15 = .ok (.invokevirtual 21, 3) := by decide +kernel
theorem dX8_search_18 : decode cX8_search 18 = .ok (.iload_n 3, 1) := by decide +kernel
theorem dX8_search_19 : decode cX8_search 19 = .ok (.iadd, 1) := by decide +kernel
theorem dX8_search_20 : decode cX8_search 20 = .ok (.istore 5, 2) := by decide +kernel
theorem dX8_search_22 : decode cX8_search 22 = .ok (.aload 4, 2) := by decide +kernel
theorem dX8_search_24 : decode cX8_search 24 = .ok (.aload 4, 2) := by decide +kernel
theorem dX8_search_26 : decode cX8_search 26 = .ok (.getfield 15, 3) := by decide +kernel
theorem dX8_search_29 : decode cX8_search 29 = .ok (.iload_n 2, 1) := by decide +kernel
theorem dX8_search_30 : decode cX8_search 30 = .ok (.iconst 1, 1) := by decide +kernel
theorem dX8_search_31 : decode cX8_search 31 = .ok (.invokevirtual 21, 3) := by decide +kernel
theorem dX8_search_34 : decode cX8_search 34 = .ok (.iload_n 3, 1) := by decide +kernel
theorem dX8_search_35 : decode cX8_search 35 = .ok (.iadd, 1) := by decide +kernel
theorem dX8_search_36 : decode cX8_search 36 = .ok (.istore 6, 2) := by decide +kernel
theorem dX8_search_38 : decode cX8_search 38 = .ok (.aload 4, 2) := by decide +kernel
theorem dX8_search_40 : decode cX8_search 40 = .ok (.aload 4, 2) := by decide +kernel
theorem dX8_search_42 : decode cX8_search 42 = .ok (.getfield 15, 3) := by decide +kernel
theorem dX8_search_45 : decode cX8_search 45 = .ok (.iload_n 2, 1) := by decide +kernel
theorem dX8_search_46 : decode cX8_search 46 = .ok (.iconst 2, 1) := by decide +kernel
theorem dX8_search_47 : decode cX8_search 47 = .ok (.invokevirtual 21, 3) := by decide +kernel
theorem dX8_search_50 : decode cX8_search 50 = .ok (.iload_n 3, 1) := by decide +kernel
theorem dX8_search_51 : decode cX8_search 51 = .ok (.iadd, 1) := by decide +kernel
theorem dX8_search_52 : decode cX8_search 52 = .ok (.istore 7, 2) := by decide +kernel
theorem dX8_search_54 : decode cX8_search 54 = .ok (.aload_n 0, 1) := by decide +kernel
theorem dX8_search_55 : decode cX8_search 55 = .ok (.iconst 4, 1) := by decide +kernel
theorem dX8_search_56 : decode cX8_search 56 = .ok (.putfield 27, 3) := by decide +kernel
theorem dX8_search_59 : decode cX8_search 59 = .ok (.aload_n 0, 1) := by decide +kernel
theorem dX8_search_60 : decode cX8_search 60 = .ok (.iconst 0, 1) := by decide +kernel
theorem dX8_search_61 : decode cX8_search 61 = .ok (.putfield 30, 3) := by decide +kernel
theorem dX8_search_64 : decode cX8_search 64 = .ok (.aload_n 0, 1) := by decide +kernel
theorem dX8_search_65 : decode cX8_search 65 = .ok (.aload_n 1, 1) := by decide +kernel
theorem dX8_search_66 : decode cX8_search 66 = .ok (.getfield 33, 3) := by decide +kernel
theorem dX8_search_69 : decode cX8_search 69 = .ok (.getfield 37, 3) := by decide +kernel
theorem dX8_search_72 : decode cX8_search 72 = .ok (.putfield 42, 3) := by decide +kernel
theorem dX8_search_75 : decode cX8_search 75 = .ok (.iconst 0, 1) := by decide +kernel
theorem dX8_search_76 : decode cX8_search 76 = .ok (.istore 8, 2) := by decide +kernel
theorem dX8_search_78 : decode cX8_search 78 = .ok (.iload 8, 2) := by decide +kernel
theorem dX8_search_80 : decode cX8_search 80 = .ok (.aload_n 1, 1) := by decide +kernel
theorem dX8_search_81 : decode cX8_search 81 = .ok (.getfield 33, 3) := by decide +kernel
theorem dX8_search_84 : decode cX8_search 84 = .ok (.getfield 43, 3) := by decide +kernel
theorem dX8_search_87 : decode cX8_search 87 = .ok (.if_icmp .ge 63, 3) := by decide +kernel
theorem dX8_search_90 : decode cX8_search 90 = .ok (.aload_n 1, 1) := by decide +kernel
theorem dX8_search_91 : decode cX8_search 91 = .ok (.getfield 33, 3) := by decide +kernel
theorem dX8_search_94 : decode cX8_search 94 = .ok (.iload 8, 2) := by decide +kernel
theorem dX8_search_96 : decode cX8_search 96 = .ok (.iload_n 2, 1) := by decide +kernel
theorem dX8_search_97 : decode cX8_search 97 = .ok (.invokevirtual 46, 3) := by decide +kernel
theorem dX8_search_100 : decode cX8_search 100 = .ok (.ifCond .eq 44, 3) := by decide +kernel
theorem dX8_search_103 : decode cX8_search 103 = .ok (.aload_n 1, 1) := by decide +kernel
theorem dX8_search_104 : decode cX8_search 104 = .ok (.getfield 33, 3) := by decide +kernel
theorem dX8_search_107 : decode cX8_search 107 = .ok (.iload 8, 2) := by decide +kernel
theorem dX8_search_109 : decode cX8_search 109 = .ok (.invokevirtual 50, 3) := by decide +kernel
theorem dX8_search_112 : decode cX8_search 112 = .ok (.istore 9, 2) := by decide +kernel
theorem dX8_search_114 : decode cX8_search 114 = .ok (.aload_n 0, 1) := by decide +kernel
theorem dX8_search_115 : decode cX8_search 115 = .ok (.iconst 0, 1) := by decide +kernel
theorem dX8_search_116 : decode cX8_search 116 = .ok (.iload 9, 2) := by decide +kernel
theorem dX8_search_118 : decode cX8_search 118 = .ok (.iload 5, 2) := by decide +kernel
theorem dX8_search_120 : decode cX8_search 120 = .ok (.isub, 1) := by decide +kernel
theorem dX8_search_121 : decode cX8_search 121 = .ok (.invokevirtual 54, 3) := by decide +kernel
theorem dX8_search_124 : decode cX8_search 124 = .ok (.aload_n 0, 1) := by decide +kernel
theorem dX8_search_125 : decode cX8_search 125 = .ok (.iconst 0, 1) := by decide +kernel
theorem dX8_search_126 : decode cX8_search 126 = .ok (.iload 9, 2) := by decide +kernel
theorem dX8_search_128 : decode cX8_search 128 = .ok (.iload 6, 2) := by decide +kernel
theorem dX8_search_130 : decode cX8_search 130 = .ok (.isub, 1) := by decide +kernel
theorem dX8_search_131 : decode cX8_search 131 = .ok (.invokevirtual 54, 3) := by decide +kernel
theorem dX8_search_134 : decode cX8_search 134 = .ok (.aload_n 0, 1) := by decide +kernel
theorem dX8_search_135 : decode cX8_search 135 = .ok (.iconst 0, 1) := by decide +kernel
theorem dX8_search_136 : decode cX8_search 136 = .ok (.iload 9, 2) := by decide +kernel
theorem dX8_search_138 : decode cX8_search 138 = .ok (.iload 7, 2) := by decide +kernel
theorem dX8_search_140 : decode cX8_search 140 = .ok (.isub, 1) := by decide +kernel
theorem dX8_search_141 : decode cX8_search 141 = .ok (.invokevirtual 54, 3) := by decide +kernel
theorem dX8_search_144 : decode cX8_search 144 = .ok (.iinc 8 1, 3) := by decide +kernel
theorem dX8_search_147 : decode cX8_search 147 = .ok (.goto (-69), 3) := by decide +kernel
theorem dX8_search_150 : decode cX8_search 150 = .ok (.iconst 0, 1) := by decide +kernel
theorem dX8_search_151 : decode cX8_search 151 = .ok (.istore 8, 2) := by decide +kernel
theorem dX8_search_153 : decode cX8_search 153 = .ok (.iload 8, 2) := by decide +kernel
theorem dX8_search_155 : decode cX8_search 155 = .ok (.bipush 20, 2) := by decide +kernel
theorem dX8_search_157 : decode cX8_search 157 = .ok (.if_icmp .ge 86, 3) := by decide +kernel
theorem dX8_search_160 : decode cX8_search 160 = .ok (.aload 4, 2) := by decide +kernel
theorem dX8_search_162 : decode cX8_search 162 = .ok (.iload 8, 2) := by decide +kernel
theorem dX8_search_164 : decode cX8_search 164 = .ok (.invokevirtual 58, 3) := by decide +kernel
theorem dX8_search_167 : decode cX8_search 167 = .ok (.astore 9, 2) := by decide +kernel
theorem dX8_search_169 : decode cX8_search 169 = .ok (.aload 9, 2) := by decide +kernel
theorem dX8_search_171 : decode cX8_search 171 = .ok (.ifnull 66, 3) := by decide +kernel
theorem dX8_search_174 : decode cX8_search 174 = .ok (.aload 4, 2) := by decide +kernel
theorem dX8_search_176 : decode cX8_search 176 = .ok (.getfield 15, 3) := by decide +kernel
theorem dX8_search_179 : decode cX8_search 179 = .ok (.iload 8, 2) := by decide +kernel
theorem dX8_search_181 : decode cX8_search 181 = .ok (.invokestatic 62, 3) := by decide +kernel
theorem dX8_search_184 : decode cX8_search 184 = .ok (.ifCond .ne 53, 3) := by decide +kernel
theorem dX8_search_187 : decode cX8_search 187 = .ok (.aload_n 0, 1) := by decide +kernel
theorem dX8_search_188 : decode cX8_search 188 = .ok (.iconst 1, 1) := by decide +kernel
theorem dX8_search_189 : decode cX8_search 189 = .ok (.aload 9, 2) := by decide +kernel
theorem dX8_search_191 : decode cX8_search 191 = .ok (.iload_n 2, 1) := by decide +kernel
theorem dX8_search_192 : decode cX8_search 192 = .ok (.invokevirtual 65, 3) := by decide +kernel
theorem dX8_search_195 : decode cX8_search 195 = .ok (.iload 6, 2) := by decide +kernel
theorem dX8_search_197 : decode cX8_search 197 = .ok (.isub, 1) := by decide +kernel
theorem dX8_search_198 : decode cX8_search 198 = .ok (.invokevirtual 54, 3) := by decide +kernel
theorem dX8_search_201 : decode cX8_search 201 = .ok (.aload_n 0, 1) := by decide +kernel
theorem dX8_search_202 : decode cX8_search 202 = .ok (.aload 9, 2) := by decide +kernel
theorem dX8_search_204 : decode cX8_search 204 = .ok (.iload_n 2, 1) := by decide +kernel
theorem dX8_search_205 : decode cX8_search 205 = .ok (.invokevirtual 70, 3) := by decide +kernel
theorem dX8_search_208 : decode cX8_search 208 = .ok (.aload 9, 2) := by decide +kernel
theorem dX8_search_210 : decode cX8_search 210 = .ok (.iload_n 2, 1) := by decide +kernel
theorem dX8_search_211 : decode cX8_search 211 = .ok (.invokevirtual 73, 3) := by decide +kernel
theorem dX8_search_214 : decode cX8_search 214 = .ok (.iload 5, 2) := by decide +kernel
theorem dX8_search_216 : decode cX8_search 216 = .ok (.invokevirtual 76, 3) := by decide +kernel
theorem dX8_search_219 : decode cX8_search 219 = .ok (.aload_n 0, 1) := by decide +kernel
theorem dX8_search_220 : decode cX8_search 220 = .ok (.aload 9, 2) := by decide +kernel
theorem dX8_search_222 : decode cX8_search 222 = .ok (.iload_n 2, 1) := by decide +kernel
theorem dX8_search_223 : decode cX8_search 223 = .ok (.invokevirtual 70, 3) := by decide +kernel
theorem dX8_search_226 : decode cX8_search 226 = .ok (.aload 9, 2) := by decide +kernel
theorem dX8_search_228 : decode cX8_search 228 = .ok (.iload_n 2, 1) := by decide +kernel
theorem dX8_search_229 : decode cX8_search 229 = .ok (.invokevirtual 73, 3) := by decide +kernel
theorem dX8_search_232 : decode cX8_search 232 = .ok (.iload 7, 2) := by decide +kernel
theorem dX8_search_234 : decode cX8_search 234 = .ok (.invokevirtual 76, 3) := by decide +kernel
theorem dX8_search_237 : decode cX8_search 237 = .ok (.iinc 8 1, 3) := by decide +kernel
theorem dX8_search_240 : decode cX8_search 240 = .ok (.goto (-87), 3) := by decide +kernel
theorem dX8_search_243 : decode cX8_search 243 = .ok (.aload_n 0, 1) := by decide +kernel
theorem dX8_search_244 : decode cX8_search 244 = .ok (.aload_n 1, 1) := by decide +kernel
theorem dX8_search_245 : decode cX8_search 245 = .ok (.getfield 33, 3) := by decide +kernel
theorem dX8_search_248 : decode cX8_search 248 = .ok (.getfield 80, 3) := by decide +kernel
theorem dX8_search_251 : decode cX8_search 251 = .ok (.iload 5, 2) := by decide +kernel
theorem dX8_search_253 : decode cX8_search 253 = .ok (.invokevirtual 83, 3) := by decide +kernel
theorem dX8_search_256 : decode cX8_search 256 = .ok (.return_, 1) := by decide +kernel
theorem dX8_offerSides_0 : decode cX8_offerSides 0 = .ok (.aload_n 0, 1) := by decide +kernel
theorem dX8_offerSides_1 : decode cX8_offerSides 1 = .ok (.iconst 2, 1) := by decide +kernel
theorem dX8_offerSides_2 : decode cX8_offerSides 2 = .ok (.iload_n 1, 1) := by decide +kernel
theorem dX8_offerSides_3 : decode cX8_offerSides 3 = .ok (.iload_n 3, 1) := by decide +kernel
theorem dX8_offerSides_4 : decode cX8_offerSides 4 = .ok (.isub, 1) := by decide +kernel
theorem dX8_offerSides_5 : decode cX8_offerSides 5 = .ok (.invokevirtual 54, 3) := by decide +kernel
theorem dX8_offerSides_8 : decode cX8_offerSides 8 = .ok (.aload_n 0, 1) := by decide +kernel
theorem dX8_offerSides_9 : decode cX8_offerSides 9 = .ok (.iconst 2, 1) := by decide +kernel
theorem dX8_offerSides_10 : decode cX8_offerSides 10 = .ok (.iload_n 2, 1) := by decide +kernel
theorem dX8_offerSides_11 : decode cX8_offerSides 11 = .ok (.iload_n 3, 1) := by decide +kernel
theorem dX8_offerSides_12 : decode cX8_offerSides 12 = .ok (.isub, 1) := by decide +kernel
theorem dX8_offerSides_13 : decode cX8_offerSides 13 = .ok (.invokevirtual 54, 3) := by decide +kernel
theorem dX8_offerSides_16 : decode cX8_offerSides 16 = .ok (.return_, 1) := by decide +kernel
theorem dX8_offerGrid_0 : decode cX8_offerGrid 0 = .ok (.iload_n 1, 1) := by decide +kernel
theorem dX8_offerGrid_1 : decode cX8_offerGrid 1 = .ok (.ifCond .le 24, 3) := by decide +kernel
theorem dX8_offerGrid_4 : decode cX8_offerGrid 4 = .ok (.iload_n 2, 1) := by decide +kernel
theorem dX8_offerGrid_5 : decode cX8_offerGrid 5 = .ok (.iload_n 1, 1) := by decide +kernel
theorem dX8_offerGrid_6 : decode cX8_offerGrid 6 = .ok (.invokestatic 86, 3) := by decide +kernel
theorem dX8_offerGrid_9 : decode cX8_offerGrid 9 = .ok (.istore_n 3, 1) := by decide +kernel
theorem dX8_offerGrid_10 : decode cX8_offerGrid 10 = .ok (.aload_n 0, 1) := by decide +kernel
theorem dX8_offerGrid_11 : decode cX8_offerGrid 11 = .ok (.iconst 3, 1) := by decide +kernel
theorem dX8_offerGrid_12 : decode cX8_offerGrid 12 = .ok (.iload_n 3, 1) := by decide +kernel
theorem dX8_offerGrid_13 : decode cX8_offerGrid 13 = .ok (.ineg, 1) := by decide +kernel
theorem dX8_offerGrid_14 : decode cX8_offerGrid 14 = .ok (.invokevirtual 54, 3) := by decide +kernel
theorem dX8_offerGrid_17 : decode cX8_offerGrid 17 = .ok (.aload_n 0, 1) := by decide +kernel
theorem dX8_offerGrid_18 : decode cX8_offerGrid 18 = .ok (.iconst 3, 1) := by decide +kernel
theorem dX8_offerGrid_19 : decode cX8_offerGrid 19 = .ok (.iload_n 1, 1) := by decide +kernel
theorem dX8_offerGrid_20 : decode cX8_offerGrid 20 = .ok (.iload_n 3, 1) := by decide +kernel
theorem dX8_offerGrid_21 : decode cX8_offerGrid 21 = .ok (.isub, 1) := by decide +kernel
theorem dX8_offerGrid_22 : decode cX8_offerGrid 22 = .ok (.invokevirtual 54, 3) := by decide +kernel
theorem dX8_offerGrid_25 : decode cX8_offerGrid 25 = .ok (.return_, 1) := by decide +kernel
theorem dX8_offer_0 : decode cX8_offer 0 = .ok (.iload_n 2, 1) := by decide +kernel
theorem dX8_offer_1 : decode cX8_offer 1 = .ok (.invokestatic 92, 3) := by decide +kernel
theorem dX8_offer_4 : decode cX8_offer 4 = .ok (.aload_n 0, 1) := by decide +kernel
theorem dX8_offer_5 : decode cX8_offer 5 = .ok (.getfield 42, 3) := by decide +kernel
theorem dX8_offer_8 : decode cX8_offer 8 = .ok (.if_icmp .gt 11, 3) := by decide +kernel
theorem dX8_offer_11 : decode cX8_offer 11 = .ok (.iload_n 1, 1) := by decide +kernel
theorem dX8_offer_12 : decode cX8_offer 12 = .ok (.aload_n 0, 1) := by decide +kernel
theorem dX8_offer_13 : decode cX8_offer 13 = .ok (.getfield 27, 3) := by decide +kernel
theorem dX8_offer_16 : decode cX8_offer 16 = .ok (.if_icmp .le 4, 3) := by decide +kernel
theorem dX8_offer_19 : decode cX8_offer 19 = .ok (.return_, 1) := by decide +kernel
theorem dX8_offer_20 : decode cX8_offer 20 = .ok (.iload_n 1, 1) := by decide +kernel
theorem dX8_offer_21 : decode cX8_offer 21 = .ok (.aload_n 0, 1) := by decide +kernel
theorem dX8_offer_22 : decode cX8_offer 22 = .ok (.getfield 27, 3) := by decide +kernel
theorem dX8_offer_25 : decode cX8_offer 25 = .ok (.if_icmp .lt 11, 3) := by decide +kernel
theorem dX8_offer_28 : decode cX8_offer 28 = .ok (.aload_n 0, 1) := by decide +kernel
theorem dX8_offer_29 : decode cX8_offer 29 = .ok (.iload_n 2, 1) := by decide +kernel
theorem dX8_offer_30 : decode cX8_offer 30 = .ok (.invokevirtual 95, 3) := by decide +kernel
theorem dX8_offer_33 : decode cX8_offer 33 = .ok (.ifCond .eq 13, 3) := by decide +kernel
theorem dX8_offer_36 : decode cX8_offer 36 = .ok (.aload_n 0, 1) := by decide +kernel
theorem dX8_offer_37 : decode cX8_offer 37 = .ok (.iload_n 1, 1) := by decide +kernel
theorem dX8_offer_38 : decode cX8_offer 38 = .ok (.putfield 27, 3) := by decide +kernel
theorem dX8_offer_41 : decode cX8_offer 41 = .ok (.aload_n 0, 1) := by decide +kernel
theorem dX8_offer_42 : decode cX8_offer 42 = .ok (.iload_n 2, 1) := by decide +kernel
theorem dX8_offer_43 : decode cX8_offer 43 = .ok (.putfield 30, 3) := by decide +kernel
theorem dX8_offer_46 : decode cX8_offer 46 = .ok (.return_, 1) := by decide +kernel
theorem dX8_isNearer_0 : decode cX8_isNearer 0 = .ok (.iload_n 1, 1) := by decide +kernel
theorem dX8_isNearer_1 : decode cX8_isNearer 1 = .ok (.invokestatic 92, 3) := by decide +kernel
theorem dX8_isNearer_4 : decode cX8_isNearer 4 = .ok (.istore_n 2, 1) := by decide +kernel
theorem dX8_isNearer_5 : decode cX8_isNearer 5 = .ok (.aload_n 0, 1) := by decide +kernel
theorem dX8_isNearer_6 : decode cX8_isNearer 6 = .ok (.getfield 30, 3) := by decide +kernel
theorem dX8_isNearer_9 : decode cX8_isNearer 9 = .ok (.invokestatic 92, 3) := by decide +kernel
theorem dX8_isNearer_12 : decode cX8_isNearer 12 = .ok (.istore_n 3, 1) := by decide +kernel
theorem dX8_isNearer_13 : decode cX8_isNearer 13 = .ok (.iload_n 2, 1) := by decide +kernel
theorem dX8_isNearer_14 : decode cX8_isNearer 14 = .ok (.iload_n 3, 1) := by decide +kernel
theorem dX8_isNearer_15 : decode cX8_isNearer 15 = .ok (.if_icmp .lt 16, 3) := by decide +kernel
theorem dX8_isNearer_18 : decode cX8_isNearer 18 = .ok (.iload_n 2, 1) := by decide +kernel
theorem dX8_isNearer_19 : decode cX8_isNearer 19 = .ok (.iload_n 3, 1) := by decide +kernel
theorem dX8_isNearer_20 : decode cX8_isNearer 20 = .ok (.if_icmp .ne 15, 3) := by decide +kernel
theorem dX8_isNearer_23 : decode cX8_isNearer 23 = .ok (.iload_n 1, 1) := by decide +kernel
theorem dX8_isNearer_24 : decode cX8_isNearer 24 = .ok (.aload_n 0, 1) := by decide +kernel
theorem dX8_isNearer_25 : decode cX8_isNearer 25 = .ok (.getfield 30, 3) := by decide +kernel
theorem dX8_isNearer_28 : decode cX8_isNearer 28 = .ok (.if_icmp .ge 7, 3) := by decide +kernel
theorem dX8_isNearer_31 : decode cX8_isNearer 31 = .ok (.iconst 1, 1) := by decide +kernel
theorem dX8_isNearer_32 : decode cX8_isNearer 32 = .ok (.goto 4, 3) := by decide +kernel
theorem dX8_isNearer_35 : decode cX8_isNearer 35 = .ok (.iconst 0, 1) := by decide +kernel
theorem dX8_isNearer_36 : decode cX8_isNearer 36 = .ok (.ireturn, 1) := by decide +kernel
theorem dX9_init_0 : decode cX9_init 0 = .ok (.aload_n 0, 1) := by decide +kernel
theorem dX9_init_1 : decode cX9_init 1 = .ok (.invokespecial 3, 3) := by decide +kernel
theorem dX9_init_4 : decode cX9_init 4 = .ok (.aload_n 0, 1) := by decide +kernel
theorem dX9_init_5 : decode cX9_init 5 = .ok (.bipush 60, 2) := by decide +kernel
theorem dX9_init_7 : decode cX9_init 7 = .ok (.newarray .int, 2) := by decide +kernel
theorem dX9_init_9 : decode cX9_init 9 = .ok (.putfield 9, 3) := by decide +kernel
theorem dX9_init_12 : decode cX9_init 12 = .ok (.aload_n 0, 1) := by decide +kernel
theorem dX9_init_13 : decode cX9_init 13 = .ok (.bipush 7, 2) := by decide +kernel
theorem dX9_init_15 : decode cX9_init 15 = .ok (.anewarray 15, 3) := by decide +kernel
theorem dX9_init_18 : decode cX9_init 18 = .ok (.putfield 17, 3) := by decide +kernel
theorem dX9_init_21 : decode cX9_init 21 = .ok (.iconst 0, 1) := by decide +kernel
theorem dX9_init_22 : decode cX9_init 22 = .ok (.istore_n 1, 1) := by decide +kernel
theorem dX9_init_23 : decode cX9_init 23 = .ok (.iload_n 1, 1) := by decide +kernel
theorem dX9_init_24 : decode cX9_init 24 = .ok (.aload_n 0, 1) := by decide +kernel
theorem dX9_init_25 : decode cX9_init 25 = .ok (.getfield 17, 3) := by decide +kernel
theorem dX9_init_28 : decode cX9_init 28 = .ok (.arraylength, 1) := by decide +kernel
theorem dX9_init_29 : decode cX9_init 29 = .ok (.if_icmp .ge 22, 3) := by decide +kernel
theorem dX9_init_32 : decode cX9_init 32 = .ok (.aload_n 0, 1) := by decide +kernel
theorem dX9_init_33 : decode cX9_init 33 = .ok (.getfield 17, 3) := by decide +kernel
theorem dX9_init_36 : decode cX9_init 36 = .ok (.iload_n 1, 1) := by decide +kernel
theorem dX9_init_37 : decode cX9_init 37 = .ok (.new 15, 3) := by decide +kernel
theorem dX9_init_40 : decode cX9_init 40 = .ok (.dup, 1) := by decide +kernel
theorem dX9_init_41 : decode cX9_init 41 = .ok (.invokespecial 21, 3) := by decide +kernel
theorem dX9_init_44 : decode cX9_init 44 = .ok (.aastore, 1) := by decide +kernel
theorem dX9_init_45 : decode cX9_init 45 = .ok (.iinc 1 1, 3) := by decide +kernel
theorem dX9_init_48 : decode cX9_init 48 = .ok (.goto (-25), 3) := by decide +kernel
theorem dX9_init_51 : decode cX9_init 51 = .ok (.return_, 1) := by decide +kernel
theorem dX9_append_0 : decode cX9_append 0 = .ok (.aload_n 0, 1) := by decide +kernel
theorem dX9_append_1 : decode cX9_append 1 = .ok (.getfield 22, 3) := by decide +kernel
theorem dX9_append_4 : decode cX9_append 4 = .ok (.ifCond .lt 15, 3) := by decide +kernel
theorem dX9_append_7 : decode cX9_append 7 = .ok (.aload_n 0, 1) := by decide +kernel
theorem dX9_append_8 : decode cX9_append 8 = .ok (.getfield 22, 3) := by decide +kernel
theorem dX9_append_11 : decode cX9_append 11 = .ok (.aload_n 0, 1) := by decide +kernel
theorem dX9_append_12 : decode cX9_append 12 = .ok (.getfield 9, 3) := by decide +kernel
theorem dX9_append_15 : decode cX9_append 15 = .ok (.arraylength, 1) := by decide +kernel
theorem dX9_append_16 : decode cX9_append 16 = .ok (.if_icmp .lt 5, 3) := by decide +kernel
theorem dX9_append_19 : decode cX9_append 19 = .ok (.iconst 0, 1) := by decide +kernel
theorem dX9_append_20 : decode cX9_append 20 = .ok (.ireturn, 1) := by decide +kernel
theorem dX9_append_21 : decode cX9_append 21 = .ok (.aload_n 0, 1) := by decide +kernel
theorem dX9_append_22 : decode cX9_append 22 = .ok (.getfield 9, 3) := by decide +kernel
theorem dX9_append_25 : decode cX9_append 25 = .ok (.aload_n 0, 1) := by decide +kernel
theorem dX9_append_26 : decode cX9_append 26 = .ok (.getfield 22, 3) := by decide +kernel
theorem dX9_append_29 : decode cX9_append 29 = .ok (.iload_n 1, 1) := by decide +kernel
theorem dX9_append_30 : decode cX9_append 30 = .ok (.iastore, 1) := by decide +kernel
theorem dX9_append_31 : decode cX9_append 31 = .ok (.aload_n 0, 1) := by decide +kernel
theorem dX9_append_32 : decode cX9_append 32 = .ok (.dup, 1) := by decide +kernel
theorem dX9_append_33 : decode cX9_append 33 = .ok (.getfield 22, 3) := by decide +kernel
theorem dX9_append_36 : decode cX9_append 36 = .ok (.iconst 1, 1) := by decide +kernel
theorem dX9_append_37 : decode cX9_append 37 = .ok (.iadd, 1) := by decide +kernel
theorem dX9_append_38 : decode cX9_append 38 = .ok (.putfield 22, 3) := by decide +kernel
theorem dX9_append_41 : decode cX9_append 41 = .ok (.iconst 1, 1) := by decide +kernel
theorem dX9_append_42 : decode cX9_append 42 = .ok (.ireturn, 1) := by decide +kernel
theorem dX9_draft_0 : decode cX9_draft 0 = .ok (.iload_n 1, 1) := by decide +kernel
theorem dX9_draft_1 : decode cX9_draft 1 = .ok (.ifCond .lt 21, 3) := by decide +kernel
theorem dX9_draft_4 : decode cX9_draft 4 = .ok (.iload_n 1, 1) := by decide +kernel
theorem dX9_draft_5 : decode cX9_draft 5 = .ok (.aload_n 0, 1) := by decide +kernel
theorem dX9_draft_6 : decode cX9_draft 6 = .ok (.getfield 17, 3) := by decide +kernel
theorem dX9_draft_9 : decode cX9_draft 9 = .ok (.arraylength, 1) := by decide +kernel
theorem dX9_draft_10 : decode cX9_draft 10 = .ok (.if_icmp .ge 12, 3) := by decide +kernel
theorem dX9_draft_13 : decode cX9_draft 13 = .ok (.aload_n 0, 1) := by decide +kernel
theorem dX9_draft_14 : decode cX9_draft 14 = .ok (.getfield 17, 3) := by decide +kernel
theorem dX9_draft_17 : decode cX9_draft 17 = .ok (.iload_n 1, 1) := by decide +kernel
theorem dX9_draft_18 : decode cX9_draft 18 = .ok (.aaload, 1) := by decide +kernel
theorem dX9_draft_19 : decode cX9_draft 19 = .ok (.goto 4, 3) := by decide +kernel
theorem dX9_draft_22 : decode cX9_draft 22 = .ok (.aconst_null, 1) := by decide +kernel
theorem dX9_draft_23 : decode cX9_draft 23 = .ok (.areturn, 1) := by decide +kernel
theorem dX9_code_0 : decode cX9_code 0 = .ok (.aload_n 0, 1) := by decide +kernel
theorem dX9_code_1 : decode cX9_code 1 = .ok (.getfield 26, 3) := by decide +kernel
theorem dX9_code_4 : decode cX9_code 4 = .ok (.ifCond .lt 38, 3) := by decide +kernel
theorem dX9_code_7 : decode cX9_code 7 = .ok (.aload_n 0, 1) := by decide +kernel
theorem dX9_code_8 : decode cX9_code 8 = .ok (.getfield 26, 3) := by decide +kernel
theorem dX9_code_11 : decode cX9_code 11 = .ok (.aload_n 0, 1) := by decide +kernel
theorem dX9_code_12 : decode cX9_code 12 = .ok (.getfield 22, 3) := by decide +kernel
theorem dX9_code_15 : decode cX9_code 15 = .ok (.if_icmp .ge 27, 3) := by decide +kernel
theorem dX9_code_18 : decode cX9_code 18 = .ok (.aload_n 0, 1) := by decide +kernel
theorem dX9_code_19 : decode cX9_code 19 = .ok (.getfield 26, 3) := by decide +kernel
theorem dX9_code_22 : decode cX9_code 22 = .ok (.aload_n 0, 1) := by decide +kernel
theorem dX9_code_23 : decode cX9_code 23 = .ok (.getfield 9, 3) := by decide +kernel
theorem dX9_code_26 : decode cX9_code 26 = .ok (.arraylength, 1) := by decide +kernel
theorem dX9_code_27 : decode cX9_code 27 = .ok (.if_icmp .ge 15, 3) := by decide +kernel
theorem dX9_code_30 : decode cX9_code 30 = .ok (.aload_n 0, 1) := by decide +kernel
theorem dX9_code_31 : decode cX9_code 31 = .ok (.getfield 9, 3) := by decide +kernel
theorem dX9_code_34 : decode cX9_code 34 = .ok (.aload_n 0, 1) := by decide +kernel
theorem dX9_code_35 : decode cX9_code 35 = .ok (.getfield 26, 3) := by decide +kernel
theorem dX9_code_38 : decode cX9_code 38 = .ok (.iaload, 1) := by decide +kernel
theorem dX9_code_39 : decode cX9_code 39 = .ok (.goto 5, 3) := by decide +kernel
theorem dX9_code_42 : decode cX9_code 42 = .ok (.ldc 29, 2) := by decide +kernel
theorem dX9_code_44 : decode cX9_code 44 = .ok (.ireturn, 1) := by decide +kernel
theorem dX9_parse_0 : decode cX9_parse 0 = .ok (.aload_n 0, 1) := by decide +kernel
theorem dX9_parse_1 : decode cX9_parse 1 = .ok (.iconst 0, 1) := by decide +kernel
theorem dX9_parse_2 : decode cX9_parse 2 = .ok (.putfield 26, 3) := by decide +kernel
theorem dX9_parse_5 : decode cX9_parse 5 = .ok (.aload_n 0, 1) := by decide +kernel
theorem dX9_parse_6 : decode cX9_parse 6 = .ok (.iconst 0, 1) := by decide +kernel
theorem dX9_parse_7 : decode cX9_parse 7 = .ok (.putfield 30, 3) := by decide +kernel
theorem dX9_parse_10 : decode cX9_parse 10 = .ok (.aload_n 0, 1) := by decide +kernel
theorem dX9_parse_11 : decode cX9_parse 11 = .ok (.ldc 29, 2) := by decide +kernel
theorem dX9_parse_13 : decode cX9_parse 13 = .ok (.putfield 33, 3) := by decide +kernel
theorem dX9_parse_16 : decode cX9_parse 16 = .ok (.iconst 0, 1) := by decide +kernel
theorem dX9_parse_17 : decode cX9_parse 17 = .ok (.istore_n 1, 1) := by decide +kernel
theorem dX9_parse_18 : decode cX9_parse 18 = .ok (.iload_n 1, 1) := by decide +kernel
theorem dX9_parse_19 : decode cX9_parse 19 = .ok (.aload_n 0, 1) := by decide +kernel
theorem dX9_parse_20 : decode cX9_parse 20 = .ok (.getfield 17, 3) := by decide +kernel
theorem dX9_parse_23 : decode cX9_parse 23 = .ok (.arraylength, 1) := by decide +kernel
theorem dX9_parse_24 : decode cX9_parse 24 = .ok (.if_icmp .ge 83, 3) := by decide +kernel
theorem dX9_parse_27 : decode cX9_parse 27 = .ok (.aload_n 0, 1) := by decide +kernel
theorem dX9_parse_28 : decode cX9_parse 28 = .ok (.getfield 17, 3) := by decide +kernel
theorem dX9_parse_31 : decode cX9_parse 31 = .ok (.iload_n 1, 1) := by decide +kernel
theorem dX9_parse_32 : decode cX9_parse 32 = .ok (.aaload, 1) := by decide +kernel
theorem dX9_parse_33 : decode cX9_parse 33 = .ok (.astore_n 2, 1) := by decide +kernel
theorem dX9_parse_34 : decode cX9_parse 34 = .ok (.aload_n 2, 1) := by decide +kernel
theorem dX9_parse_35 : decode cX9_parse 35 = .ok (.ifnull 11, 3) := by decide +kernel
theorem dX9_parse_38 : decode cX9_parse 38 = .ok (.aload_n 0, 1) := by decide +kernel
theorem dX9_parse_39 : decode cX9_parse 39 = .ok (.aload_n 2, 1) := by decide +kernel
theorem dX9_parse_40 : decode cX9_parse 40 = .ok (.invokevirtual 36, 3) := by decide +kernel
theorem dX9_parse_43 : decode cX9_parse 43 = .ok (.ifCond .ne 8, 3) := by decide +kernel
theorem dX9_parse_46 : decode cX9_parse 46 = .ok (.aload_n 0, 1) := by decide +kernel
theorem dX9_parse_47 : decode cX9_parse 47 = .ok (.getfield 26, 3) := by decide +kernel
theorem dX9_parse_50 : decode cX9_parse 50 = .ok (.ireturn, 1) := by decide +kernel
theorem dX9_parse_51 : decode cX9_parse 51 = .ok (.aload_n 0, 1) := by decide +kernel
theorem dX9_parse_52 : decode cX9_parse 52 = .ok (.dup, 1) := by decide +kernel
theorem dX9_parse_53 : decode cX9_parse 53 = .ok (.getfield 30, 3) := by decide +kernel
theorem dX9_parse_56 : decode cX9_parse 56 = .ok (.iconst 1, 1) := by decide +kernel
theorem dX9_parse_57 : decode cX9_parse 57 = .ok (.iadd, 1) := by decide +kernel
theorem dX9_parse_58 : decode cX9_parse 58 = .ok (.putfield 30, 3) := by decide +kernel
theorem dX9_parse_61 : decode cX9_parse 61 = .ok (.aload_n 0, 1) := by decide +kernel
theorem dX9_parse_62 : decode cX9_parse 62 = .ok (.getfield 26, 3) := by decide +kernel
theorem dX9_parse_65 : decode cX9_parse 65 = .ok (.aload_n 0, 1) := by decide +kernel
theorem dX9_parse_66 : decode cX9_parse 66 = .ok (.getfield 22, 3) := by decide +kernel
theorem dX9_parse_69 : decode cX9_parse 69 = .ok (.if_icmp .lt 8, 3) := by decide +kernel
theorem dX9_parse_72 : decode cX9_parse 72 = .ok (.aload_n 0, 1) := by decide +kernel
theorem dX9_parse_73 : decode cX9_parse 73 = .ok (.getfield 33, 3) := by decide +kernel
theorem dX9_parse_76 : decode cX9_parse 76 = .ok (.ireturn, 1) := by decide +kernel
theorem dX9_parse_77 : decode cX9_parse 77 = .ok (.aload_n 0, 1) := by decide +kernel
theorem dX9_parse_78 : decode cX9_parse 78 = .ok (.invokevirtual 40, 3) := by decide +kernel
theorem dX9_parse_81 : decode cX9_parse 81 = .ok (.bipush 59, 2) := by decide +kernel
theorem dX9_parse_83 : decode cX9_parse 83 = .ok (.if_icmp .eq 8, 3) := by decide +kernel
theorem dX9_parse_86 : decode cX9_parse 86 = .ok (.aload_n 0, 1) := by decide +kernel
theorem dX9_parse_87 : decode cX9_parse 87 = .ok (.getfield 26, 3) := by decide +kernel
theorem dX9_parse_90 : decode cX9_parse 90 = .ok (.ireturn, 1) := by decide +kernel
theorem dX9_parse_91 : decode cX9_parse 91 = .ok (.aload_n 0, 1) := by decide +kernel
theorem dX9_parse_92 : decode cX9_parse 92 = .ok (.dup, 1) := by decide +kernel
theorem dX9_parse_93 : decode cX9_parse 93 = .ok (.getfield 26, 3) := by decide +kernel
theorem dX9_parse_96 : decode cX9_parse 96 = .ok (.iconst 1, 1) := by decide +kernel
theorem dX9_parse_97 : decode cX9_parse 97 = .ok (.iadd, 1) := by decide +kernel
theorem dX9_parse_98 : decode cX9_parse 98 = .ok (.putfield 26, 3) := by decide +kernel
theorem dX9_parse_101 : decode cX9_parse 101 = .ok (.iinc 1 1, 3) := by decide +kernel
theorem dX9_parse_104 : decode cX9_parse 104 = .ok (.goto (-86), 3) := by decide +kernel
theorem dX9_parse_107 : decode cX9_parse 107 = .ok (.aload_n 0, 1) := by decide +kernel
theorem dX9_parse_108 : decode cX9_parse 108 = .ok (.getfield 26, 3) := by decide +kernel
theorem dX9_parse_111 : decode cX9_parse 111 = .ok (.ireturn, 1) := by decide +kernel
theorem dX9_parseShape_0 : decode cX9_parseShape 0 = .ok (.aload_n 1, 1) := by decide +kernel
theorem dX9_parseShape_1 : decode cX9_parseShape 1 = .ok (.aload_n 0, 1) := by decide +kernel
theorem dX9_parseShape_2 : decode cX9_parseShape 2 = .ok (.invokevirtual 40, 3) := by decide +kernel
theorem dX9_parseShape_5 : decode cX9_parseShape 5 = .ok (.invokestatic 44, 3) := by decide +kernel
theorem dX9_parseShape_8 : decode cX9_parseShape 8 = .ok (.putfield 48, 3) := by decide +kernel
theorem dX9_parseShape_11 : decode cX9_parseShape 11 = .ok (.aload_n 1, 1) := by decide +kernel
theorem dX9_parseShape_12 : decode cX9_parseShape 12 = .ok (.getfield 48, 3) := by decide +kernel
theorem dX9_parseShape_15 : decode cX9_parseShape 15 = .ok (.ldc 29, 2) := by decide +kernel
theorem dX9_parseShape_17 : decode cX9_parseShape 17 = .ok (.if_icmp .ne 5, 3) := by decide +kernel
theorem dX9_parseShape_20 : decode cX9_parseShape 20 = .ok (.iconst 0, 1) := by decide +kernel
theorem dX9_parseShape_21 : decode cX9_parseShape 21 = .ok (.ireturn, 1) := by decide +kernel
theorem dX9_parseShape_22 : decode cX9_parseShape 22 = .ok (.aload_n 0, 1) := by decide +kernel
theorem dX9_parseShape_23 : decode cX9_parseShape 23 = .ok (.dup, 1) := by decide +kernel
theorem dX9_parseShape_24 : decode cX9_parseShape 24 = .ok (.getfield 26, 3) := by decide +kernel
theorem dX9_parseShape_27 : decode cX9_parseShape 27 = .ok (.iconst 1, 1) := by decide +kernel
theorem dX9_parseShape_28 : decode cX9_parseShape 28 = .ok (.iadd, 1) := by decide +kernel
theorem dX9_parseShape_29 : decode cX9_parseShape 29 = .ok (.putfield 26, 3) := by decide +kernel
theorem dX9_parseShape_32 : decode cX9_parseShape 32 = .ok (.iconst 0, 1) := by decide +kernel
theorem dX9_parseShape_33 : decode cX9_parseShape 33 = .ok (.istore_n 2, 1) := by decide +kernel
theorem dX9_parseShape_34 : decode cX9_parseShape 34 = .ok (.iload_n 2, 1) := by decide +kernel
theorem dX9_parseShape_35 : decode cX9_parseShape 35 = .ok (.iconst 4, 1) := by decide +kernel
theorem dX9_parseShape_36 : decode cX9_parseShape 36 = .ok (.if_icmp .ge 55, 3) := by decide +kernel
theorem dX9_parseShape_39 : decode cX9_parseShape 39 = .ok (.iload_n 2, 1) := by decide +kernel
theorem dX9_parseShape_40 : decode cX9_parseShape 40 = .ok (.ifCond .le 24, 3) := by decide +kernel
theorem dX9_parseShape_43 : decode cX9_parseShape 43 = .ok (.aload_n 0, 1) := by decide +kernel
theorem dX9_parseShape_44 : decode cX9_parseShape 44 = .ok (.invokevirtual 40, 3) := by decide +kernel
theorem dX9_parseShape_47 : decode cX9_parseShape 47 = .ok (.bipush 44, 2) := by decide +kernel
theorem dX9_parseShape_49 : decode cX9_parseShape 49 = .ok (.if_icmp .eq 5, 3) := by decide +kernel
theorem dX9_parseShape_52 : decode cX9_parseShape 52 = .ok (.iconst 0, 1) := by decide +kernel
theorem dX9_parseShape_53 : decode cX9_parseShape 53 = .ok (.ireturn, 1) := by decide +kernel
theorem dX9_parseShape_54 : decode cX9_parseShape 54 = .ok (.aload_n 0, 1) := by decide +kernel
theorem dX9_parseShape_55 : decode cX9_parseShape 55 = .ok (.dup, 1) := by decide +kernel
theorem dX9_parseShape_56 : decode cX9_parseShape 56 = .ok (.getfield 26, 3) := by decide +kernel
theorem dX9_parseShape_59 : decode cX9_parseShape 59 = .ok (.iconst 1, 1) := by decide +kernel
theorem dX9_parseShape_60 : decode cX9_parseShape 60 = .ok (.iadd, 1) := by decide +kernel
theorem dX9_parseShape_61 : decode cX9_parseShape 61 = .ok (.putfield 26, 3) := by decide +kernel
theorem dX9_parseShape_64 : decode cX9_parseShape 64 = .ok (.aload_n 0, 1) := by decide +kernel
theorem dX9_parseShape_65 : decode cX9_parseShape 65 = .ok (.getfield 26, 3) := by decide +kernel
theorem dX9_parseShape_68 : decode cX9_parseShape 68 = .ok (.istore_n 3, 1) := by decide +kernel
theorem dX9_parseShape_69 : decode cX9_parseShape 69 = .ok (.aload_n 0, 1) := by decide +kernel
theorem dX9_parseShape_70 : decode cX9_parseShape 70 = .ok (.invokevirtual 51, 3) := by decide +kernel
theorem dX9_parseShape_73 : decode cX9_parseShape 73 = .ok (.ifCond .ne 5, 3) := by decide +kernel
theorem dX9_parseShape_76 : decode cX9_parseShape 76 = .ok (.iconst 0, 1) := by decide +kernel
theorem dX9_parseShape_77 : decode cX9_parseShape 77 = .ok (.ireturn, 1) := by decide +kernel
theorem dX9_parseShape_78 : decode cX9_parseShape 78 = .ok (.aload_n 0, 1) := by decide +kernel
theorem dX9_parseShape_79 : decode cX9_parseShape 79 = .ok (.aload_n 1, 1) := by decide +kernel
theorem dX9_parseShape_80 : decode cX9_parseShape 80 = .ok (.iload_n 2, 1) := by decide +kernel
theorem dX9_parseShape_81 : decode cX9_parseShape 81 = .ok (.iload_n 3, 1) := by decide +kernel
theorem dX9_parseShape_82 : decode cX9_parseShape 82 = .ok (.invokevirtual 55, 3) := by decide +kernel
theorem dX9_parseShape_85 : decode cX9_parseShape 85 = .ok (.iinc 2 1, 3) := by decide +kernel
theorem dX9_parseShape_88 : decode cX9_parseShape 88 = .ok (.goto (-54), 3) := by decide +kernel
theorem dX9_parseShape_91 : decode cX9_parseShape 91 = .ok (.iconst 1, 1) := by decide +kernel
theorem dX9_parseShape_92 : decode cX9_parseShape 92 = .ok (.ireturn, 1) := by decide +kernel
theorem dX9_kindOf_0 : decode cX9_kindOf 0 = .ok (.iload_n 0, 1) := by decide +kernel
theorem dX9_kindOf_1 : decode cX9_kindOf 1 = .ok (.tableswitch 37 98 101 #[31, 37, 35, 33], 31) := by decide +kernel
theorem dX9_kindOf_32 : decode cX9_kindOf 32 = .ok (.iconst 0, 1) := by decide +kernel
theorem dX9_kindOf_33 : decode cX9_kindOf 33 = .ok (.ireturn, 1) := by decide +kernel
theorem dX9_kindOf_34 : decode cX9_kindOf 34 = .ok (.iconst 1, 1) := by decide +kernel
theorem dX9_kindOf_35 : decode cX9_kindOf 35 = .ok (.ireturn, 1) := by decide +kernel
theorem dX9_kindOf_36 : decode cX9_kindOf 36 = .ok (.iconst 2, 1) := by decide +kernel
theorem dX9_kindOf_37 : decode cX9_kindOf 37 = .ok (.ireturn, 1) := by decide +kernel
theorem dX9_kindOf_38 : decode cX9_kindOf 38 = .ok (.ldc 29, 2) := by decide +kernel
theorem dX9_kindOf_40 : decode cX9_kindOf 40 = .ok (.ireturn, 1) := by decide +kernel
theorem dX9_parseNumber_0 : decode cX9_parseNumber 0 = .ok (.aload_n 0, 1) := by decide +kernel
theorem dX9_parseNumber_1 : decode cX9_parseNumber 1 = .ok (.invokevirtual 40, 3) := by decide +kernel
theorem dX9_parseNumber_4 : decode cX9_parseNumber 4 = .ok (.bipush 45, 2) := by decide +kernel
theorem dX9_parseNumber_6 : decode cX9_parseNumber 6 = .ok (.if_icmp .ne 7, 3) := by decide +kernel
theorem dX9_parseNumber_9 : decode cX9_parseNumber 9 = .ok (.iconst 1, 1) := by decide +kernel
theorem dX9_parseNumber_10 : decode cX9_parseNumber 10 = .ok (.goto 4, 3) := by decide +kernel
theorem dX9_parseNumber_13 : decode cX9_parseNumber 13 = .ok (.iconst 0, 1) := by decide +kernel
theorem dX9_parseNumber_14 : decode cX9_parseNumber 14 = .ok (.istore_n 1, 1) := by decide +kernel
theorem dX9_parseNumber_15 : decode cX9_parseNumber 15 = .ok (.iload_n 1, 1) := by decide +kernel
theorem dX9_parseNumber_16 : decode cX9_parseNumber 16 = .ok (.ifCond .eq 13, 3) := by decide +kernel
theorem dX9_parseNumber_19 : decode cX9_parseNumber 19 = .ok (.aload_n 0, 1) := by decide +kernel
theorem dX9_parseNumber_20 : decode cX9_parseNumber 20 = .ok (.dup, 1) := by decide +kernel
theorem dX9_parseNumber_21 : decode cX9_parseNumber 21 = .ok (.getfield 26, 3) := by decide +kernel
theorem dX9_parseNumber_24 : decode cX9_parseNumber 24 = .ok (.iconst 1, 1) := by decide +kernel
theorem dX9_parseNumber_25 : decode cX9_parseNumber 25 = .ok (.iadd, 1) := by decide +kernel
theorem dX9_parseNumber_26 : decode cX9_parseNumber 26 = .ok (.putfield 26, 3) := by decide +kernel
theorem dX9_parseNumber_29 : decode cX9_parseNumber 29 = .ok (.iconst 0, 1) := by decide +kernel
theorem dX9_parseNumber_30 : decode cX9_parseNumber 30 = .ok (.istore_n 2, 1) := by decide +kernel
theorem dX9_parseNumber_31 : decode cX9_parseNumber 31 = .ok (.iconst 0, 1) := by decide +kernel
theorem dX9_parseNumber_32 : decode cX9_parseNumber 32 = .ok (.istore_n 3, 1) := by decide +kernel
theorem dX9_parseNumber_33 : decode cX9_parseNumber 33 = .ok (.iload_n 3, 1) := by decide +kernel
theorem dX9_parseNumber_34 : decode cX9_parseNumber 34 = .ok (.iconst 5, 1) := by decide +kernel
theorem dX9_parseNumber_35 : decode cX9_parseNumber 35 = .ok (.if_icmp .ge 46, 3) := by decide +kernel
theorem dX9_parseNumber_38 : decode cX9_parseNumber 38 = .ok (.aload_n 0, 1) := by decide +kernel
theorem dX9_parseNumber_39 : decode cX9_parseNumber 39 = .ok (.invokevirtual 40, 3) := by decide +kernel
theorem dX9_parseNumber_42 : decode cX9_parseNumber 42 = .ok (.bipush 48, 2) := by decide +kernel
theorem dX9_parseNumber_44 : decode cX9_parseNumber 44 = .ok (.bipush 57, 2) := by decide +kernel
theorem dX9_parseNumber_46 : decode cX9_parseNumber 46 = .ok (.invokestatic 59, 3) := by decide +kernel
theorem dX9_parseNumber_49 : decode cX9_parseNumber 49 = .ok (.ifCond .eq 32, 3) := by decide +kernel
theorem dX9_parseNumber_52 : decode cX9_parseNumber 52 = .ok (.bipush 10, 2) := by decide +kernel
theorem dX9_parseNumber_54 : decode cX9_parseNumber 54 = .ok (.iload_n 2, 1) := by decide +kernel
theorem dX9_parseNumber_55 : decode cX9_parseNumber 55 = .ok (.imul, 1) := by decide +kernel
theorem dX9_parseNumber_56 : decode cX9_parseNumber 56 = .ok (.aload_n 0, 1) := by decide +kernel
theorem dX9_parseNumber_57 : decode cX9_parseNumber 57 = .ok (.invokevirtual 40, 3) := by decide +kernel
theorem dX9_parseNumber_60 : decode cX9_parseNumber 60 = .ok (.iadd, 1) := by decide +kernel
theorem dX9_parseNumber_61 : decode cX9_parseNumber 61 = .ok (.bipush 48, 2) := by decide +kernel
theorem dX9_parseNumber_63 : decode cX9_parseNumber 63 = .ok (.isub, 1) := by decide +kernel
theorem dX9_parseNumber_64 : decode cX9_parseNumber 64 = .ok (.istore_n 2, 1) := by decide +kernel
theorem dX9_parseNumber_65 : decode cX9_parseNumber 65 = .ok (.iinc 3 1, 3) := by decide +kernel
theorem dX9_parseNumber_68 : decode cX9_parseNumber 68 = .ok (.aload_n 0, 1) := by decide +kernel
theorem dX9_parseNumber_69 : decode cX9_parseNumber 69 = .ok (.dup, 1) := by decide +kernel
theorem dX9_parseNumber_70 : decode cX9_parseNumber 70 = .ok (.getfield 26, 3) := by decide +kernel
theorem dX9_parseNumber_73 : decode cX9_parseNumber 73 = .ok (.iconst 1, 1) := by decide +kernel
theorem dX9_parseNumber_74 : decode cX9_parseNumber 74 = .ok (.iadd, 1) := by decide +kernel
theorem dX9_parseNumber_75 : decode cX9_parseNumber 75 = .ok (.putfield 26, 3) := by decide +kernel
theorem dX9_parseNumber_78 : decode cX9_parseNumber 78 = .ok (.goto (-45), 3) := by decide +kernel
theorem dX9_parseNumber_81 : decode cX9_parseNumber 81 = .ok (.aload_n 0, 1) := by decide +kernel
theorem dX9_parseNumber_82 : decode cX9_parseNumber 82 = .ok (.iload_n 1, 1) := by decide +kernel
theorem dX9_parseNumber_83 : decode cX9_parseNumber 83 = .ok (.ifCond .eq 8, 3) := by decide +kernel
theorem dX9_parseNumber_86 : decode cX9_parseNumber 86 = .ok (.iload_n 2, 1) := by decide +kernel
theorem dX9_parseNumber_87 : decode cX9_parseNumber 87 = .ok (.ineg, 1) := by decide +kernel
theorem dX9_parseNumber_88 : decode cX9_parseNumber 88 = .ok (.goto 4, 3) := by decide +kernel
theorem dX9_parseNumber_91 : decode cX9_parseNumber 91 = .ok (.iload_n 2, 1) := by decide +kernel
theorem dX9_parseNumber_92 : decode cX9_parseNumber 92 = .ok (.putfield 63, 3) := by decide +kernel
theorem dX9_parseNumber_95 : decode cX9_parseNumber 95 = .ok (.iload_n 3, 1) := by decide +kernel
theorem dX9_parseNumber_96 : decode cX9_parseNumber 96 = .ok (.ifCond .le 7, 3) := by decide +kernel
theorem dX9_parseNumber_99 : decode cX9_parseNumber 99 = .ok (.iconst 1, 1) := by decide +kernel
theorem dX9_parseNumber_100 : decode cX9_parseNumber 100 = .ok (.goto 4, 3) := by decide +kernel
theorem dX9_parseNumber_103 : decode cX9_parseNumber 103 = .ok (.iconst 0, 1) := by decide +kernel
theorem dX9_parseNumber_104 : decode cX9_parseNumber 104 = .ok (.ireturn, 1) := by decide +kernel
theorem dX9_takeNumber_0 : decode cX9_takeNumber 0 = .ok (.iload_n 2, 1) := by decide +kernel
theorem dX9_takeNumber_1 : decode cX9_takeNumber 1 = .ok (.iconst 2, 1) := by decide +kernel
theorem dX9_takeNumber_2 : decode cX9_takeNumber 2 = .ok (.if_icmp .ge 13, 3) := by decide +kernel
theorem dX9_takeNumber_5 : decode cX9_takeNumber 5 = .ok (.aload_n 0, 1) := by decide +kernel
theorem dX9_takeNumber_6 : decode cX9_takeNumber 6 = .ok (.getfield 63, 3) := by decide +kernel
theorem dX9_takeNumber_9 : decode cX9_takeNumber 9 = .ok (.invokestatic 66, 3) := by decide +kernel
theorem dX9_takeNumber_12 : decode cX9_takeNumber 12 = .ok (.goto 10, 3) := by decide +kernel
theorem dX9_takeNumber_15 : decode cX9_takeNumber 15 = .ok (.aload_n 0, 1) := by decide +kernel
theorem dX9_takeNumber_16 : decode cX9_takeNumber 16 = .ok (.getfield 63, 3) := by decide +kernel
theorem dX9_takeNumber_19 : decode cX9_takeNumber 19 = .ok (.invokestatic 70, 3) := by decide +kernel
theorem dX9_takeNumber_22 : decode cX9_takeNumber 22 = .ok (.istore 4, 2) := by decide +kernel
theorem dX9_takeNumber_24 : decode cX9_takeNumber 24 = .ok (.iload 4, 2) := by decide +kernel
theorem dX9_takeNumber_26 : decode cX9_takeNumber 26 = .ok (.ifCond .ne 17, 3) := by decide +kernel
theorem dX9_takeNumber_29 : decode cX9_takeNumber 29 = .ok (.aload_n 0, 1) := by decide +kernel
theorem dX9_takeNumber_30 : decode cX9_takeNumber 30 = .ok (.getfield 33, 3) := by decide +kernel
theorem dX9_takeNumber_33 : decode cX9_takeNumber 33 = .ok (.ldc 29, 2) := by decide +kernel
theorem dX9_takeNumber_35 : decode cX9_takeNumber 35 = .ok (.if_icmp .ne 8, 3) := by decide +kernel
theorem dX9_takeNumber_38 : decode cX9_takeNumber 38 = .ok (.aload_n 0, 1) := by decide +kernel
theorem dX9_takeNumber_39 : decode cX9_takeNumber 39 = .ok (.iload_n 3, 1) := by decide +kernel
theorem dX9_takeNumber_40 : decode cX9_takeNumber 40 = .ok (.putfield 33, 3) := by decide +kernel
theorem dX9_takeNumber_43 : decode cX9_takeNumber 43 = .ok (.iload_n 2, 1) := by decide +kernel
theorem dX9_takeNumber_44 : decode cX9_takeNumber 44 = .ok (.tableswitch 61 0 2 #[28, 39, 50], 28) := by decide +kernel
theorem dX9_takeNumber_72 : decode cX9_takeNumber 72 = .ok (.aload_n 1, 1) := by decide +kernel
theorem dX9_takeNumber_73 : decode cX9_takeNumber 73 = .ok (.aload_n 0, 1) := by decide +kernel
theorem dX9_takeNumber_74 : decode cX9_takeNumber 74 = .ok (.getfield 63, 3) := by decide +kernel
theorem dX9_takeNumber_77 : decode cX9_takeNumber 77 = .ok (.putfield 73, 3) := by decide +kernel
theorem dX9_takeNumber_80 : decode cX9_takeNumber 80 = .ok (.goto 33, 3) := by decide +kernel
theorem dX9_takeNumber_83 : decode cX9_takeNumber 83 = .ok (.aload_n 1, 1) := by decide +kernel
theorem dX9_takeNumber_84 : decode cX9_takeNumber 84 = .ok (.aload_n 0, 1) := by decide +kernel
theorem dX9_takeNumber_85 : decode cX9_takeNumber 85 = .ok (.getfield 63, 3) := by decide +kernel
theorem dX9_takeNumber_88 : decode cX9_takeNumber 88 = .ok (.putfield 76, 3) := by decide +kernel
theorem dX9_takeNumber_91 : decode cX9_takeNumber 91 = .ok (.goto 22, 3) := by decide +kernel
theorem dX9_takeNumber_94 : decode cX9_takeNumber 94 = .ok (.aload_n 1, 1) := by decide +kernel
theorem dX9_takeNumber_95 : decode cX9_takeNumber 95 = .ok (.aload_n 0, 1) := by decide +kernel
theorem dX9_takeNumber_96 : decode cX9_takeNumber 96 = .ok (.getfield 63, 3) := by decide +kernel
theorem dX9_takeNumber_99 : decode cX9_takeNumber 99 = .ok (.putfield 79, 3) := by decide +kernel
theorem dX9_takeNumber_102 : decode cX9_takeNumber 102 = .ok (.goto 11, 3) := by decide +kernel
theorem dX9_takeNumber_105 : decode cX9_takeNumber 105 = .ok (.aload_n 1, 1) := by decide +kernel
theorem dX9_takeNumber_106 : decode cX9_takeNumber 106 = .ok (.aload_n 0, 1) := by decide +kernel
theorem dX9_takeNumber_107 : decode cX9_takeNumber 107 = .ok (.getfield 63, 3) := by decide +kernel
theorem dX9_takeNumber_110 : decode cX9_takeNumber 110 = .ok (.putfield 82, 3) := by decide +kernel
theorem dX9_takeNumber_113 : decode cX9_takeNumber 113 = .ok (.return_, 1) := by decide +kernel
theorem dX10_init_0 : decode cX10_init 0 = .ok (.aload_n 0, 1) := by decide +kernel
theorem dX10_init_1 : decode cX10_init 1 = .ok (.invokespecial 3, 3) := by decide +kernel
theorem dX10_init_4 : decode cX10_init 4 = .ok (.aload_n 0, 1) := by decide +kernel
theorem dX10_init_5 : decode cX10_init 5 = .ok (.bipush 20, 2) := by decide +kernel
theorem dX10_init_7 : decode cX10_init 7 = .ok (.newarray .int, 2) := by decide +kernel
theorem dX10_init_9 : decode cX10_init 9 = .ok (.putfield 9, 3) := by decide +kernel
theorem dX10_init_12 : decode cX10_init 12 = .ok (.aload_n 0, 1) := by decide +kernel
theorem dX10_init_13 : decode cX10_init 13 = .ok (.bipush 20, 2) := by decide +kernel
theorem dX10_init_15 : decode cX10_init 15 = .ok (.newarray .int, 2) := by decide +kernel
theorem dX10_init_17 : decode cX10_init 17 = .ok (.putfield 15, 3) := by decide +kernel
theorem dX10_init_20 : decode cX10_init 20 = .ok (.return_, 1) := by decide +kernel
theorem dX10_gather_0 : decode cX10_gather 0 = .ok (.aload_n 0, 1) := by decide +kernel
theorem dX10_gather_1 : decode cX10_gather 1 = .ok (.iconst 0, 1) := by decide +kernel
theorem dX10_gather_2 : decode cX10_gather 2 = .ok (.putfield 18, 3) := by decide +kernel
theorem dX10_gather_5 : decode cX10_gather 5 = .ok (.iconst 0, 1) := by decide +kernel
theorem dX10_gather_6 : decode cX10_gather 6 = .ok (.istore_n 2, 1) := by decide +kernel
theorem dX10_gather_7 : decode cX10_gather 7 = .ok (.iconst 0, 1) := by decide +kernel
theorem dX10_gather_8 : decode cX10_gather 8 = .ok (.istore_n 3, 1) := by decide +kernel
theorem dX10_gather_9 : decode cX10_gather 9 = .ok (.iload_n 3, 1) := by decide +kernel
theorem dX10_gather_10 : decode cX10_gather 10 = .ok (.bipush 20, 2) := by decide +kernel
theorem dX10_gather_12 : decode cX10_gather 12 = .ok (.if_icmp .ge 62, 3) := by decide +kernel
theorem dX10_gather_15 : decode cX10_gather 15 = .ok (.aload_n 1, 1) := by decide +kernel
theorem dX10_gather_16 : decode cX10_gather 16 = .ok (.getfield 22, 3) := by decide +kernel
theorem dX10_gather_19 : decode cX10_gather 19 = .ok (.iload_n 3, 1) := by decide +kernel
theorem dX10_gather_20 : decode cX10_gather 20 = .ok (.invokevirtual 28, 3) := by decide +kernel
theorem dX10_gather_23 : decode cX10_gather 23 = .ok (.astore 4, 2) := by decide +kernel
theorem dX10_gather_25 : decode cX10_gather 25 = .ok (.aload 4, 2) := by decide +kernel
theorem dX10_gather_27 : decode cX10_gather 27 = .ok (.ifnull 41, 3) := by decide +kernel
theorem dX10_gather_30 : decode cX10_gather 30 = .ok (.aload_n 1, 1) := by decide +kernel
theorem dX10_gather_31 : decode cX10_gather 31 = .ok (.getfield 22, 3) := by decide +kernel
theorem dX10_gather_34 : decode cX10_gather 34 = .ok (.getfield 34, 3) := by decide +kernel
theorem dX10_gather_37 : decode cX10_gather 37 = .ok (.iload_n 2, 1) := by decide +kernel
theorem dX10_gather_38 : decode cX10_gather 38 = .ok (.iconst (-1), 1) := by decide +kernel
theorem dX10_gather_39 : decode cX10_gather 39 = .ok (.ixor, 1) := by decide +kernel
theorem dX10_gather_40 : decode cX10_gather 40 = .ok (.iand, 1) := by decide +kernel
theorem dX10_gather_41 : decode cX10_gather 41 = .ok (.iload_n 3, 1) := by decide +kernel
theorem dX10_gather_42 : decode cX10_gather 42 = .ok (.invokestatic 37, 3) := by decide +kernel
theorem dX10_gather_45 : decode cX10_gather 45 = .ok (.ifCond .eq 23, 3) := by decide +kernel
theorem dX10_gather_48 : decode cX10_gather 48 = .ok (.aload_n 1, 1) := by decide +kernel
theorem dX10_gather_49 : decode cX10_gather 49 = .ok (.iload_n 3, 1) := by decide +kernel
theorem dX10_gather_50 : decode cX10_gather 50 = .ok (.aload 4, 2) := by decide +kernel
theorem dX10_gather_52 : decode cX10_gather 52 = .ok (.invokevirtual 41, 3) := by decide +kernel
theorem dX10_gather_55 : decode cX10_gather 55 = .ok (.istore 5, 2) := by decide +kernel
theorem dX10_gather_57 : decode cX10_gather 57 = .ok (.iload_n 2, 1) := by decide +kernel
theorem dX10_gather_58 : decode cX10_gather 58 = .ok (.iload 5, 2) := by decide +kernel
theorem dX10_gather_60 : decode cX10_gather 60 = .ok (.ior, 1) := by decide +kernel
theorem dX10_gather_61 : decode cX10_gather 61 = .ok (.istore_n 2, 1) := by decide +kernel
theorem dX10_gather_62 : decode cX10_gather 62 = .ok (.aload_n 0, 1) := by decide +kernel
theorem dX10_gather_63 : decode cX10_gather 63 = .ok (.iload 5, 2) := by decide +kernel
theorem dX10_gather_65 : decode cX10_gather 65 = .ok (.invokevirtual 45, 3) := by decide +kernel
theorem dX10_gather_68 : decode cX10_gather 68 = .ok (.iinc 3 1, 3) := by decide +kernel
theorem dX10_gather_71 : decode cX10_gather 71 = .ok (.goto (-62), 3) := by decide +kernel
theorem dX10_gather_74 : decode cX10_gather 74 = .ok (.return_, 1) := by decide +kernel
theorem dX10_add_0 : decode cX10_add 0 = .ok (.aload_n 0, 1) := by decide +kernel
theorem dX10_add_1 : decode cX10_add 1 = .ok (.getfield 18, 3) := by decide +kernel
theorem dX10_add_4 : decode cX10_add 4 = .ok (.ifCond .lt 35, 3) := by decide +kernel
theorem dX10_add_7 : decode cX10_add 7 = .ok (.aload_n 0, 1) := by decide +kernel
theorem dX10_add_8 : decode cX10_add 8 = .ok (.getfield 18, 3) := by decide +kernel
theorem dX10_add_11 : decode cX10_add 11 = .ok (.aload_n 0, 1) := by decide +kernel
theorem dX10_add_12 : decode cX10_add 12 = .ok (.getfield 9, 3) := by decide +kernel
theorem dX10_add_15 : decode cX10_add 15 = .ok (.arraylength, 1) := by decide +kernel
theorem dX10_add_16 : decode cX10_add 16 = .ok (.if_icmp .ge 23, 3) := by decide +kernel
theorem dX10_add_19 : decode cX10_add 19 = .ok (.aload_n 0, 1) := by decide +kernel
theorem dX10_add_20 : decode cX10_add 20 = .ok (.getfield 9, 3) := by decide +kernel
theorem dX10_add_23 : decode cX10_add 23 = .ok (.aload_n 0, 1) := by decide +kernel
theorem dX10_add_24 : decode cX10_add 24 = .ok (.getfield 18, 3) := by decide +kernel
theorem dX10_add_27 : decode cX10_add 27 = .ok (.iload_n 1, 1) := by decide +kernel
theorem dX10_add_28 : decode cX10_add 28 = .ok (.iastore, 1) := by decide +kernel
theorem dX10_add_29 : decode cX10_add 29 = .ok (.aload_n 0, 1) := by decide +kernel
theorem dX10_add_30 : decode cX10_add 30 = .ok (.dup, 1) := by decide +kernel
theorem dX10_add_31 : decode cX10_add 31 = .ok (.getfield 18, 3) := by decide +kernel
theorem dX10_add_34 : decode cX10_add 34 = .ok (.iconst 1, 1) := by decide +kernel
theorem dX10_add_35 : decode cX10_add 35 = .ok (.iadd, 1) := by decide +kernel
theorem dX10_add_36 : decode cX10_add 36 = .ok (.putfield 18, 3) := by decide +kernel
theorem dX10_add_39 : decode cX10_add 39 = .ok (.return_, 1) := by decide +kernel
theorem dX10_setOf_0 : decode cX10_setOf 0 = .ok (.iload_n 1, 1) := by decide +kernel
theorem dX10_setOf_1 : decode cX10_setOf 1 = .ok (.ifCond .lt 29, 3) := by decide +kernel
theorem dX10_setOf_4 : decode cX10_setOf 4 = .ok (.iload_n 1, 1) := by decide +kernel
theorem dX10_setOf_5 : decode cX10_setOf 5 = .ok (.aload_n 0, 1) := by decide +kernel
theorem dX10_setOf_6 : decode cX10_setOf 6 = .ok (.getfield 18, 3) := by decide +kernel
theorem dX10_setOf_9 : decode cX10_setOf 9 = .ok (.if_icmp .ge 21, 3) := by decide +kernel
theorem dX10_setOf_12 : decode cX10_setOf 12 = .ok (.iload_n 1, 1) := by decide +kernel
theorem dX10_setOf_13 : decode cX10_setOf 13 = .ok (.aload_n 0, 1) := by decide +kernel
theorem dX10_setOf_14 : decode cX10_setOf 14 = .ok (.getfield 9, 3) := by decide +kernel
theorem dX10_setOf_17 : decode cX10_setOf 17 = .ok (.arraylength, 1) := by decide +kernel
theorem dX10_setOf_18 : decode cX10_setOf 18 = .ok (.if_icmp .ge 12, 3) := by decide +kernel
theorem dX10_setOf_21 : decode cX10_setOf 21 = .ok (.aload_n 0, 1) := by decide +kernel
theorem dX10_setOf_22 : decode cX10_setOf 22 = .ok (.getfield 9, 3) := by decide +kernel
theorem dX10_setOf_25 : decode cX10_setOf 25 = .ok (.iload_n 1, 1) := by decide +kernel
theorem dX10_setOf_26 : decode cX10_setOf 26 = .ok (.iaload, 1) := by decide +kernel
theorem dX10_setOf_27 : decode cX10_setOf 27 = .ok (.goto 4, 3) := by decide +kernel
theorem dX10_setOf_30 : decode cX10_setOf 30 = .ok (.iconst 0, 1) := by decide +kernel
theorem dX10_setOf_31 : decode cX10_setOf 31 = .ok (.ireturn, 1) := by decide +kernel
theorem dX10_wayOf_0 : decode cX10_wayOf 0 = .ok (.iload_n 1, 1) := by decide +kernel
theorem dX10_wayOf_1 : decode cX10_wayOf 1 = .ok (.ifCond .lt 29, 3) := by decide +kernel
theorem dX10_wayOf_4 : decode cX10_wayOf 4 = .ok (.iload_n 1, 1) := by decide +kernel
theorem dX10_wayOf_5 : decode cX10_wayOf 5 = .ok (.aload_n 0, 1) := by decide +kernel
theorem dX10_wayOf_6 : decode cX10_wayOf 6 = .ok (.getfield 18, 3) := by decide +kernel
theorem dX10_wayOf_9 : decode cX10_wayOf 9 = .ok (.if_icmp .ge 21, 3) := by decide +kernel
theorem dX10_wayOf_12 : decode cX10_wayOf 12 = .ok (.iload_n 1, 1) := by decide +kernel
theorem dX10_wayOf_13 : decode cX10_wayOf 13 = .ok (.aload_n 0, 1) := by decide +kernel
theorem dX10_wayOf_14 : decode cX10_wayOf 14 = .ok (.getfield 15, 3) := by decide +kernel
theorem dX10_wayOf_17 : decode cX10_wayOf 17 = .ok (.arraylength, 1) := by decide +kernel
theorem dX10_wayOf_18 : decode cX10_wayOf 18 = .ok (.if_icmp .ge 12, 3) := by decide +kernel
theorem dX10_wayOf_21 : decode cX10_wayOf 21 = .ok (.aload_n 0, 1) := by decide +kernel
theorem dX10_wayOf_22 : decode cX10_wayOf 22 = .ok (.getfield 15, 3) := by decide +kernel
theorem dX10_wayOf_25 : decode cX10_wayOf 25 = .ok (.iload_n 1, 1) := by decide +kernel
theorem dX10_wayOf_26 : decode cX10_wayOf 26 = .ok (.iaload, 1) := by decide +kernel
theorem dX10_wayOf_27 : decode cX10_wayOf 27 = .ok (.goto 4, 3) := by decide +kernel
theorem dX10_wayOf_30 : decode cX10_wayOf 30 = .ok (.iconst 0, 1) := by decide +kernel
theorem dX10_wayOf_31 : decode cX10_wayOf 31 = .ok (.ireturn, 1) := by decide +kernel
theorem dX10_putWay_0 : decode cX10_putWay 0 = .ok (.iload_n 1, 1) := by decide +kernel
theorem dX10_putWay_1 : decode cX10_putWay 1 = .ok (.ifCond .lt 19, 3) := by decide +kernel
theorem dX10_putWay_4 : decode cX10_putWay 4 = .ok (.iload_n 1, 1) := by decide +kernel
theorem dX10_putWay_5 : decode cX10_putWay 5 = .ok (.aload_n 0, 1) := by decide +kernel
theorem dX10_putWay_6 : decode cX10_putWay 6 = .ok (.getfield 15, 3) := by decide +kernel
theorem dX10_putWay_9 : decode cX10_putWay 9 = .ok (.arraylength, 1) := by decide +kernel
theorem dX10_putWay_10 : decode cX10_putWay 10 = .ok (.if_icmp .ge 10, 3) := by decide +kernel
theorem dX10_putWay_13 : decode cX10_putWay 13 = .ok (.aload_n 0, 1) := by decide +kernel
theorem dX10_putWay_14 : decode cX10_putWay 14 = .ok (.getfield 15, 3) := by decide +kernel
theorem dX10_putWay_17 : decode cX10_putWay 17 = .ok (.iload_n 1, 1) := by decide +kernel
theorem dX10_putWay_18 : decode cX10_putWay 18 = .ok (.iload_n 2, 1) := by decide +kernel
theorem dX10_putWay_19 : decode cX10_putWay 19 = .ok (.iastore, 1) := by decide +kernel
theorem dX10_putWay_20 : decode cX10_putWay 20 = .ok (.return_, 1) := by decide +kernel
theorem dX10_sizeOf_0 : decode cX10_sizeOf 0 = .ok (.aload_n 1, 1) := by decide +kernel
theorem dX10_sizeOf_1 : decode cX10_sizeOf 1 = .ok (.aload_n 0, 1) := by decide +kernel
theorem dX10_sizeOf_2 : decode cX10_sizeOf 2 = .ok (.iload_n 2, 1) := by decide +kernel
theorem dX10_sizeOf_3 : decode cX10_sizeOf 3 = .ok (.invokevirtual 49, 3) := by decide +kernel
theorem dX10_sizeOf_6 : decode cX10_sizeOf 6 = .ok (.iload_n 3, 1) := by decide +kernel
theorem dX10_sizeOf_7 : decode cX10_sizeOf 7 = .ok (.invokevirtual 53, 3) := by decide +kernel
theorem dX10_sizeOf_10 : decode cX10_sizeOf 10 = .ok (.aload_n 1, 1) := by decide +kernel
theorem dX10_sizeOf_11 : decode cX10_sizeOf 11 = .ok (.aload_n 0, 1) := by decide +kernel
theorem dX10_sizeOf_12 : decode cX10_sizeOf 12 = .ok (.iload_n 2, 1) := by decide +kernel
theorem dX10_sizeOf_13 : decode cX10_sizeOf 13 = .ok (.invokevirtual 49, 3) := by decide +kernel
theorem dX10_sizeOf_16 : decode cX10_sizeOf 16 = .ok (.iload_n 3, 1) := by decide +kernel
theorem dX10_sizeOf_17 : decode cX10_sizeOf 17 = .ok (.invokevirtual 57, 3) := by decide +kernel
theorem dX10_sizeOf_20 : decode cX10_sizeOf 20 = .ok (.isub, 1) := by decide +kernel
theorem dX10_sizeOf_21 : decode cX10_sizeOf 21 = .ok (.ireturn, 1) := by decide +kernel
theorem dX10_planAlignment_0 : decode cX10_planAlignment 0 = .ok (.aload_n 1, 1) := by decide +kernel
theorem dX10_planAlignment_1 : decode cX10_planAlignment 1 = .ok (.aload_n 1, 1) := by decide +kernel
theorem dX10_planAlignment_2 : decode cX10_planAlignment 2 = .ok (.getfield 34, 3) := by decide +kernel
theorem dX10_planAlignment_5 : decode cX10_planAlignment 5 = .ok (.iload_n 2, 1) := by decide +kernel
theorem dX10_planAlignment_6 : decode cX10_planAlignment 6 = .ok (.iload_n 3, 1) := by decide +kernel
theorem dX10_planAlignment_7 : decode cX10_planAlignment 7 = .ok (.invokevirtual 60, 3) := by decide +kernel
theorem dX10_planAlignment_10 : decode cX10_planAlignment 10 = .ok (.istore 4, 2) := by decide +kernel
theorem dX10_planAlignment_12 : decode cX10_planAlignment 12 = .ok (.iconst 0, 1) := by decide +kernel
theorem dX10_planAlignment_13 : decode cX10_planAlignment 13 = .ok (.istore 5, 2) := by decide +kernel
theorem dX10_planAlignment_15 : decode cX10_planAlignment 15 = .ok (.iload 5, 2) := by decide +kernel
theorem dX10_planAlignment_17 : decode cX10_planAlignment 17 = .ok (.aload_n 0, 1) := by decide +kernel
theorem dX10_planAlignment_18 : decode cX10_planAlignment 18 = .ok (.getfield 18, 3) := by decide +kernel
theorem dX10_planAlignment_21 : decode cX10_planAlignment 21 = .ok (.if_icmp .ge 30, 3) := by decide +kernel
theorem dX10_planAlignment_24 : decode cX10_planAlignment 24 = .ok (.aload_n 0, 1) := by decide +kernel
theorem dX10_planAlignment_25 : decode cX10_planAlignment 25 = .ok (.iload 5, 2) := by decide +kernel
theorem dX10_planAlignment_27 : decode cX10_planAlignment 27 = .ok (.iload 4, 2) := by decide +kernel
theorem dX10_planAlignment_29 : decode cX10_planAlignment 29 = .ok (.aload_n 1, 1) := by decide +kernel
theorem dX10_planAlignment_30 : decode cX10_planAlignment 30 = .ok (.aload_n 0, 1) := by decide +kernel
theorem dX10_planAlignment_31 : decode cX10_planAlignment 31 = .ok (.iload 5, 2) := by decide +kernel
theorem dX10_planAlignment_33 : decode cX10_planAlignment 33 = .ok (.invokevirtual 49, 3) := by decide +kernel
theorem dX10_planAlignment_36 : decode cX10_planAlignment 36 = .ok (.iload_n 2, 1) := by decide +kernel
theorem dX10_planAlignment_37 : decode cX10_planAlignment 37 = .ok (.iload_n 3, 1) := by decide +kernel
theorem dX10_planAlignment_38 : decode cX10_planAlignment 38 = .ok (.invokevirtual 60, 3) := by decide +kernel
theorem dX10_planAlignment_41 : decode cX10_planAlignment 41 = .ok (.isub, 1) := by decide +kernel
theorem dX10_planAlignment_42 : decode cX10_planAlignment 42 = .ok (.invokevirtual 64, 3) := by decide +kernel
theorem dX10_planAlignment_45 : decode cX10_planAlignment 45 = .ok (.iinc 5 1, 3) := by decide +kernel
theorem dX10_planAlignment_48 : decode cX10_planAlignment 48 = .ok (.goto (-33), 3) := by decide +kernel
theorem dX10_planAlignment_51 : decode cX10_planAlignment 51 = .ok (.return_, 1) := by decide +kernel
theorem dX10_planDistribution_0 : decode cX10_planDistribution 0 = .ok (.aload_n 0, 1) := by decide +kernel
theorem dX10_planDistribution_1 : decode cX10_planDistribution 1 = .ok (.aload_n 1, 1) := by decide +kernel
theorem dX10_planDistribution_2 : decode cX10_planDistribution 2 = .ok (.iload_n 2, 1) := by decide +kernel
theorem dX10_planDistribution_3 : decode cX10_planDistribution 3 = .ok (.invokevirtual 68, 3) := by decide +kernel
theorem dX10_planDistribution_6 : decode cX10_planDistribution 6 = .ok (.aload_n 0, 1) := by decide +kernel
theorem dX10_planDistribution_7 : decode cX10_planDistribution 7 = .ok (.getfield 18, 3) := by decide +kernel
theorem dX10_planDistribution_10 : decode cX10_planDistribution 10 = .ok (.iconst 1, 1) := by decide +kernel
theorem dX10_planDistribution_11 : decode cX10_planDistribution 11 = .ok (.isub, 1) := by decide +kernel
